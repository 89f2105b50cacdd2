set_option maxHeartbeats 4000000 in
set_option maxRecDepth 100000 in
/-- Arrays.fill of a row of noughts with 0 -/
theorem n_fill0 (l : Launch) (D : va_G) (cA : Nat → ClassId) (pre : va_W) (suf : va_W) (a : Nat) : ∀ sz, Met l ⟨"java/util/Arrays", "fill", "([II)V"⟩ (Cond.code ⟨"java/util/Arrays", "fill", "([II)V"⟩ prog_12_method_103_code 4 none :: cs_all) { frames := 0, cells := 0, slots := 0, locals := 0 } (cs_Pn D cA (cs_pw pre ((a, .inl (cA 0, 43, .inl (fun _ => 0))) :: suf)) [.ref a, .int 0] sz) (cs_Qn D (fun _ => cs_pw pre ((a, .inl (cA 0, 43, .inl (fun _ => 0))) :: suf)) (va_A (cs_pw pre ((a, .inl (cA 0, 43, .inl (fun _ => 0))) :: suf)) sz)) 0 0 (va_A (cs_pw pre ((a, .inl (cA 0, 43, .inl (fun _ => 0))) :: suf)) sz) := by
  refine cs_entryN (by decide) (Nat.le_of_ble_eq_true rfl) (fun p e s m below meth c A ls hC hr hlk hnm hP hD hS hAO hl => ?_)
  obtain ⟨hx, hb, hml, hown, hts, hK, hA, hN⟩ := id hC
  have hl : lv_has ls 4 [(0, .ref a), (1, .int 0)] := hl
  refine lv_iconst (v := 0) hx hb d_Ar_fill_0 (by decide) ?_
  refine lv_istore_n (lv' := [(2, .int 0), (0, .ref a), (1, .int 0)]) hx hb d_Ar_fill_1 rfl hl (by decide) rfl (fun ls hl => ?_)
  refine lv_aload_n hx hb d_Ar_fill_2 rfl (lv_at hl 1 rfl) ?_
  refine va_alen hx hb hK hP pre.length 0 (cs_pw_at0 rfl) rfl rfl d_Ar_fill_3 ?_
  refine lv_istore_n (lv' := [(3, .int 43), (2, .int 0), (0, .ref a), (1, .int 0)]) hx hb d_Ar_fill_4 rfl hl (by decide) rfl (fun ls hl => ?_)
  have key : ∀ (k i : Nat), i + k = 43 → ∀ (H : Heap) (locs : List Loc) (ls : Array Slot), va_P D cs_cl (cs_pw pre ((a, .inl (cA 0, 43, .inl (fun _ => 0))) :: suf)) H → va_D A (cs_pw pre ((a, .inl (cA 0, 43, .inl (fun _ => 0))) :: suf)) → va_S A s.heap H locs → lv_has ls 4 [(0, .ref a), (1, .int 0), (2, .int (nI i)), (3, .int 43)] →
      W p l e { frames := 0, cells := 0, slots := 0, locals := 0 } s m #[Value.ref a, Value.int 0] below meth c H locs 0 0 (MQ below (cs_Qn D (fun _ => cs_pw pre ((a, .inl (cA 0, 43, .inl (fun _ => 0))) :: suf)) A) #[Value.ref a, Value.int 0] s 0 0 A) (F0 m 5 ls []) := by
    intro k
    induction k with
    | zero =>
      intro i hi H locs ls hP hD hS hl
      have hi : i = 43 := hi
      subst hi
      refine lv_iload_n hx hb d_Ar_fill_5 rfl (lv_at hl 2 rfl) ?_
      refine lv_iload_n hx hb d_Ar_fill_6 rfl (lv_at hl 3 rfl) ?_
      refine lv_icmp_ge (tgt := 20) hx hb d_Ar_fill_7 (by decide) (fun _ => ?_) (fun c9 => absurd (by decide) c9)
      exact W.vret hx hb hr (fun t ht hW => ⟨⟨(fun _ => 0), rfl, trivial, by rw [ht]; exact hP, hD⟩, hS.F ht⟩) hS.2.2 d_Ar_fill_20 hlk
    | succ k ih =>
      intro i hi H locs ls hP hD hS hl
      have h1 : i < 43 := by omega
      refine lv_iload_n hx hb d_Ar_fill_5 rfl (lv_at hl 2 rfl) ?_
      refine lv_iload_n hx hb d_Ar_fill_6 rfl (lv_at hl 3 rfl) ?_
      refine lv_icmp_ge (tgt := 20) hx hb d_Ar_fill_7 (by decide) (fun c9 => absurd c9 (nI_ge h1 (by decide))) (fun _ => ?_)
      refine lv_aload_n hx hb d_Ar_fill_10 rfl (lv_at hl 0 rfl) ?_
      refine lv_iload_n hx hb d_Ar_fill_11 rfl (lv_at hl 2 rfl) ?_
      refine lv_iload_n hx hb d_Ar_fill_12 rfl (lv_at hl 1 rfl) ?_
      refine va_iast hx hb hK hP hD hS pre.length 0 (cs_pw_at0 rfl) rfl (vp_in_nI h1 (by decide)) d_Ar_fill_13 (fun H locs hP hD hS => ?_)
      have hz : upd (fun _ => (0 : Int32)) (nI i).toNatClampNeg 0 = (fun _ => 0) := by
        funext q
        simp [upd]
      rw [hz, show pre.length = pre.length + 0 from rfl, cs_pw_set] at hP hD
      refine lv_iinc (v := nI (i + 1)) (lv' := [(2, .int (nI (i + 1))), (0, .ref a), (1, .int 0), (3, .int 43)]) hx hb d_Ar_fill_14 hl (k := 2) rfl (by rw [← nI_1]; rfl) (by decide) rfl (fun ls hl => ?_)
      refine lv_goto (tgt := 5) hx hb d_Ar_fill_17 (by decide) ?_
      exact ih (i + 1) (by omega) _ _ ls hP hD hS (lv_sub hl [1, 2, 0, 3] rfl)
  exact key 43 0 rfl _ _ ls hP hD hS (lv_sub hl [2, 3, 1, 0] rfl)
set_option maxHeartbeats 8000000 in
set_option maxRecDepth 100000 in
theorem n_Re (l : Launch) (D : va_G) (cA : Nat → ClassId) (pre : va_W) (o : Nat) (pr : Nat) (c1 : Nat) (l1 : Nat) : ∀ sz, Met l ⟨"ClassStarter$Machine", "restart", "()V"⟩ (Cond.code ⟨"ClassStarter$Machine", "restart", "()V"⟩ prog_4_method_2_code 2 none :: cs_all) { frames := 1, cells := 0, slots := 0, locals := 23 } (cs_Pn D cA (cs_pw pre [(o, .inr (3, [.ref pr, .ref c1, .ref l1])), (c1, .inl (cA 0, 43, .inl (fun _ => 0))), (l1, .inl (cA 0, 49, .inl (fun _ => 0)))]) [.ref o] sz) (cs_Qn D (fun q => cs_pw pre [(o, .inr (3, [.ref pr, .ref c1, .ref l1])), (c1, .inl (cA 0, 43, .inl (upd (upd (upd (fun _ => 0) 35 8) 36 9) 37 10))), (l1, .inl (cA 0, 49, .inl (fun _ => 0)))]) (va_A (cs_pw pre [(o, .inr (3, [.ref pr, .ref c1, .ref l1])), (c1, .inl (cA 0, 43, .inl (fun _ => 0))), (l1, .inl (cA 0, 49, .inl (fun _ => 0)))]) sz)) 0 0 (va_A (cs_pw pre [(o, .inr (3, [.ref pr, .ref c1, .ref l1])), (c1, .inl (cA 0, 43, .inl (fun _ => 0))), (l1, .inl (cA 0, 49, .inl (fun _ => 0)))]) sz) := by
  refine cs_entryN (by decide) (Nat.le_of_ble_eq_true rfl) (fun p e s m below meth c A ls hC hr hlk hnm hP hD hS hAO hl => ?_)
  obtain ⟨hx, hb, hml, hown, hts, hK, hA, hN⟩ := id hC
  have hin : meth.name = "restart" := (name_of_methodNamed hnm.1 hnm.2).1
  have hl : lv_has ls 2 [(0, .ref o)] := hl
  refine lv_aload_n hx hb d_Ma_restart_0 rfl (lv_at hl 0 rfl) ?_
  refine va_get (D := D) (ci := 3) (v := .ref c1) (C := "ClassStarter$Machine") (T := cs_T3) (N := 3) hx hb hts cs_in3 hown hK hP (pre.length + 0) (cs_pw_at rfl) rfl 1 (by decide) (hts _ wd_131) (fun _ h => h) rfl d_Ma_restart_1 ?_
  refine lv_iconst (v := 0) hx hb d_Ma_restart_4 (by decide) ?_
  rw [show cs_pw pre [(o, .inr (3, [.ref pr, .ref c1, .ref l1])), (c1, .inl (cA 0, 43, .inl (fun _ => 0))), (l1, .inl (cA 0, 49, .inl (fun _ => 0)))] = cs_pw (cs_pw pre [(o, .inr (3, [.ref pr, .ref c1, .ref l1]))]) [(c1, .inl (cA 0, 43, .inl (fun _ => 0))), (l1, .inl (cA 0, 49, .inl (fun _ => 0)))] from cs_pw_split (L1 := [(o, .inr (3, [.ref pr, .ref c1, .ref l1]))]) (L2 := [(c1, .inl (cA 0, 43, .inl (fun _ => 0))), (l1, .inl (cA 0, 49, .inl (fun _ => 0)))])] at hP hD
  refine cs_callNS (n := 2) (rest := []) hC hAO hP hD hS ((n_fill0 l D cA (cs_pw pre [(o, .inr (3, [.ref pr, .ref c1, .ref l1]))]) [(l1, .inl (cA 0, 49, .inl (fun _ => 0)))] c1) _) rfl rfl wd_127 wd_128 wd_129 wd_47 (by decide +kernel) ⟨Nat.le_of_ble_eq_true rfl, Nat.le_of_ble_eq_true rfl⟩ hl.1 rfl rfl (Nat.le_of_ble_eq_true rfl) d_Ma_restart_5 ⟨Nat.le_of_ble_eq_true rfl, Nat.le_of_ble_eq_true rfl⟩ (fun k0 H locs hP hD hS => ?_)
  rw [← cs_pw_split] at hP hD
  have hP : va_P D cs_cl (cs_pw pre [(o, .inr (3, [.ref pr, .ref c1, .ref l1])), (c1, .inl (cA 0, 43, .inl (fun _ => 0))), (l1, .inl (cA 0, 49, .inl (fun _ => 0)))]) H := hP
  have hD : va_D A (cs_pw pre [(o, .inr (3, [.ref pr, .ref c1, .ref l1])), (c1, .inl (cA 0, 43, .inl (fun _ => 0))), (l1, .inl (cA 0, 49, .inl (fun _ => 0)))]) := hD
  refine lv_iconst (v := 0) hx hb d_Ma_restart_8 (by decide) ?_
  refine lv_istore_n (lv' := [(1, .int 0), (0, .ref o)]) hx hb d_Ma_restart_9 rfl hl (by decide) rfl (fun ls hl => ?_)
  refine lv_iload_n hx hb d_Ma_restart_10 rfl (lv_at hl 0 rfl) ?_
  refine lv_iconst (v := 3) hx hb d_Ma_restart_11 (by decide) ?_
  refine lv_icmp_ge (tgt := 34) hx hb d_Ma_restart_12 (by decide) (fun c9 => absurd c9 (by decide)) (fun _ => ?_)
  refine lv_aload_n hx hb d_Ma_restart_15 rfl (lv_at hl 1 rfl) ?_
  refine va_get (D := D) (ci := 3) (v := .ref c1) (C := "ClassStarter$Machine") (T := cs_T3) (N := 3) hx hb hts cs_in3 hown hK hP (pre.length + 0) (cs_pw_at rfl) rfl 1 (by decide) (hts _ wd_131) (fun _ h => h) rfl d_Ma_restart_16 ?_
  refine lv_bipush (v := 35) hx hb d_Ma_restart_19 (by decide) ?_
  refine lv_iload_n hx hb d_Ma_restart_21 rfl (lv_at hl 0 rfl) ?_
  refine lv_iadd hx hb d_Ma_restart_22 ?_
  refine W.eq (g2 := F0 m 23 ls [.int 35, .ref c1]) rfl ?_
  refine lv_bipush (v := 8) hx hb d_Ma_restart_23 (by decide) ?_
  refine lv_iload_n hx hb d_Ma_restart_25 rfl (lv_at hl 0 rfl) ?_
  refine lv_iadd hx hb d_Ma_restart_26 ?_
  refine W.eq (g2 := F0 m 27 ls [.int 8, .int 35, .ref c1]) rfl ?_
  refine va_iast hx hb hK hP hD hS (pre.length + 1) 0 (cs_pw_at rfl) rfl (vp_in_nI (n := 35) (by decide) (by decide)) d_Ma_restart_27 (fun H locs hP hD hS => ?_)
  rw [cs_pw_set] at hP hD
  have hP : va_P D cs_cl (cs_pw pre [(o, .inr (3, [.ref pr, .ref c1, .ref l1])), (c1, .inl (cA 0, 43, .inl (upd (fun _ => 0) 35 8))), (l1, .inl (cA 0, 49, .inl (fun _ => 0)))]) H := hP
  have hD : va_D A (cs_pw pre [(o, .inr (3, [.ref pr, .ref c1, .ref l1])), (c1, .inl (cA 0, 43, .inl (upd (fun _ => 0) 35 8))), (l1, .inl (cA 0, 49, .inl (fun _ => 0)))]) := hD
  refine lv_iinc (v := 1) (lv' := [(1, .int 1), (0, .ref o)]) hx hb d_Ma_restart_28 hl (k := 0) rfl (by decide) (by decide) rfl (fun ls hl => ?_)
  refine lv_goto (tgt := 10) hx hb d_Ma_restart_31 (by decide) ?_
  refine lv_iload_n hx hb d_Ma_restart_10 rfl (lv_at hl 0 rfl) ?_
  refine lv_iconst (v := 3) hx hb d_Ma_restart_11 (by decide) ?_
  refine lv_icmp_ge (tgt := 34) hx hb d_Ma_restart_12 (by decide) (fun c9 => absurd c9 (by decide)) (fun _ => ?_)
  refine lv_aload_n hx hb d_Ma_restart_15 rfl (lv_at hl 1 rfl) ?_
  refine va_get (D := D) (ci := 3) (v := .ref c1) (C := "ClassStarter$Machine") (T := cs_T3) (N := 3) hx hb hts cs_in3 hown hK hP (pre.length + 0) (cs_pw_at rfl) rfl 1 (by decide) (hts _ wd_131) (fun _ h => h) rfl d_Ma_restart_16 ?_
  refine lv_bipush (v := 35) hx hb d_Ma_restart_19 (by decide) ?_
  refine lv_iload_n hx hb d_Ma_restart_21 rfl (lv_at hl 0 rfl) ?_
  refine lv_iadd hx hb d_Ma_restart_22 ?_
  refine W.eq (g2 := F0 m 23 ls [.int 36, .ref c1]) rfl ?_
  refine lv_bipush (v := 8) hx hb d_Ma_restart_23 (by decide) ?_
  refine lv_iload_n hx hb d_Ma_restart_25 rfl (lv_at hl 0 rfl) ?_
  refine lv_iadd hx hb d_Ma_restart_26 ?_
  refine W.eq (g2 := F0 m 27 ls [.int 9, .int 36, .ref c1]) rfl ?_
  refine va_iast hx hb hK hP hD hS (pre.length + 1) 0 (cs_pw_at rfl) rfl (vp_in_nI (n := 36) (by decide) (by decide)) d_Ma_restart_27 (fun H locs hP hD hS => ?_)
  rw [cs_pw_set] at hP hD
  have hP : va_P D cs_cl (cs_pw pre [(o, .inr (3, [.ref pr, .ref c1, .ref l1])), (c1, .inl (cA 0, 43, .inl (upd (upd (fun _ => 0) 35 8) 36 9))), (l1, .inl (cA 0, 49, .inl (fun _ => 0)))]) H := hP
  have hD : va_D A (cs_pw pre [(o, .inr (3, [.ref pr, .ref c1, .ref l1])), (c1, .inl (cA 0, 43, .inl (upd (upd (fun _ => 0) 35 8) 36 9))), (l1, .inl (cA 0, 49, .inl (fun _ => 0)))]) := hD
  refine lv_iinc (v := 2) (lv' := [(1, .int 2), (0, .ref o)]) hx hb d_Ma_restart_28 hl (k := 0) rfl (by decide) (by decide) rfl (fun ls hl => ?_)
  refine lv_goto (tgt := 10) hx hb d_Ma_restart_31 (by decide) ?_
  refine lv_iload_n hx hb d_Ma_restart_10 rfl (lv_at hl 0 rfl) ?_
  refine lv_iconst (v := 3) hx hb d_Ma_restart_11 (by decide) ?_
  refine lv_icmp_ge (tgt := 34) hx hb d_Ma_restart_12 (by decide) (fun c9 => absurd c9 (by decide)) (fun _ => ?_)
  refine lv_aload_n hx hb d_Ma_restart_15 rfl (lv_at hl 1 rfl) ?_
  refine va_get (D := D) (ci := 3) (v := .ref c1) (C := "ClassStarter$Machine") (T := cs_T3) (N := 3) hx hb hts cs_in3 hown hK hP (pre.length + 0) (cs_pw_at rfl) rfl 1 (by decide) (hts _ wd_131) (fun _ h => h) rfl d_Ma_restart_16 ?_
  refine lv_bipush (v := 35) hx hb d_Ma_restart_19 (by decide) ?_
  refine lv_iload_n hx hb d_Ma_restart_21 rfl (lv_at hl 0 rfl) ?_
  refine lv_iadd hx hb d_Ma_restart_22 ?_
  refine W.eq (g2 := F0 m 23 ls [.int 37, .ref c1]) rfl ?_
  refine lv_bipush (v := 8) hx hb d_Ma_restart_23 (by decide) ?_
  refine lv_iload_n hx hb d_Ma_restart_25 rfl (lv_at hl 0 rfl) ?_
  refine lv_iadd hx hb d_Ma_restart_26 ?_
  refine W.eq (g2 := F0 m 27 ls [.int 10, .int 37, .ref c1]) rfl ?_
  refine va_iast hx hb hK hP hD hS (pre.length + 1) 0 (cs_pw_at rfl) rfl (vp_in_nI (n := 37) (by decide) (by decide)) d_Ma_restart_27 (fun H locs hP hD hS => ?_)
  rw [cs_pw_set] at hP hD
  have hP : va_P D cs_cl (cs_pw pre [(o, .inr (3, [.ref pr, .ref c1, .ref l1])), (c1, .inl (cA 0, 43, .inl (upd (upd (upd (fun _ => 0) 35 8) 36 9) 37 10))), (l1, .inl (cA 0, 49, .inl (fun _ => 0)))]) H := hP
  have hD : va_D A (cs_pw pre [(o, .inr (3, [.ref pr, .ref c1, .ref l1])), (c1, .inl (cA 0, 43, .inl (upd (upd (upd (fun _ => 0) 35 8) 36 9) 37 10))), (l1, .inl (cA 0, 49, .inl (fun _ => 0)))]) := hD
  refine lv_iinc (v := 3) (lv' := [(1, .int 3), (0, .ref o)]) hx hb d_Ma_restart_28 hl (k := 0) rfl (by decide) (by decide) rfl (fun ls hl => ?_)
  refine lv_goto (tgt := 10) hx hb d_Ma_restart_31 (by decide) ?_
  refine lv_iload_n hx hb d_Ma_restart_10 rfl (lv_at hl 0 rfl) ?_
  refine lv_iconst (v := 3) hx hb d_Ma_restart_11 (by decide) ?_
  refine lv_icmp_ge (tgt := 34) hx hb d_Ma_restart_12 (by decide) (fun _ => ?_) (fun c9 => absurd c9 (by decide))
  exact W.vret hx hb hr (fun t ht hW => ⟨⟨(fun i => ([] : List Nat).getD i 0), rfl, trivial, by rw [ht]; exact hP, hD⟩, hS.F ht⟩) hS.2.2 d_Ma_restart_34 hlk
theorem d_Ma_init_0 : decode prog_4_method_1_code 0 = .ok (.aload_n 0, 1) := by decide +kernel
theorem d_Ma_init_1 : decode prog_4_method_1_code 1 = .ok (.invokespecial 5, 3) := by decide +kernel
theorem d_Ma_init_4 : decode prog_4_method_1_code 4 = .ok (.aload_n 0, 1) := by decide +kernel
theorem d_Ma_init_5 : decode prog_4_method_1_code 5 = .ok (.bipush 43, 2) := by decide +kernel
theorem d_Ma_init_7 : decode prog_4_method_1_code 7 = .ok (.newarray .int, 2) := by decide +kernel
theorem d_Ma_init_9 : decode prog_4_method_1_code 9 = .ok (.putfield 11, 3) := by decide +kernel
theorem d_Ma_init_12 : decode prog_4_method_1_code 12 = .ok (.aload_n 0, 1) := by decide +kernel
theorem d_Ma_init_13 : decode prog_4_method_1_code 13 = .ok (.bipush 49, 2) := by decide +kernel
theorem d_Ma_init_15 : decode prog_4_method_1_code 15 = .ok (.newarray .int, 2) := by decide +kernel
theorem d_Ma_init_17 : decode prog_4_method_1_code 17 = .ok (.putfield 15, 3) := by decide +kernel
theorem d_Ma_init_20 : decode prog_4_method_1_code 20 = .ok (.aload_n 0, 1) := by decide +kernel
theorem d_Ma_init_21 : decode prog_4_method_1_code 21 = .ok (.aload_n 1, 1) := by decide +kernel
theorem d_Ma_init_22 : decode prog_4_method_1_code 22 = .ok (.putfield 18, 3) := by decide +kernel
theorem d_Ma_init_25 : decode prog_4_method_1_code 25 = .ok (.aload_n 0, 1) := by decide +kernel
theorem d_Ma_init_26 : decode prog_4_method_1_code 26 = .ok (.invokevirtual 22, 3) := by decide +kernel
theorem d_Ma_init_29 : decode prog_4_method_1_code 29 = .ok (.return_, 1) := by decide +kernel
set_option maxHeartbeats 8000000 in
set_option maxRecDepth 100000 in
theorem n_Ma (l : Launch) (D : va_G) (cA : Nat → ClassId) (pre : va_W) (o : Nat) (pr : Nat) : ∀ sz, Met l ⟨"ClassStarter$Machine", "<init>", "(LClassStarter$Program;)V"⟩ (Cond.code ⟨"ClassStarter$Machine", "<init>", "(LClassStarter$Program;)V"⟩ prog_4_method_1_code 2 none :: cs_all) { frames := 2, cells := 2, slots := 92, locals := 44 } (cs_Pn D cA (cs_pw pre [(o, .inr (3, [.null, .null, .null]))]) [.ref o, .ref pr] sz) (cs_Qn D (fun q => cs_pw pre [(o, .inr (3, [.ref pr, .ref (q 0), .ref (q 1)])), ((q 0), .inl (cA 0, 43, .inl (upd (upd (upd (fun _ => 0) 35 8) 36 9) 37 10))), ((q 1), .inl (cA 0, 49, .inl (fun _ => 0)))]) (va_A (cs_pw pre [(o, .inr (3, [.null, .null, .null]))]) sz)) 2 92 (va_A (cs_pw pre [(o, .inr (3, [.null, .null, .null]))]) sz) := by
  refine cs_entryN (by decide) (Nat.le_of_ble_eq_true rfl) (fun p e s m below meth c A ls hC hr hlk hnm hP hD hS hAO hl => ?_)
  obtain ⟨hx, hb, hml, hown, hts, hK, hA, hN⟩ := id hC
  have hin : meth.name = "<init>" := (name_of_methodNamed hnm.1 hnm.2).1
  have hl : lv_has ls 2 [(0, .ref o), (1, .ref pr)] := hl
  refine lv_aload_n hx hb d_Ma_init_0 rfl (lv_at hl 0 rfl) ?_
  refine W.objInit hx hb hown (hts _ wd_122) (hts _ wd_59) (hts _ wd_60) rfl (by rw [hml]; exact hl.1) rfl d_Ma_init_1 (Nat.le_of_ble_eq_true rfl) (Nat.le_of_ble_eq_true rfl) ?_
  refine W.eq (g2 := F0 m 4 ls []) rfl ?_
  refine lv_aload_n hx hb d_Ma_init_4 rfl (lv_at hl 0 rfl) ?_
  refine lv_bipush (v := 43) hx hb d_Ma_init_5 (by decide) ?_
  refine va_newa (atype := .int) (ty := .int) (N' := 43) (a0 := (43, .inl (fun _ => 0))) hx hb (hts _ wd_94) rfl hK hP hD hS hA (fun _ => rfl) (by decide) (by decide) (by decide) (Nat.le_of_ble_eq_true rfl) (Nat.le_of_ble_eq_true rfl) d_Ma_init_7 (fun q7_0 cB H hK9 hP hD hS => ?_)
  have hcB := cs_cA0 hK9
  subst hcB
  clear hK9
  rw [cs_pw_app] at hP hD
  have hP : va_P D cs_cl (cs_pw pre [(o, .inr (3, [.null, .null, .null])), (q7_0, .inl (cA 0, 43, .inl (fun _ => 0)))]) H := hP
  have hD : va_D A (cs_pw pre [(o, .inr (3, [.null, .null, .null])), (q7_0, .inl (cA 0, 43, .inl (fun _ => 0)))]) := hD
  refine va_putF (D := D) (ci := 3) (v := .ref q7_0) (ty := .array .int) (C := "ClassStarter$Machine") (T := cs_T3) (N := 3) hx hb hts cs_in3 cs_t3 cs_t3_ok cs_n3 hown hK hP hD hS (pre.length + 0) (cs_pw_at rfl) rfl 1 (by decide) (hts _ wd_131) (fun _ h => h) rfl hin rfl (by decide +kernel) rfl rfl (Nat.le_of_ble_eq_true rfl) d_Ma_init_9 (fun H locs hP hD hS => ?_)
  rw [cs_pw_set] at hP hD
  have hP : va_P D cs_cl (cs_pw pre [(o, .inr (3, [.null, .ref q7_0, .null])), (q7_0, .inl (cA 0, 43, .inl (fun _ => 0)))]) H := hP
  have hD : va_D A (cs_pw pre [(o, .inr (3, [.null, .ref q7_0, .null])), (q7_0, .inl (cA 0, 43, .inl (fun _ => 0)))]) := hD
  refine lv_aload_n hx hb d_Ma_init_12 rfl (lv_at hl 0 rfl) ?_
  refine lv_bipush (v := 49) hx hb d_Ma_init_13 (by decide) ?_
  refine va_newa (atype := .int) (ty := .int) (N' := 49) (a0 := (49, .inl (fun _ => 0))) hx hb (hts _ wd_94) rfl hK hP hD hS hA (fun _ => rfl) (by decide) (by decide) (by decide) (Nat.le_of_ble_eq_true rfl) (Nat.le_of_ble_eq_true rfl) d_Ma_init_15 (fun q15_1 cB H hK9 hP hD hS => ?_)
  have hcB := cs_cA0 hK9
  subst hcB
  clear hK9
  rw [cs_pw_app] at hP hD
  have hP : va_P D cs_cl (cs_pw pre [(o, .inr (3, [.null, .ref q7_0, .null])), (q7_0, .inl (cA 0, 43, .inl (fun _ => 0))), (q15_1, .inl (cA 0, 49, .inl (fun _ => 0)))]) H := hP
  have hD : va_D A (cs_pw pre [(o, .inr (3, [.null, .ref q7_0, .null])), (q7_0, .inl (cA 0, 43, .inl (fun _ => 0))), (q15_1, .inl (cA 0, 49, .inl (fun _ => 0)))]) := hD
  refine va_putF (D := D) (ci := 3) (v := .ref q15_1) (ty := .array .int) (C := "ClassStarter$Machine") (T := cs_T3) (N := 3) hx hb hts cs_in3 cs_t3 cs_t3_ok cs_n3 hown hK hP hD hS (pre.length + 0) (cs_pw_at rfl) rfl 2 (by decide) (hts _ wd_132) (fun _ h => h) rfl hin rfl (by decide +kernel) rfl rfl (Nat.le_of_ble_eq_true rfl) d_Ma_init_17 (fun H locs hP hD hS => ?_)
  rw [cs_pw_set] at hP hD
  have hP : va_P D cs_cl (cs_pw pre [(o, .inr (3, [.null, .ref q7_0, .ref q15_1])), (q7_0, .inl (cA 0, 43, .inl (fun _ => 0))), (q15_1, .inl (cA 0, 49, .inl (fun _ => 0)))]) H := hP
  have hD : va_D A (cs_pw pre [(o, .inr (3, [.null, .ref q7_0, .ref q15_1])), (q7_0, .inl (cA 0, 43, .inl (fun _ => 0))), (q15_1, .inl (cA 0, 49, .inl (fun _ => 0)))]) := hD
  refine lv_aload_n hx hb d_Ma_init_20 rfl (lv_at hl 0 rfl) ?_
  refine lv_aload_n hx hb d_Ma_init_21 rfl (lv_at hl 1 rfl) ?_
  refine va_putF (D := D) (ci := 3) (v := .ref pr) (ty := .object "ClassStarter$Program") (C := "ClassStarter$Machine") (T := cs_T3) (N := 3) hx hb hts cs_in3 cs_t3 cs_t3_ok cs_n3 hown hK hP hD hS (pre.length + 0) (cs_pw_at rfl) rfl 0 (by decide) (hts _ wd_130) (fun _ h => h) rfl hin rfl (by decide +kernel) rfl rfl (Nat.le_of_ble_eq_true rfl) d_Ma_init_22 (fun H locs hP hD hS => ?_)
  rw [cs_pw_set] at hP hD
  have hP : va_P D cs_cl (cs_pw pre [(o, .inr (3, [.ref pr, .ref q7_0, .ref q15_1])), (q7_0, .inl (cA 0, 43, .inl (fun _ => 0))), (q15_1, .inl (cA 0, 49, .inl (fun _ => 0)))]) H := hP
  have hD : va_D A (cs_pw pre [(o, .inr (3, [.ref pr, .ref q7_0, .ref q15_1])), (q7_0, .inl (cA 0, 43, .inl (fun _ => 0))), (q15_1, .inl (cA 0, 49, .inl (fun _ => 0)))]) := hD
  refine lv_aload_n hx hb d_Ma_init_25 rfl (lv_at hl 0 rfl) ?_
  refine cs_callNV (n := 0) (rest := []) hC hAO hP hD hS (cs_pw_at0 rfl) rfl ((n_Re l D cA pre o pr q7_0 q15_1) _) rfl rfl wd_123 wd_124 wd_126 wd_46 wd_125 (by decide +kernel) ⟨Nat.le_of_ble_eq_true rfl, Nat.le_of_ble_eq_true rfl⟩ hl.1 rfl rfl (Nat.le_of_ble_eq_true rfl) d_Ma_init_26 ⟨Nat.le_of_ble_eq_true rfl, Nat.le_of_ble_eq_true rfl⟩ (fun k2 H locs hP hD hS => ?_)
  have hP : va_P D cs_cl (cs_pw pre [(o, .inr (3, [.ref pr, .ref q7_0, .ref q15_1])), (q7_0, .inl (cA 0, 43, .inl (upd (upd (upd (fun _ => 0) 35 8) 36 9) 37 10))), (q15_1, .inl (cA 0, 49, .inl (fun _ => 0)))]) H := hP
  have hD : va_D A (cs_pw pre [(o, .inr (3, [.ref pr, .ref q7_0, .ref q15_1])), (q7_0, .inl (cA 0, 43, .inl (upd (upd (upd (fun _ => 0) 35 8) 36 9) 37 10))), (q15_1, .inl (cA 0, 49, .inl (fun _ => 0)))]) := hD
  exact W.vret hx hb hr (fun t ht hW => ⟨⟨(fun i => ([q7_0, q15_1] : List Nat).getD i 0), rfl, trivial, by rw [ht]; exact hP, hD⟩, hS.F ht⟩) hS.2.2 d_Ma_init_29 hlk
set_option maxHeartbeats 8000000 in
set_option maxRecDepth 100000 in
theorem n_Ex (l : Launch) (D : va_G) (cA : Nat → ClassId) (pre : va_W) (o : Nat) (ma : Nat) (pr : Nat) (c1 : Nat) (l1 : Nat) : ∀ sz, Met l ⟨"ClassStarter$Explorer", "<init>", "(LClassStarter$Machine;)V"⟩ (Cond.code ⟨"ClassStarter$Explorer", "<init>", "(LClassStarter$Machine;)V"⟩ prog_2_method_1_code 2 none :: cs_all) { frames := 1, cells := 3, slots := 3921, locals := 12 } (cs_Pn D cA (cs_pw pre [(o, .inr (4, [.null, .null, .null, .null, .int 0, .int 0, .int 0, .int 0, .int 0, .int 0])), (ma, .inr (3, [.ref pr, .ref c1, .ref l1])), (c1, .inl (cA 0, 43, .inl (upd (upd (upd (fun _ => 0) 35 8) 36 9) 37 10))), (l1, .inl (cA 0, 49, .inl (fun _ => 0)))]) [.ref o, .ref ma] sz) (cs_Qn D (fun q => cs_pw pre [(o, .inr (4, [.ref ma, .ref (q 0), .ref (q 1), .ref (q 2), .int 0, .int 0, .int 0, .int 0, .int 0, .int 0])), (ma, .inr (3, [.ref pr, .ref c1, .ref l1])), (c1, .inl (cA 0, 43, .inl (upd (upd (upd (fun _ => 0) 35 8) 36 9) 37 10))), (l1, .inl (cA 0, 49, .inl (fun _ => 0))), ((q 0), .inl (cA 0, 3827, .inl (fun _ => 0))), ((q 1), .inl (cA 0, 90, .inl (fun _ => 0))), ((q 2), .inl (cA 0, 4, .inl (fun _ => 0)))]) (va_A (cs_pw pre [(o, .inr (4, [.null, .null, .null, .null, .int 0, .int 0, .int 0, .int 0, .int 0, .int 0])), (ma, .inr (3, [.ref pr, .ref c1, .ref l1])), (c1, .inl (cA 0, 43, .inl (upd (upd (upd (fun _ => 0) 35 8) 36 9) 37 10))), (l1, .inl (cA 0, 49, .inl (fun _ => 0)))]) sz)) 3 3921 (va_A (cs_pw pre [(o, .inr (4, [.null, .null, .null, .null, .int 0, .int 0, .int 0, .int 0, .int 0, .int 0])), (ma, .inr (3, [.ref pr, .ref c1, .ref l1])), (c1, .inl (cA 0, 43, .inl (upd (upd (upd (fun _ => 0) 35 8) 36 9) 37 10))), (l1, .inl (cA 0, 49, .inl (fun _ => 0)))]) sz) := by
  refine cs_entryN (by decide) (Nat.le_of_ble_eq_true rfl) (fun p e s m below meth c A ls hC hr hlk hnm hP hD hS hAO hl => ?_)
  obtain ⟨hx, hb, hml, hown, hts, hK, hA, hN⟩ := id hC
  have hin : meth.name = "<init>" := (name_of_methodNamed hnm.1 hnm.2).1
  have hl : lv_has ls 2 [(0, .ref o), (1, .ref ma)] := hl
  refine lv_aload_n hx hb d_Ex_init_0 rfl (lv_at hl 0 rfl) ?_
  refine W.objInit hx hb hown (hts _ wd_145) (hts _ wd_59) (hts _ wd_60) rfl (by rw [hml]; exact hl.1) rfl d_Ex_init_1 (Nat.le_of_ble_eq_true rfl) (Nat.le_of_ble_eq_true rfl) ?_
  refine W.eq (g2 := F0 m 4 ls []) rfl ?_
  refine lv_aload_n hx hb d_Ex_init_4 rfl (lv_at hl 0 rfl) ?_
  refine lv_sipush (v := 3827) hx hb d_Ex_init_5 (by decide) ?_
  refine va_newa (atype := .int) (ty := .int) (N' := 3827) (a0 := (3827, .inl (fun _ => 0))) hx hb (hts _ wd_94) rfl hK hP hD hS hA (fun _ => rfl) (by decide) (by decide) (by decide) (Nat.le_of_ble_eq_true rfl) (Nat.le_of_ble_eq_true rfl) d_Ex_init_8 (fun q8_0 cB H hK9 hP hD hS => ?_)
  have hcB := cs_cA0 hK9
  subst hcB
  clear hK9
  rw [cs_pw_app] at hP hD
  have hP : va_P D cs_cl (cs_pw pre [(o, .inr (4, [.null, .null, .null, .null, .int 0, .int 0, .int 0, .int 0, .int 0, .int 0])), (ma, .inr (3, [.ref pr, .ref c1, .ref l1])), (c1, .inl (cA 0, 43, .inl (upd (upd (upd (fun _ => 0) 35 8) 36 9) 37 10))), (l1, .inl (cA 0, 49, .inl (fun _ => 0))), (q8_0, .inl (cA 0, 3827, .inl (fun _ => 0)))]) H := hP
  have hD : va_D A (cs_pw pre [(o, .inr (4, [.null, .null, .null, .null, .int 0, .int 0, .int 0, .int 0, .int 0, .int 0])), (ma, .inr (3, [.ref pr, .ref c1, .ref l1])), (c1, .inl (cA 0, 43, .inl (upd (upd (upd (fun _ => 0) 35 8) 36 9) 37 10))), (l1, .inl (cA 0, 49, .inl (fun _ => 0))), (q8_0, .inl (cA 0, 3827, .inl (fun _ => 0)))]) := hD
  refine va_putF (D := D) (ci := 4) (v := .ref q8_0) (ty := .array .int) (C := "ClassStarter$Explorer") (T := cs_T4) (N := 10) hx hb hts cs_in4 cs_t4 cs_t4_ok cs_n4 hown hK hP hD hS (pre.length + 0) (cs_pw_at rfl) rfl 1 (by decide) (hts _ wd_147) (fun _ h => h) rfl hin rfl (by decide +kernel) rfl rfl (Nat.le_of_ble_eq_true rfl) d_Ex_init_10 (fun H locs hP hD hS => ?_)
  rw [cs_pw_set] at hP hD
  have hP : va_P D cs_cl (cs_pw pre [(o, .inr (4, [.null, .ref q8_0, .null, .null, .int 0, .int 0, .int 0, .int 0, .int 0, .int 0])), (ma, .inr (3, [.ref pr, .ref c1, .ref l1])), (c1, .inl (cA 0, 43, .inl (upd (upd (upd (fun _ => 0) 35 8) 36 9) 37 10))), (l1, .inl (cA 0, 49, .inl (fun _ => 0))), (q8_0, .inl (cA 0, 3827, .inl (fun _ => 0)))]) H := hP
  have hD : va_D A (cs_pw pre [(o, .inr (4, [.null, .ref q8_0, .null, .null, .int 0, .int 0, .int 0, .int 0, .int 0, .int 0])), (ma, .inr (3, [.ref pr, .ref c1, .ref l1])), (c1, .inl (cA 0, 43, .inl (upd (upd (upd (fun _ => 0) 35 8) 36 9) 37 10))), (l1, .inl (cA 0, 49, .inl (fun _ => 0))), (q8_0, .inl (cA 0, 3827, .inl (fun _ => 0)))]) := hD
  refine lv_aload_n hx hb d_Ex_init_13 rfl (lv_at hl 0 rfl) ?_
  refine lv_bipush (v := 90) hx hb d_Ex_init_14 (by decide) ?_
  refine va_newa (atype := .int) (ty := .int) (N' := 90) (a0 := (90, .inl (fun _ => 0))) hx hb (hts _ wd_94) rfl hK hP hD hS hA (fun _ => rfl) (by decide) (by decide) (by decide) (Nat.le_of_ble_eq_true rfl) (Nat.le_of_ble_eq_true rfl) d_Ex_init_16 (fun q16_1 cB H hK9 hP hD hS => ?_)
  have hcB := cs_cA0 hK9
  subst hcB
  clear hK9
  rw [cs_pw_app] at hP hD
  have hP : va_P D cs_cl (cs_pw pre [(o, .inr (4, [.null, .ref q8_0, .null, .null, .int 0, .int 0, .int 0, .int 0, .int 0, .int 0])), (ma, .inr (3, [.ref pr, .ref c1, .ref l1])), (c1, .inl (cA 0, 43, .inl (upd (upd (upd (fun _ => 0) 35 8) 36 9) 37 10))), (l1, .inl (cA 0, 49, .inl (fun _ => 0))), (q8_0, .inl (cA 0, 3827, .inl (fun _ => 0))), (q16_1, .inl (cA 0, 90, .inl (fun _ => 0)))]) H := hP
  have hD : va_D A (cs_pw pre [(o, .inr (4, [.null, .ref q8_0, .null, .null, .int 0, .int 0, .int 0, .int 0, .int 0, .int 0])), (ma, .inr (3, [.ref pr, .ref c1, .ref l1])), (c1, .inl (cA 0, 43, .inl (upd (upd (upd (fun _ => 0) 35 8) 36 9) 37 10))), (l1, .inl (cA 0, 49, .inl (fun _ => 0))), (q8_0, .inl (cA 0, 3827, .inl (fun _ => 0))), (q16_1, .inl (cA 0, 90, .inl (fun _ => 0)))]) := hD
  refine va_putF (D := D) (ci := 4) (v := .ref q16_1) (ty := .array .int) (C := "ClassStarter$Explorer") (T := cs_T4) (N := 10) hx hb hts cs_in4 cs_t4 cs_t4_ok cs_n4 hown hK hP hD hS (pre.length + 0) (cs_pw_at rfl) rfl 2 (by decide) (hts _ wd_148) (fun _ h => h) rfl hin rfl (by decide +kernel) rfl rfl (Nat.le_of_ble_eq_true rfl) d_Ex_init_18 (fun H locs hP hD hS => ?_)
  rw [cs_pw_set] at hP hD
  have hP : va_P D cs_cl (cs_pw pre [(o, .inr (4, [.null, .ref q8_0, .ref q16_1, .null, .int 0, .int 0, .int 0, .int 0, .int 0, .int 0])), (ma, .inr (3, [.ref pr, .ref c1, .ref l1])), (c1, .inl (cA 0, 43, .inl (upd (upd (upd (fun _ => 0) 35 8) 36 9) 37 10))), (l1, .inl (cA 0, 49, .inl (fun _ => 0))), (q8_0, .inl (cA 0, 3827, .inl (fun _ => 0))), (q16_1, .inl (cA 0, 90, .inl (fun _ => 0)))]) H := hP
  have hD : va_D A (cs_pw pre [(o, .inr (4, [.null, .ref q8_0, .ref q16_1, .null, .int 0, .int 0, .int 0, .int 0, .int 0, .int 0])), (ma, .inr (3, [.ref pr, .ref c1, .ref l1])), (c1, .inl (cA 0, 43, .inl (upd (upd (upd (fun _ => 0) 35 8) 36 9) 37 10))), (l1, .inl (cA 0, 49, .inl (fun _ => 0))), (q8_0, .inl (cA 0, 3827, .inl (fun _ => 0))), (q16_1, .inl (cA 0, 90, .inl (fun _ => 0)))]) := hD
  refine lv_aload_n hx hb d_Ex_init_21 rfl (lv_at hl 0 rfl) ?_
  refine lv_iconst (v := 4) hx hb d_Ex_init_22 (by decide) ?_
  refine va_newa (atype := .int) (ty := .int) (N' := 4) (a0 := (4, .inl (fun _ => 0))) hx hb (hts _ wd_94) rfl hK hP hD hS hA (fun _ => rfl) (by decide) (by decide) (by decide) (Nat.le_of_ble_eq_true rfl) (Nat.le_of_ble_eq_true rfl) d_Ex_init_23 (fun q23_2 cB H hK9 hP hD hS => ?_)
  have hcB := cs_cA0 hK9
  subst hcB
  clear hK9
  rw [cs_pw_app] at hP hD
  have hP : va_P D cs_cl (cs_pw pre [(o, .inr (4, [.null, .ref q8_0, .ref q16_1, .null, .int 0, .int 0, .int 0, .int 0, .int 0, .int 0])), (ma, .inr (3, [.ref pr, .ref c1, .ref l1])), (c1, .inl (cA 0, 43, .inl (upd (upd (upd (fun _ => 0) 35 8) 36 9) 37 10))), (l1, .inl (cA 0, 49, .inl (fun _ => 0))), (q8_0, .inl (cA 0, 3827, .inl (fun _ => 0))), (q16_1, .inl (cA 0, 90, .inl (fun _ => 0))), (q23_2, .inl (cA 0, 4, .inl (fun _ => 0)))]) H := hP
  have hD : va_D A (cs_pw pre [(o, .inr (4, [.null, .ref q8_0, .ref q16_1, .null, .int 0, .int 0, .int 0, .int 0, .int 0, .int 0])), (ma, .inr (3, [.ref pr, .ref c1, .ref l1])), (c1, .inl (cA 0, 43, .inl (upd (upd (upd (fun _ => 0) 35 8) 36 9) 37 10))), (l1, .inl (cA 0, 49, .inl (fun _ => 0))), (q8_0, .inl (cA 0, 3827, .inl (fun _ => 0))), (q16_1, .inl (cA 0, 90, .inl (fun _ => 0))), (q23_2, .inl (cA 0, 4, .inl (fun _ => 0)))]) := hD
  refine va_put (D := D) (ci := 4) (v := .ref q23_2) (ty := .array .int) (C := "ClassStarter$Explorer") (T := cs_T4) (N := 10) hx hb hts cs_in4 cs_t4 cs_t4_ok cs_n4 hown hK hP hD hS (pre.length + 0) (cs_pw_at rfl) rfl 3 (by decide) (hts _ wd_149) (fun _ h => h) rfl (by decide +kernel) rfl rfl (Nat.le_of_ble_eq_true rfl) d_Ex_init_25 (fun H locs hP hD hS => ?_)
  rw [cs_pw_set] at hP hD
  have hP : va_P D cs_cl (cs_pw pre [(o, .inr (4, [.null, .ref q8_0, .ref q16_1, .ref q23_2, .int 0, .int 0, .int 0, .int 0, .int 0, .int 0])), (ma, .inr (3, [.ref pr, .ref c1, .ref l1])), (c1, .inl (cA 0, 43, .inl (upd (upd (upd (fun _ => 0) 35 8) 36 9) 37 10))), (l1, .inl (cA 0, 49, .inl (fun _ => 0))), (q8_0, .inl (cA 0, 3827, .inl (fun _ => 0))), (q16_1, .inl (cA 0, 90, .inl (fun _ => 0))), (q23_2, .inl (cA 0, 4, .inl (fun _ => 0)))]) H := hP
  have hD : va_D A (cs_pw pre [(o, .inr (4, [.null, .ref q8_0, .ref q16_1, .ref q23_2, .int 0, .int 0, .int 0, .int 0, .int 0, .int 0])), (ma, .inr (3, [.ref pr, .ref c1, .ref l1])), (c1, .inl (cA 0, 43, .inl (upd (upd (upd (fun _ => 0) 35 8) 36 9) 37 10))), (l1, .inl (cA 0, 49, .inl (fun _ => 0))), (q8_0, .inl (cA 0, 3827, .inl (fun _ => 0))), (q16_1, .inl (cA 0, 90, .inl (fun _ => 0))), (q23_2, .inl (cA 0, 4, .inl (fun _ => 0)))]) := hD
  refine lv_aload_n hx hb d_Ex_init_28 rfl (lv_at hl 0 rfl) ?_
  refine lv_aload_n hx hb d_Ex_init_29 rfl (lv_at hl 1 rfl) ?_
  refine va_putF (D := D) (ci := 4) (v := .ref ma) (ty := .object "ClassStarter$Machine") (C := "ClassStarter$Explorer") (T := cs_T4) (N := 10) hx hb hts cs_in4 cs_t4 cs_t4_ok cs_n4 hown hK hP hD hS (pre.length + 0) (cs_pw_at rfl) rfl 0 (by decide) (hts _ wd_146) (fun _ h => h) rfl hin rfl (by decide +kernel) rfl rfl (Nat.le_of_ble_eq_true rfl) d_Ex_init_30 (fun H locs hP hD hS => ?_)
  rw [cs_pw_set] at hP hD
  have hP : va_P D cs_cl (cs_pw pre [(o, .inr (4, [.ref ma, .ref q8_0, .ref q16_1, .ref q23_2, .int 0, .int 0, .int 0, .int 0, .int 0, .int 0])), (ma, .inr (3, [.ref pr, .ref c1, .ref l1])), (c1, .inl (cA 0, 43, .inl (upd (upd (upd (fun _ => 0) 35 8) 36 9) 37 10))), (l1, .inl (cA 0, 49, .inl (fun _ => 0))), (q8_0, .inl (cA 0, 3827, .inl (fun _ => 0))), (q16_1, .inl (cA 0, 90, .inl (fun _ => 0))), (q23_2, .inl (cA 0, 4, .inl (fun _ => 0)))]) H := hP
  have hD : va_D A (cs_pw pre [(o, .inr (4, [.ref ma, .ref q8_0, .ref q16_1, .ref q23_2, .int 0, .int 0, .int 0, .int 0, .int 0, .int 0])), (ma, .inr (3, [.ref pr, .ref c1, .ref l1])), (c1, .inl (cA 0, 43, .inl (upd (upd (upd (fun _ => 0) 35 8) 36 9) 37 10))), (l1, .inl (cA 0, 49, .inl (fun _ => 0))), (q8_0, .inl (cA 0, 3827, .inl (fun _ => 0))), (q16_1, .inl (cA 0, 90, .inl (fun _ => 0))), (q23_2, .inl (cA 0, 4, .inl (fun _ => 0)))]) := hD
  exact W.vret hx hb hr (fun t ht hW => ⟨⟨(fun i => ([q8_0, q16_1, q23_2] : List Nat).getD i 0), rfl, trivial, by rw [ht]; exact hP, hD⟩, hS.F ht⟩) hS.2.2 d_Ex_init_33 hlk
