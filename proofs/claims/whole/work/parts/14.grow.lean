theorem d_Ar_copyOf_0 : decode prog_12_method_123_code 0 = .ok (.iload_n 1, 1) := by decide +kernel
theorem d_Ar_copyOf_1 : decode prog_12_method_123_code 1 = .ok (.aload_n 0, 1) := by decide +kernel
theorem d_Ar_copyOf_2 : decode prog_12_method_123_code 2 = .ok (.arraylength, 1) := by decide +kernel
theorem d_Ar_copyOf_3 : decode prog_12_method_123_code 3 = .ok (.if_icmp .ne 11, 3) := by decide +kernel
theorem d_Ar_copyOf_14 : decode prog_12_method_123_code 14 = .ok (.iload_n 1, 1) := by decide +kernel
theorem d_Ar_copyOf_15 : decode prog_12_method_123_code 15 = .ok (.newarray .int, 2) := by decide +kernel
theorem d_Ar_copyOf_17 : decode prog_12_method_123_code 17 = .ok (.astore_n 2, 1) := by decide +kernel
theorem d_Ar_copyOf_18 : decode prog_12_method_123_code 18 = .ok (.aload_n 0, 1) := by decide +kernel
theorem d_Ar_copyOf_19 : decode prog_12_method_123_code 19 = .ok (.iconst 0, 1) := by decide +kernel
theorem d_Ar_copyOf_20 : decode prog_12_method_123_code 20 = .ok (.aload_n 2, 1) := by decide +kernel
theorem d_Ar_copyOf_21 : decode prog_12_method_123_code 21 = .ok (.iconst 0, 1) := by decide +kernel
theorem d_Ar_copyOf_22 : decode prog_12_method_123_code 22 = .ok (.aload_n 0, 1) := by decide +kernel
theorem d_Ar_copyOf_23 : decode prog_12_method_123_code 23 = .ok (.arraylength, 1) := by decide +kernel
theorem d_Ar_copyOf_24 : decode prog_12_method_123_code 24 = .ok (.iload_n 1, 1) := by decide +kernel
theorem d_Ar_copyOf_25 : decode prog_12_method_123_code 25 = .ok (.invokestatic 304, 3) := by decide +kernel
theorem d_Ar_copyOf_28 : decode prog_12_method_123_code 28 = .ok (.invokestatic 150, 3) := by decide +kernel
theorem d_Ar_copyOf_31 : decode prog_12_method_123_code 31 = .ok (.aload_n 2, 1) := by decide +kernel
theorem d_Ar_copyOf_32 : decode prog_12_method_123_code 32 = .ok (.areturn, 1) := by decide +kernel
/-! the one row that grows: Explorer.found, by Arrays.copyOf; the address of cell 61 changes, all others stay -/
def cs_ad (b : Nat → Nat) (fa : Nat) : Nat → Nat := fun i => if i = 61 then fa else b i
def cs_grow (M : cs_Mem) (n : Nat) : cs_Mem := cs_up (cs_up M 61 (va_cpy (M 61) (fun _ => 0) 0 0 (cs_ln M 61))) 1000 (upd (M 1000) 0 (nI n))
theorem cs_ln_of {M N : cs_Mem} (h : N 1000 = M 1000) (i : Nat) : cs_ln N i = cs_ln M i := by unfold cs_ln; rw [h]
theorem cs_ln61 (M : cs_Mem) : cs_ln M 61 = (M 1000 0).toNatClampNeg := rfl
theorem cs_ln_ne (M N : cs_Mem) {i : Nat} (h : i ≠ 61) : cs_ln N i = cs_ln M i := by simp [cs_ln, h]
theorem cs_grow_ln (M : cs_Mem) {n : Nat} (hn : n < 2 ^ 31) : cs_ln (cs_grow M n) 61 = n := by
  rw [cs_ln61]
  simp only [cs_grow, cs_up_self, pk_us]
  exact nI_clamp hn
theorem cs_grow_row (M : cs_Mem) (n : Nat) : cs_grow M n 61 = va_cpy (M 61) (fun _ => 0) 0 0 (cs_ln M 61) := by
  simp [cs_grow, cs_up]
theorem cs_grow_ne (M : cs_Mem) (n : Nat) {i : Nat} (h : i ≠ 61) (h2 : i ≠ 1000) : cs_grow M n i = M i := by
  simp [cs_grow, cs_up, h, h2]
theorem cs_kinds : ∀ i, i < cs_n → cs_kd i = 0 ∨ cs_kd i = 1 ∨ cs_kd i = 2 ∨ cs_kd i = 3 ∨ cs_kd i = 4 ∨ cs_kd i = 5 ∨ cs_kd i = 20 ∨ cs_kd i = 21 ∨ cs_kd i = 22 := by decide
theorem cs_kd2 : ∀ i, i < cs_n → cs_kd i = 2 → i + 1 ≠ 61 ∧ i + 2 ≠ 61 ∧ i + 3 ≠ 61 := by decide
theorem cs_kd3 : ∀ i, i < cs_n → cs_kd i = 3 → i + 1 ≠ 61 ∧ i + 2 ≠ 61 := by decide
theorem cs_kd4 : ∀ i, i < cs_n → cs_kd i = 4 → i = 55 := by decide
theorem cs_sg_grow {cA : Nat → ClassId} {b : Nat → Nat} {fa q n : Nat} {M : cs_Mem} {i : Nat} (hi : i < cs_n) (h1 : i ≠ 61) (h2 : i ≠ 55) : cs_sg cA (cs_ad b q) (cs_grow M n) i = cs_sg cA (cs_ad b fa) M i := by
  have hr : cs_grow M n i = M i := cs_grow_ne M n h1 (by unfold cs_n at hi; omega)
  have hl : cs_ln (cs_grow M n) i = cs_ln M i := cs_ln_ne _ _ h1
  unfold cs_sg
  rw [hr, hl]
  rcases cs_kinds i hi with h | h | h | h | h | h | h | h | h
  · rw [h]; simp [cs_cell, cs_ad]
  · rw [h]; simp [cs_cell, cs_ad]
  · obtain ⟨a, b2, c2⟩ := cs_kd2 i hi h
    rw [h]; simp [cs_cell, cs_ad, a, b2, c2]
  · obtain ⟨a, b2⟩ := cs_kd3 i hi h
    rw [h]; simp [cs_cell, cs_ad, a, b2]
  · exact absurd (cs_kd4 i hi h) h2
  · rw [h]; simp [cs_cell, cs_ad]
  · rw [h]; rfl
  · rw [h]; rfl
  · have e : (fun k => some (cs_ad b q (8 + 4 * k))) = (fun k => some (cs_ad b fa (8 + 4 * k))) := by
      funext k
      have : 8 + 4 * k ≠ 61 := by omega
      simp [cs_ad, this]
    rw [h]
    simp only [cs_cell]
    rw [e]
def cs_exf (cA : Nat → ClassId) (ad : Nat → Nat) (M : cs_Mem) : List Value := [.ref (ad 56), .ref (ad 59), .ref (ad 60), .ref (ad 61), .int (M 55 4), .int (M 55 5), .int (M 55 6), .int (M 55 7), .int (M 55 8), .int (M 55 9)]
def cs_wg (cA : Nat → ClassId) (b : Nat → Nat) (fa : Nat) (M : cs_Mem) (q n : Nat) (g : Nat → Int32) : va_W := (cs_wl cA (cs_ad b fa) M ++ ([(q, .inl (cA 0, n, .inl g))] : va_W)).set 55 (b 55, .inr (4, (cs_exf cA (cs_ad b fa) M).set 3 (.ref q)))
theorem cs_wl_len {cA : Nat → ClassId} {ad : Nat → Nat} {M : cs_Mem} : (cs_wl cA ad M).length = cs_n := by simp [cs_wl]
theorem cs_wg_at {cA : Nat → ClassId} {b : Nat → Nat} {fa : Nat} {M : cs_Mem} {q n : Nat} (hn : n < 2 ^ 31) (k : Nat) (x : Nat × va_E) (hk : (cs_wl cA (cs_ad b q) (cs_grow M n))[k]? = some x) : (cs_wg cA b fa M q n (va_cpy (M 61) (fun _ => 0) 0 0 (cs_ln M 61)))[if k = 61 then 87 else k]? = some x := by
  obtain ⟨hk1, rfl⟩ := cs_wl_of hk
  unfold cs_wg
  by_cases h1 : k = 61
  · subst h1
    rw [if_pos rfl, List.getElem?_set_ne (by decide), List.getElem?_append_right (by rw [cs_wl_len]; decide), cs_wl_len]
    show some _ = some _
    have e1 : cs_sg cA (cs_ad b q) (cs_grow M n) 61 = .inl (cA 0, n, .inl (va_cpy (M 61) (fun _ => 0) 0 0 (cs_ln M 61))) := by
      rw [cs_sg_is is_61, cs_grow_ln M hn, cs_grow_row]
      rfl
    rw [e1]
    simp [cs_ad]
  · rw [if_neg h1]
    by_cases h2 : k = 55
    · subst h2
      rw [List.getElem?_set_self (by rw [List.length_append, cs_wl_len]; show 55 < cs_n + 1; decide)]
      have e1 : cs_sg cA (cs_ad b q) (cs_grow M n) 55 = .inr (4, (cs_exf cA (cs_ad b fa) M).set 3 (.ref q)) := by
        rw [cs_sg_is is_55, cs_grow_ne M n (by decide) (by decide)]
        rfl
      rw [e1]
      rfl
    · rw [List.getElem?_set_ne (Ne.symm h2), List.getElem?_append_left (by rw [cs_wl_len]; exact hk1), cs_wl_at hk1 rfl, cs_sg_grow (fa := fa) hk1 h1 h2]
      simp [cs_ad, h1]
theorem cs_regrow {D : va_G} {A : Nat → Prop} {s : State} {H : Heap} {locs : List Loc} {cA : Nat → ClassId} {b : Nat → Nat} {fa : Nat} {M : cs_Mem} {q n : Nat} (hn : n < 2 ^ 31) (hP : va_P D cs_cl (cs_wg cA b fa M q n (va_cpy (M 61) (fun _ => 0) 0 0 (cs_ln M 61))) H) (hD : va_D A (cs_wg cA b fa M q n (va_cpy (M 61) (fun _ => 0) 0 0 (cs_ln M 61)))) (hS : va_S A s.heap H locs) :
    cs_Wd D cA (cs_ad b q) (cs_grow M n) A s H locs := by
  refine ⟨hP.by _ (cs_wg_at hn), hD.by _ (cs_wg_at hn) (fun i j hi hj e => ?_), hS⟩
  rw [cs_wl_len] at hi hj
  unfold cs_n at hi hj
  by_cases h1 : i = 61 <;> by_cases h2 : j = 61 <;> simp only [h1, h2, if_true, if_false] at e <;> omega
theorem cs_cA0 {D : va_G} {cA : Nat → ClassId} {cB : ClassId} {s : State} (h : va_K D cs_cl (cs_tys cA ++ [(cB, .int)]) s) : cB = cA 0 := by
  have h1 := (h.2 0 (cA 0, .int) rfl).2
  have h2 := (h.2 3 (cB, .int) rfl).2
  exact Option.some.inj (h2.symm.trans h1)
def cs_Qcp (D : va_G) (cA : Nat → ClassId) (ad : Nat → Nat) (M : cs_Mem) (J n : Nat) (A : Nat → Prop) : Array Value → State → Outcome → State → Prop :=
  va_Qr (fun (_ : Unit) => True) (fun _ q t => va_P D cs_cl (cs_wl cA ad M ++ ([(q, .inl (cA 0, n, .inl (va_cpy (M J) (fun _ => 0) 0 0 (cs_ln M J))))] : va_W)) t.heap ∧ va_D A (cs_wl cA ad M ++ ([(q, .inl (cA 0, n, .inl (va_cpy (M J) (fun _ => 0) 0 0 (cs_ln M J))))] : va_W))) A
set_option maxHeartbeats 4000000 in
set_option maxRecDepth 100000 in
/-- Arrays.copyOf of row J to n places, n not less than its own: a new cell behind the world's -/
theorem c_Ar_copyOf (l : Launch) (D : va_G) (cA : Nat → ClassId) (ad : Nat → Nat) (M : cs_Mem) (J : Nat) (hj : cs_is 20 J) (x : Int32) (n : Nat) (hx0 : ¬ x < 0) (hxn : x.toNatClampNeg = n) (hnl : cs_ln M J < n) (hnb : n ≤ 100000000) : ∀ sz : Nat,
    Met l ⟨"java/util/Arrays", "copyOf", "([II)[I"⟩ (Cond.code ⟨"java/util/Arrays", "copyOf", "([II)[I"⟩ prog_12_method_123_code 3 (some (.array .int)) :: cs_all) { frames := 1, cells := 1, slots := n, locals := 60 } (cs_Pc D cA ad M [.ref (ad J), .int x] sz)
      (cs_Qcp D cA ad M J n (cs_A ad sz)) 1 n (cs_A ad sz) := by
  refine cs_entry (Qc := cs_Qcp D cA ad M J n) (by decide) (Nat.le_of_ble_eq_true rfl) (fun p e s m below meth c A ls hC hr hlk _ hw hl => ?_)
  obtain ⟨hx, hb, hml, hown, hts, hK, hA, hN⟩ := id hC
  have hl : lv_has ls 3 [(0, .ref (ad J)), (1, .int x)] := hl
  obtain ⟨hP, hD, hS⟩ := hw
  have hge : nI (cs_ln M J) < x := by
    obtain ⟨k, hk, rfl⟩ := nI_of hx0
    rw [nI_clamp hk] at hxn
    subst hxn
    exact nI_lt hnl hk
  refine lv_iload_n hx hb d_Ar_copyOf_0 rfl (lv_at hl 1 rfl) ?_
  refine lv_aload_n hx hb d_Ar_copyOf_1 rfl (lv_at hl 0 rfl) ?_
  refine cs_ialen hC ⟨hP, hD, hS⟩ hj d_Ar_copyOf_2 ?_
  refine lv_icmp_ne (tgt := 14) hx hb d_Ar_copyOf_3 (by decide) (fun _ => ?_) (fun q => absurd hge (by rw [q]; exact fun h9 => Int32.lt_irrefl h9))
  refine lv_iload_n hx hb d_Ar_copyOf_14 rfl (lv_at hl 1 rfl) ?_
  refine va_newa (atype := .int) (ty := .int) (N' := n) (a0 := (n, .inl (fun _ => 0))) hx hb (hts _ wd_94) rfl hK hP hD hS hA (fun _ => rfl) hx0 hxn (by show n * 4 ≤ _; omega) (Nat.le_of_ble_eq_true rfl) (by show 0 + n ≤ n; omega) d_Ar_copyOf_15 (fun q cB H hK hP hD hS => ?_)
  have hcB := cs_cA0 hK
  subst hcB
  refine lv_astore_n (lv' := [(2, .ref q), (0, .ref (ad J)), (1, .int x)]) hx hb d_Ar_copyOf_17 rfl hl (by decide) rfl (fun ls hl => ?_)
  refine lv_aload_n hx hb d_Ar_copyOf_18 rfl (lv_at hl 1 rfl) ?_
  refine lv_iconst (v := 0) hx hb d_Ar_copyOf_19 (by decide) ?_
  refine lv_aload_n hx hb d_Ar_copyOf_20 rfl (lv_at hl 0 rfl) ?_
  refine lv_iconst (v := 0) hx hb d_Ar_copyOf_21 (by decide) ?_
  refine lv_aload_n hx hb d_Ar_copyOf_22 rfl (lv_at hl 1 rfl) ?_
  have hJ : (cs_wl cA ad M ++ [(q, .inl (cA 0, n, .inl (fun _ => (0 : Int32))))])[J]? = some (ad J, .inl (cA 0, cs_ln M J, .inl (M J))) := by
    rw [List.getElem?_append_left (by rw [cs_wl_len]; exact hj.2)]
    exact cs_wl_at hj.2 (cs_sg_is hj)
  have hq : (cs_wl cA ad M ++ [(q, .inl (cA 0, n, .inl (fun _ => (0 : Int32))))])[cs_n]? = some (q, .inl (cA 0, n, .inl (fun _ => (0 : Int32)))) := by
    rw [List.getElem?_append_right (by rw [cs_wl_len]; exact Nat.le_refl _), cs_wl_len]
    rfl
  refine va_alen hx hb hK hP J 0 hJ rfl rfl d_Ar_copyOf_23 ?_
  refine lv_iload_n hx hb d_Ar_copyOf_24 rfl (lv_at hl 2 rfl) ?_
  refine va_mmin hx hb (hml.trans hl.1.symm) hown (hts _ wd_494) (hts _ wd_495) (hts _ wd_52) (hts _ wd_496) (Nat.le_of_ble_eq_true rfl) (Nat.le_of_ble_eq_true rfl) (Nat.le_of_ble_eq_true rfl) (by show 0 + n ≤ n; omega) d_Ar_copyOf_25 ?_
  have hm : (if x < nI (cs_ln M J) then x else nI (cs_ln M J)) = nI (cs_ln M J) := if_neg (fun h2 => Int32.lt_irrefl (Int32.lt_trans hge h2))
  refine W.eq (g2 := F0 m 28 ls [.int (nI (cs_ln M J)), .int 0, .ref q, .int 0, .ref (ad J)]) (by show F0 m 28 ls [.int (if x < nI (cs_ln M J) then x else nI (cs_ln M J)), .int 0, .ref q, .int 0, .ref (ad J)] = _; rw [hm]) ?_
  have hln : cs_ln M J < 2 ^ 31 := by omega
  refine va_copyi hx hb (hml.trans hl.1.symm) hown (hts _ wd_497) (hts _ cs_acN) (hts _ cs_acS) (hts _ cs_acI) hK hP hD hS J cs_n 0 0 (ty := .int) hJ hq rfl rfl rfl (by decide) (by decide) (nI_pos hln) (by rw [nI_clamp hln]; show 0 + _ ≤ _; omega) (by rw [nI_clamp hln]; show 0 + _ ≤ _; omega) (fun _ _ => rfl) (Nat.le_of_ble_eq_true rfl) (Nat.le_of_ble_eq_true rfl) d_Ar_copyOf_28 (fun H locs hP hD hS => ?_)
  have hset : ∀ e : va_E, (cs_wl cA ad M ++ ([(q, .inl (cA 0, n, .inl (fun _ => (0 : Int32))))] : va_W)).set cs_n (q, e) = cs_wl cA ad M ++ [(q, e)] := by
    intro e
    rw [List.set_append_right _ _ (by rw [cs_wl_len]; exact Nat.le_refl _), cs_wl_len]
    simp
  rw [hset, nI_clamp hln] at hP hD
  refine lv_aload_n hx hb d_Ar_copyOf_31 rfl (lv_at hl 0 rfl) ?_
  refine W.widen (k := 1) (n := n) (Nat.le_refl _) (by omega) ?_
  exact W.aret hx hb hr (Or.inr ⟨_, rfl⟩) (Or.inr ⟨_, rfl⟩) (fun t ht hW => ⟨⟨(), q, rfl, trivial, by rw [ht]; exact hP, hD⟩, hS.F ht⟩) hS.2.2 d_Ar_copyOf_32 hlk
section CSG
variable {p : Program} {l : Launch} {e : Env} {R : Room} {s : State} {m : MethodId} {args : Array Value} {below : List Frame} {meth : Method} {c : Code} {H : Heap} {locs : List Loc} {cells slots : Nat} {Q : State → Prop}
variable {cc : ByteArray} {nL pc index : Nat} {own : String} {ls : Array Slot} {rest : List Value} {D : va_G} {cA : Nat → ClassId} {A : Nat → Prop} {b : Nat → Nat} {fa : Nat} {M : cs_Mem}
set_option maxHeartbeats 4000000 in
set_option maxRecDepth 100000 in
/-- found = Arrays.copyOf(found, x): two instructions -/
theorem cs_growstep (hC : cs_Ctx p s m args c cc nL own D cA A) (hw : cs_Wd D cA (cs_ad b fa) M A s H locs) (hls : ls.size = nL) {x : Int32} {n i1 i2 : Nat} (hx0 : ¬ x < 0) (hxn : x.toNatClampNeg = n) (hnl : cs_ln M 61 < n) (hnb : n ≤ 100000000)
    (cw : cs_CwS own i1 ⟨"java/util/Arrays", "copyOf", "([II)[I"⟩ prog_12_method_123_code 3 (some (.array .int)) 2) (hlk : Cond.fieldLink own i2 "ClassStarter$Explorer" "found" "[I" ∈ cs_all) (hR : 1 + 1 ≤ R.frames ∧ 8 + (3 + 11) + 60 ≤ R.locals) (hrest : (rest.map fun v => v.category).sum + 1 ≤ 8) (hf : cells + 1 ≤ R.cells ∧ slots + n ≤ R.slots)
    (hd1 : decode cc pc = .ok (.invokestatic i1, 3)) (hd2 : decode cc (pc + 3) = .ok (.putfield i2, 3))
    (kk : ∀ (q : Nat) (N : cs_Mem) (H1 : Heap) (locs1 : List Loc), N = cs_grow M n → cs_Wd D cA (cs_ad b q) N A s H1 locs1 → W p l e R s m args below meth c H1 locs1 (cells + 1) (slots + n) Q (F0 m (pc + 6) ls rest)) : W p l e R s m args below meth c H locs cells slots Q (F0 m pc ls (.int x :: .ref (cs_ad b fa 61) :: .ref (cs_ad b fa 55) :: rest)) := by
  refine va_callr (cs_runS (As := [.ref (cs_ad b fa 61), .int x]) (rest := .ref (cs_ad b fa 55) :: rest) hC hw (c_Ar_copyOf l D cA (cs_ad b fa) M 61 is_61 x n hx0 hxn hnl hnb _) rfl rfl cw hR hls rfl rfl (by show 1 + (rest.map fun v => v.category).sum ≤ 8; omega) hd1 hf) hw.2.2 (fun q _ h => cs_A_in hC hw q h) (cs_A_in hC hw) (fun u q t H1 locs1 ht hvm hp hB hz hk hS => ?_)
  obtain ⟨hP, hD⟩ := hB
  rw [ht] at hP
  have hD : va_D A (cs_wl cA (cs_ad b fa) M ++ [(q, .inl (cA 0, n, .inl (va_cpy (M 61) (fun _ => 0) 0 0 (cs_ln M 61))))]) := hD.weaken (fun _ q _ ha => cs_A_in hC hw q.1 ha)
  obtain ⟨hx, hb, hml, hown, hts, hK, hA, hN⟩ := id hC
  refine va_put (D := D) (ci := 4) (v := .ref q) (ty := .array .int) (C := "ClassStarter$Explorer") (T := cs_T4) (N := 10) hx hb hts cs_in4 cs_t4 cs_t4_ok cs_n4 hown hK hP hD hS 55 (fs := cs_exf cA (cs_ad b fa) M) ?_ rfl 3 (by decide) (hts _ hlk) (fun _ h => h) rfl (by decide +kernel) rfl rfl (Nat.le_of_ble_eq_true rfl) hd2 (fun H2 locs2 hP hD hS => ?_)
  · rw [List.getElem?_append_left (by rw [cs_wl_len]; decide)]
    exact cs_wl_at is_55.2 (cs_sg_is is_55)
  · exact kk q _ H2 locs2 rfl (cs_regrow (by omega) hP hD hS)
end CSG
