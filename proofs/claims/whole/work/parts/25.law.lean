def cs_R_declare (Rel : Nat → cs_Mem → Prop) : Prop := ∀ (k : Nat) (M : cs_Mem) (a0 : Int32) (a1 : Int32) (a2 : Int32) (a3 : Int32), k < 512 → Rel k M → (a1 = 0 ∨ a1 = 1) → (a2 = 0 ∨ a2 = 1) → (pre_X_declare M 0 a0 a1 a2 a3) ∧ (pre_Mo_declare (f_X_declare M 0 a0 a1 a2 a3).2 62 a0 a1 a2 a3) ∧ ((f_X_declare M 0 a0 a1 a2 a3).1 = (f_Mo_declare (f_X_declare M 0 a0 a1 a2 a3).2 62 a0 a1 a2 a3).1) ∧ (Rel (k + 1) ((f_Mo_declare (f_X_declare M 0 a0 a1 a2 a3).2 62 a0 a1 a2 a3).2))
set_option maxHeartbeats 4000000 in
set_option maxRecDepth 100000 in
theorem law_declare {p : Program} {l : Launch} {e : Env} {s : State} {m : MethodId} {args : Array Value} {below : List Frame} {meth : Method} {c : Code} {D : va_G} {cA : Nat → ClassId} {A : Nat → Prop} {Q : State → Prop} {b L : Nat} {xs : Nat → Int32} {Rel : Nat → cs_Mem → Prop} {k i : Nat} (hR : cs_R_declare Rel) (hC : cs_Ctx p s m args c code 4 "ClassStarterLaw" D cA A) (hX : va_X b L xs s s.heap) (hbl : b < s.heap.size) (hbA : ¬ A b) (hi5 : i + 5 ≤ L) (hL : L ≤ 2560) (hk : k < 512) (M : cs_Mem) (ad : Nat → Nat) (kc ks : Nat) (H : Heap) (locs : List Loc) (ls : Array Slot) (hrel : Rel k M) (hw : cs_Wd D cA ad M A s H locs) (hl : lv_has ls 4 [(0, .ref b), (1, .ref (ad 0)), (2, .ref (ad 62)), (3, .int (nI i))]) (hkc : kc ≤ 100 + 1024 * k ∧ ks ≤ 20000 + 8192 * k)
    (kk : ∀ (M : cs_Mem) (ad : Nat → Nat) (kc ks : Nat) (H : Heap) (locs : List Loc) (ls : Array Slot), Rel (k + 1) M → cs_Wd D cA ad M A s H locs → lv_has ls 4 [(0, .ref b), (1, .ref (ad 0)), (2, .ref (ad 62)), (3, .int (nI i))] → (kc ≤ 100 + 1024 * (k + 1) ∧ ks ≤ 20000 + 8192 * (k + 1)) → W p l e room_1 s m args below meth c H locs kc ks Q (F0 m 594 ls [])) : W p l e room_1 s m args below meth c H locs kc ks Q (F0 m 108 ls []) := by
  have hx := hC.1
  have hb := hC.2.1
  have hk2 := cs_lawK hkc hk
  refine lv_aload_n hx hb d_Law_law_108 rfl (lv_at hl 1 rfl) ?_
  refine lv_aload_n hx hb d_Law_law_109 rfl (lv_at hl 0 rfl) ?_
  refine lv_iload_n hx hb d_Law_law_110 rfl (lv_at hl 3 rfl) ?_
  refine lv_iconst (v := 1) hx hb d_Law_law_111 (by decide) ?_
  refine lv_iadd hx hb d_Law_law_112 ?_
  refine va_sld hx hb hX hbl hbA hw.2.2 (i := nI i + 1) (cs_lawI (j := 1) hi5 hL (by decide)) d_Law_law_113 ?_
  refine lv_aload_n hx hb d_Law_law_114 rfl (lv_at hl 0 rfl) ?_
  refine lv_iload_n hx hb d_Law_law_115 rfl (lv_at hl 3 rfl) ?_
  refine lv_iconst (v := 2) hx hb d_Law_law_116 (by decide) ?_
  refine lv_iadd hx hb d_Law_law_117 ?_
  refine va_sld hx hb hX hbl hbA hw.2.2 (i := nI i + 2) (cs_lawI (j := 2) hi5 hL (by decide)) d_Law_law_118 ?_
  refine lv_if_eq (tgt := 126) hx hb d_Law_law_119 (by decide) (fun c1 => ?_) (fun c1 => ?_)
  · refine lv_iconst (v := 0) hx hb d_Law_law_126 (by decide) ?_
    refine lv_aload_n hx hb d_Law_law_127 rfl (lv_at hl 0 rfl) ?_
    refine lv_iload_n hx hb d_Law_law_128 rfl (lv_at hl 3 rfl) ?_
    refine lv_iconst (v := 3) hx hb d_Law_law_129 (by decide) ?_
    refine lv_iadd hx hb d_Law_law_130 ?_
    refine va_sld hx hb hX hbl hbA hw.2.2 (i := nI i + 3) (cs_lawI (j := 3) hi5 hL (by decide)) d_Law_law_131 ?_
    refine lv_if_eq (tgt := 139) hx hb d_Law_law_132 (by decide) (fun c2 => ?_) (fun c2 => ?_)
    · refine lv_iconst (v := 0) hx hb d_Law_law_139 (by decide) ?_
      refine lv_aload_n hx hb d_Law_law_140 rfl (lv_at hl 0 rfl) ?_
      refine lv_iload_n hx hb d_Law_law_141 rfl (lv_at hl 3 rfl) ?_
      refine lv_iconst (v := 4) hx hb d_Law_law_142 (by decide) ?_
      refine lv_iadd hx hb d_Law_law_143 ?_
      refine va_sld hx hb hX hbl hbA hw.2.2 (i := nI i + 4) (cs_lawI (j := 4) hi5 hL (by decide)) d_Law_law_144 ?_
      obtain ⟨hpx, hpm, heq, hrel⟩ := hR k M (xs (nI i + 1).toNatClampNeg) 0 0 (xs (nI i + 4).toNatClampNeg) hk hrel (Or.inl rfl) (Or.inl rfl)
      refine cs_ret_i hC hw (cs_runV (As := [.int (xs (nI i + 1).toNatClampNeg), .int 0, .int 0, .int (xs (nI i + 4).toNatClampNeg)]) (rest := []) hC hw is_0.2 (ci := 0) rfl rfl (cs_sg_is is_0) (c_X_declare l D cA ad M 0 is_0 (xs (nI i + 1).toNatClampNeg) 0 0 (xs (nI i + 4).toNatClampNeg) hpx _) rfl rfl cw_Law_13 ⟨Nat.le_of_ble_eq_true rfl, Nat.le_of_ble_eq_true rfl⟩ hl.1 rfl rfl (Nat.le_of_ble_eq_true rfl) d_Law_law_145 ⟨hk2.1, hk2.2⟩) (fun u1 H locs eu1 hw => ?_)
      rw [← eu1] at hpm heq hrel
      refine lv_aload_n hx hb d_Law_law_148 rfl (lv_at hl 2 rfl) ?_
      refine lv_aload_n hx hb d_Law_law_149 rfl (lv_at hl 0 rfl) ?_
      refine lv_iload_n hx hb d_Law_law_150 rfl (lv_at hl 3 rfl) ?_
      refine lv_iconst (v := 1) hx hb d_Law_law_151 (by decide) ?_
      refine lv_iadd hx hb d_Law_law_152 ?_
      refine va_sld hx hb hX hbl hbA hw.2.2 (i := nI i + 1) (cs_lawI (j := 1) hi5 hL (by decide)) d_Law_law_153 ?_
      refine lv_aload_n hx hb d_Law_law_154 rfl (lv_at hl 0 rfl) ?_
      refine lv_iload_n hx hb d_Law_law_155 rfl (lv_at hl 3 rfl) ?_
      refine lv_iconst (v := 2) hx hb d_Law_law_156 (by decide) ?_
      refine lv_iadd hx hb d_Law_law_157 ?_
      refine va_sld hx hb hX hbl hbA hw.2.2 (i := nI i + 2) (cs_lawI (j := 2) hi5 hL (by decide)) d_Law_law_158 ?_
      refine lv_if_eq (tgt := 166) hx hb d_Law_law_159 (by decide) (fun _ => ?_) (fun c9 => absurd c1 c9)
      refine lv_iconst (v := 0) hx hb d_Law_law_166 (by decide) ?_
      refine lv_aload_n hx hb d_Law_law_167 rfl (lv_at hl 0 rfl) ?_
      refine lv_iload_n hx hb d_Law_law_168 rfl (lv_at hl 3 rfl) ?_
      refine lv_iconst (v := 3) hx hb d_Law_law_169 (by decide) ?_
      refine lv_iadd hx hb d_Law_law_170 ?_
      refine va_sld hx hb hX hbl hbA hw.2.2 (i := nI i + 3) (cs_lawI (j := 3) hi5 hL (by decide)) d_Law_law_171 ?_
      refine lv_if_eq (tgt := 179) hx hb d_Law_law_172 (by decide) (fun _ => ?_) (fun c9 => absurd c2 c9)
      refine lv_iconst (v := 0) hx hb d_Law_law_179 (by decide) ?_
      refine lv_aload_n hx hb d_Law_law_180 rfl (lv_at hl 0 rfl) ?_
      refine lv_iload_n hx hb d_Law_law_181 rfl (lv_at hl 3 rfl) ?_
      refine lv_iconst (v := 4) hx hb d_Law_law_182 (by decide) ?_
      refine lv_iadd hx hb d_Law_law_183 ?_
      refine va_sld hx hb hX hbl hbA hw.2.2 (i := nI i + 4) (cs_lawI (j := 4) hi5 hL (by decide)) d_Law_law_184 ?_
      refine cs_ret_i hC hw (cs_runV (As := [.int (xs (nI i + 1).toNatClampNeg), .int 0, .int 0, .int (xs (nI i + 4).toNatClampNeg)]) (rest := [.int (u1.1)]) hC hw is_62.2 (ci := 5) rfl rfl (cs_sg_is is_62) (c_Mo_declare l D cA ad u1.2 62 is_62 (xs (nI i + 1).toNatClampNeg) 0 0 (xs (nI i + 4).toNatClampNeg) hpm _) rfl rfl cw_Law_17 ⟨Nat.le_of_ble_eq_true rfl, Nat.le_of_ble_eq_true rfl⟩ hl.1 rfl rfl (Nat.le_of_ble_eq_true rfl) d_Law_law_185 ⟨hk2.1, hk2.2⟩) (fun u2 H locs eu2 hw => ?_)
      rw [← eu2] at heq hrel
      refine lv_icmp_eq (tgt := 594) hx hb d_Law_law_188 (by decide) (fun _ => ?_) (fun c9 => absurd heq c9)
      exact kk u2.2 ad _ _ H locs ls hrel hw hl (cs_lawS hkc)
    · refine lv_iconst (v := 1) hx hb d_Law_law_135 (by decide) ?_
      refine lv_goto (tgt := 140) hx hb d_Law_law_136 (by decide) ?_
      refine lv_aload_n hx hb d_Law_law_140 rfl (lv_at hl 0 rfl) ?_
      refine lv_iload_n hx hb d_Law_law_141 rfl (lv_at hl 3 rfl) ?_
      refine lv_iconst (v := 4) hx hb d_Law_law_142 (by decide) ?_
      refine lv_iadd hx hb d_Law_law_143 ?_
      refine va_sld hx hb hX hbl hbA hw.2.2 (i := nI i + 4) (cs_lawI (j := 4) hi5 hL (by decide)) d_Law_law_144 ?_
      obtain ⟨hpx, hpm, heq, hrel⟩ := hR k M (xs (nI i + 1).toNatClampNeg) 0 1 (xs (nI i + 4).toNatClampNeg) hk hrel (Or.inl rfl) (Or.inr rfl)
      refine cs_ret_i hC hw (cs_runV (As := [.int (xs (nI i + 1).toNatClampNeg), .int 0, .int 1, .int (xs (nI i + 4).toNatClampNeg)]) (rest := []) hC hw is_0.2 (ci := 0) rfl rfl (cs_sg_is is_0) (c_X_declare l D cA ad M 0 is_0 (xs (nI i + 1).toNatClampNeg) 0 1 (xs (nI i + 4).toNatClampNeg) hpx _) rfl rfl cw_Law_13 ⟨Nat.le_of_ble_eq_true rfl, Nat.le_of_ble_eq_true rfl⟩ hl.1 rfl rfl (Nat.le_of_ble_eq_true rfl) d_Law_law_145 ⟨hk2.1, hk2.2⟩) (fun u1 H locs eu1 hw => ?_)
      rw [← eu1] at hpm heq hrel
      refine lv_aload_n hx hb d_Law_law_148 rfl (lv_at hl 2 rfl) ?_
      refine lv_aload_n hx hb d_Law_law_149 rfl (lv_at hl 0 rfl) ?_
      refine lv_iload_n hx hb d_Law_law_150 rfl (lv_at hl 3 rfl) ?_
      refine lv_iconst (v := 1) hx hb d_Law_law_151 (by decide) ?_
      refine lv_iadd hx hb d_Law_law_152 ?_
      refine va_sld hx hb hX hbl hbA hw.2.2 (i := nI i + 1) (cs_lawI (j := 1) hi5 hL (by decide)) d_Law_law_153 ?_
      refine lv_aload_n hx hb d_Law_law_154 rfl (lv_at hl 0 rfl) ?_
      refine lv_iload_n hx hb d_Law_law_155 rfl (lv_at hl 3 rfl) ?_
      refine lv_iconst (v := 2) hx hb d_Law_law_156 (by decide) ?_
      refine lv_iadd hx hb d_Law_law_157 ?_
      refine va_sld hx hb hX hbl hbA hw.2.2 (i := nI i + 2) (cs_lawI (j := 2) hi5 hL (by decide)) d_Law_law_158 ?_
      refine lv_if_eq (tgt := 166) hx hb d_Law_law_159 (by decide) (fun _ => ?_) (fun c9 => absurd c1 c9)
      refine lv_iconst (v := 0) hx hb d_Law_law_166 (by decide) ?_
      refine lv_aload_n hx hb d_Law_law_167 rfl (lv_at hl 0 rfl) ?_
      refine lv_iload_n hx hb d_Law_law_168 rfl (lv_at hl 3 rfl) ?_
      refine lv_iconst (v := 3) hx hb d_Law_law_169 (by decide) ?_
      refine lv_iadd hx hb d_Law_law_170 ?_
      refine va_sld hx hb hX hbl hbA hw.2.2 (i := nI i + 3) (cs_lawI (j := 3) hi5 hL (by decide)) d_Law_law_171 ?_
      refine lv_if_eq (tgt := 179) hx hb d_Law_law_172 (by decide) (fun c9 => absurd c9 c2) (fun _ => ?_)
      refine lv_iconst (v := 1) hx hb d_Law_law_175 (by decide) ?_
      refine lv_goto (tgt := 180) hx hb d_Law_law_176 (by decide) ?_
      refine lv_aload_n hx hb d_Law_law_180 rfl (lv_at hl 0 rfl) ?_
      refine lv_iload_n hx hb d_Law_law_181 rfl (lv_at hl 3 rfl) ?_
      refine lv_iconst (v := 4) hx hb d_Law_law_182 (by decide) ?_
      refine lv_iadd hx hb d_Law_law_183 ?_
      refine va_sld hx hb hX hbl hbA hw.2.2 (i := nI i + 4) (cs_lawI (j := 4) hi5 hL (by decide)) d_Law_law_184 ?_
      refine cs_ret_i hC hw (cs_runV (As := [.int (xs (nI i + 1).toNatClampNeg), .int 0, .int 1, .int (xs (nI i + 4).toNatClampNeg)]) (rest := [.int (u1.1)]) hC hw is_62.2 (ci := 5) rfl rfl (cs_sg_is is_62) (c_Mo_declare l D cA ad u1.2 62 is_62 (xs (nI i + 1).toNatClampNeg) 0 1 (xs (nI i + 4).toNatClampNeg) hpm _) rfl rfl cw_Law_17 ⟨Nat.le_of_ble_eq_true rfl, Nat.le_of_ble_eq_true rfl⟩ hl.1 rfl rfl (Nat.le_of_ble_eq_true rfl) d_Law_law_185 ⟨hk2.1, hk2.2⟩) (fun u2 H locs eu2 hw => ?_)
      rw [← eu2] at heq hrel
      refine lv_icmp_eq (tgt := 594) hx hb d_Law_law_188 (by decide) (fun _ => ?_) (fun c9 => absurd heq c9)
      exact kk u2.2 ad _ _ H locs ls hrel hw hl (cs_lawS hkc)
  · refine lv_iconst (v := 1) hx hb d_Law_law_122 (by decide) ?_
    refine lv_goto (tgt := 127) hx hb d_Law_law_123 (by decide) ?_
    refine lv_aload_n hx hb d_Law_law_127 rfl (lv_at hl 0 rfl) ?_
    refine lv_iload_n hx hb d_Law_law_128 rfl (lv_at hl 3 rfl) ?_
    refine lv_iconst (v := 3) hx hb d_Law_law_129 (by decide) ?_
    refine lv_iadd hx hb d_Law_law_130 ?_
    refine va_sld hx hb hX hbl hbA hw.2.2 (i := nI i + 3) (cs_lawI (j := 3) hi5 hL (by decide)) d_Law_law_131 ?_
    refine lv_if_eq (tgt := 139) hx hb d_Law_law_132 (by decide) (fun c3 => ?_) (fun c3 => ?_)
    · refine lv_iconst (v := 0) hx hb d_Law_law_139 (by decide) ?_
      refine lv_aload_n hx hb d_Law_law_140 rfl (lv_at hl 0 rfl) ?_
      refine lv_iload_n hx hb d_Law_law_141 rfl (lv_at hl 3 rfl) ?_
      refine lv_iconst (v := 4) hx hb d_Law_law_142 (by decide) ?_
      refine lv_iadd hx hb d_Law_law_143 ?_
      refine va_sld hx hb hX hbl hbA hw.2.2 (i := nI i + 4) (cs_lawI (j := 4) hi5 hL (by decide)) d_Law_law_144 ?_
      obtain ⟨hpx, hpm, heq, hrel⟩ := hR k M (xs (nI i + 1).toNatClampNeg) 1 0 (xs (nI i + 4).toNatClampNeg) hk hrel (Or.inr rfl) (Or.inl rfl)
      refine cs_ret_i hC hw (cs_runV (As := [.int (xs (nI i + 1).toNatClampNeg), .int 1, .int 0, .int (xs (nI i + 4).toNatClampNeg)]) (rest := []) hC hw is_0.2 (ci := 0) rfl rfl (cs_sg_is is_0) (c_X_declare l D cA ad M 0 is_0 (xs (nI i + 1).toNatClampNeg) 1 0 (xs (nI i + 4).toNatClampNeg) hpx _) rfl rfl cw_Law_13 ⟨Nat.le_of_ble_eq_true rfl, Nat.le_of_ble_eq_true rfl⟩ hl.1 rfl rfl (Nat.le_of_ble_eq_true rfl) d_Law_law_145 ⟨hk2.1, hk2.2⟩) (fun u1 H locs eu1 hw => ?_)
      rw [← eu1] at hpm heq hrel
      refine lv_aload_n hx hb d_Law_law_148 rfl (lv_at hl 2 rfl) ?_
      refine lv_aload_n hx hb d_Law_law_149 rfl (lv_at hl 0 rfl) ?_
      refine lv_iload_n hx hb d_Law_law_150 rfl (lv_at hl 3 rfl) ?_
      refine lv_iconst (v := 1) hx hb d_Law_law_151 (by decide) ?_
      refine lv_iadd hx hb d_Law_law_152 ?_
      refine va_sld hx hb hX hbl hbA hw.2.2 (i := nI i + 1) (cs_lawI (j := 1) hi5 hL (by decide)) d_Law_law_153 ?_
      refine lv_aload_n hx hb d_Law_law_154 rfl (lv_at hl 0 rfl) ?_
      refine lv_iload_n hx hb d_Law_law_155 rfl (lv_at hl 3 rfl) ?_
      refine lv_iconst (v := 2) hx hb d_Law_law_156 (by decide) ?_
      refine lv_iadd hx hb d_Law_law_157 ?_
      refine va_sld hx hb hX hbl hbA hw.2.2 (i := nI i + 2) (cs_lawI (j := 2) hi5 hL (by decide)) d_Law_law_158 ?_
      refine lv_if_eq (tgt := 166) hx hb d_Law_law_159 (by decide) (fun c9 => absurd c9 c1) (fun _ => ?_)
      refine lv_iconst (v := 1) hx hb d_Law_law_162 (by decide) ?_
      refine lv_goto (tgt := 167) hx hb d_Law_law_163 (by decide) ?_
      refine lv_aload_n hx hb d_Law_law_167 rfl (lv_at hl 0 rfl) ?_
      refine lv_iload_n hx hb d_Law_law_168 rfl (lv_at hl 3 rfl) ?_
      refine lv_iconst (v := 3) hx hb d_Law_law_169 (by decide) ?_
      refine lv_iadd hx hb d_Law_law_170 ?_
      refine va_sld hx hb hX hbl hbA hw.2.2 (i := nI i + 3) (cs_lawI (j := 3) hi5 hL (by decide)) d_Law_law_171 ?_
      refine lv_if_eq (tgt := 179) hx hb d_Law_law_172 (by decide) (fun _ => ?_) (fun c9 => absurd c3 c9)
      refine lv_iconst (v := 0) hx hb d_Law_law_179 (by decide) ?_
      refine lv_aload_n hx hb d_Law_law_180 rfl (lv_at hl 0 rfl) ?_
      refine lv_iload_n hx hb d_Law_law_181 rfl (lv_at hl 3 rfl) ?_
      refine lv_iconst (v := 4) hx hb d_Law_law_182 (by decide) ?_
      refine lv_iadd hx hb d_Law_law_183 ?_
      refine va_sld hx hb hX hbl hbA hw.2.2 (i := nI i + 4) (cs_lawI (j := 4) hi5 hL (by decide)) d_Law_law_184 ?_
      refine cs_ret_i hC hw (cs_runV (As := [.int (xs (nI i + 1).toNatClampNeg), .int 1, .int 0, .int (xs (nI i + 4).toNatClampNeg)]) (rest := [.int (u1.1)]) hC hw is_62.2 (ci := 5) rfl rfl (cs_sg_is is_62) (c_Mo_declare l D cA ad u1.2 62 is_62 (xs (nI i + 1).toNatClampNeg) 1 0 (xs (nI i + 4).toNatClampNeg) hpm _) rfl rfl cw_Law_17 ⟨Nat.le_of_ble_eq_true rfl, Nat.le_of_ble_eq_true rfl⟩ hl.1 rfl rfl (Nat.le_of_ble_eq_true rfl) d_Law_law_185 ⟨hk2.1, hk2.2⟩) (fun u2 H locs eu2 hw => ?_)
      rw [← eu2] at heq hrel
      refine lv_icmp_eq (tgt := 594) hx hb d_Law_law_188 (by decide) (fun _ => ?_) (fun c9 => absurd heq c9)
      exact kk u2.2 ad _ _ H locs ls hrel hw hl (cs_lawS hkc)
    · refine lv_iconst (v := 1) hx hb d_Law_law_135 (by decide) ?_
      refine lv_goto (tgt := 140) hx hb d_Law_law_136 (by decide) ?_
      refine lv_aload_n hx hb d_Law_law_140 rfl (lv_at hl 0 rfl) ?_
      refine lv_iload_n hx hb d_Law_law_141 rfl (lv_at hl 3 rfl) ?_
      refine lv_iconst (v := 4) hx hb d_Law_law_142 (by decide) ?_
      refine lv_iadd hx hb d_Law_law_143 ?_
      refine va_sld hx hb hX hbl hbA hw.2.2 (i := nI i + 4) (cs_lawI (j := 4) hi5 hL (by decide)) d_Law_law_144 ?_
      obtain ⟨hpx, hpm, heq, hrel⟩ := hR k M (xs (nI i + 1).toNatClampNeg) 1 1 (xs (nI i + 4).toNatClampNeg) hk hrel (Or.inr rfl) (Or.inr rfl)
      refine cs_ret_i hC hw (cs_runV (As := [.int (xs (nI i + 1).toNatClampNeg), .int 1, .int 1, .int (xs (nI i + 4).toNatClampNeg)]) (rest := []) hC hw is_0.2 (ci := 0) rfl rfl (cs_sg_is is_0) (c_X_declare l D cA ad M 0 is_0 (xs (nI i + 1).toNatClampNeg) 1 1 (xs (nI i + 4).toNatClampNeg) hpx _) rfl rfl cw_Law_13 ⟨Nat.le_of_ble_eq_true rfl, Nat.le_of_ble_eq_true rfl⟩ hl.1 rfl rfl (Nat.le_of_ble_eq_true rfl) d_Law_law_145 ⟨hk2.1, hk2.2⟩) (fun u1 H locs eu1 hw => ?_)
      rw [← eu1] at hpm heq hrel
      refine lv_aload_n hx hb d_Law_law_148 rfl (lv_at hl 2 rfl) ?_
      refine lv_aload_n hx hb d_Law_law_149 rfl (lv_at hl 0 rfl) ?_
      refine lv_iload_n hx hb d_Law_law_150 rfl (lv_at hl 3 rfl) ?_
      refine lv_iconst (v := 1) hx hb d_Law_law_151 (by decide) ?_
      refine lv_iadd hx hb d_Law_law_152 ?_
      refine va_sld hx hb hX hbl hbA hw.2.2 (i := nI i + 1) (cs_lawI (j := 1) hi5 hL (by decide)) d_Law_law_153 ?_
      refine lv_aload_n hx hb d_Law_law_154 rfl (lv_at hl 0 rfl) ?_
      refine lv_iload_n hx hb d_Law_law_155 rfl (lv_at hl 3 rfl) ?_
      refine lv_iconst (v := 2) hx hb d_Law_law_156 (by decide) ?_
      refine lv_iadd hx hb d_Law_law_157 ?_
      refine va_sld hx hb hX hbl hbA hw.2.2 (i := nI i + 2) (cs_lawI (j := 2) hi5 hL (by decide)) d_Law_law_158 ?_
      refine lv_if_eq (tgt := 166) hx hb d_Law_law_159 (by decide) (fun c9 => absurd c9 c1) (fun _ => ?_)
      refine lv_iconst (v := 1) hx hb d_Law_law_162 (by decide) ?_
      refine lv_goto (tgt := 167) hx hb d_Law_law_163 (by decide) ?_
      refine lv_aload_n hx hb d_Law_law_167 rfl (lv_at hl 0 rfl) ?_
      refine lv_iload_n hx hb d_Law_law_168 rfl (lv_at hl 3 rfl) ?_
      refine lv_iconst (v := 3) hx hb d_Law_law_169 (by decide) ?_
      refine lv_iadd hx hb d_Law_law_170 ?_
      refine va_sld hx hb hX hbl hbA hw.2.2 (i := nI i + 3) (cs_lawI (j := 3) hi5 hL (by decide)) d_Law_law_171 ?_
      refine lv_if_eq (tgt := 179) hx hb d_Law_law_172 (by decide) (fun c9 => absurd c9 c3) (fun _ => ?_)
      refine lv_iconst (v := 1) hx hb d_Law_law_175 (by decide) ?_
      refine lv_goto (tgt := 180) hx hb d_Law_law_176 (by decide) ?_
      refine lv_aload_n hx hb d_Law_law_180 rfl (lv_at hl 0 rfl) ?_
      refine lv_iload_n hx hb d_Law_law_181 rfl (lv_at hl 3 rfl) ?_
      refine lv_iconst (v := 4) hx hb d_Law_law_182 (by decide) ?_
      refine lv_iadd hx hb d_Law_law_183 ?_
      refine va_sld hx hb hX hbl hbA hw.2.2 (i := nI i + 4) (cs_lawI (j := 4) hi5 hL (by decide)) d_Law_law_184 ?_
      refine cs_ret_i hC hw (cs_runV (As := [.int (xs (nI i + 1).toNatClampNeg), .int 1, .int 1, .int (xs (nI i + 4).toNatClampNeg)]) (rest := [.int (u1.1)]) hC hw is_62.2 (ci := 5) rfl rfl (cs_sg_is is_62) (c_Mo_declare l D cA ad u1.2 62 is_62 (xs (nI i + 1).toNatClampNeg) 1 1 (xs (nI i + 4).toNatClampNeg) hpm _) rfl rfl cw_Law_17 ⟨Nat.le_of_ble_eq_true rfl, Nat.le_of_ble_eq_true rfl⟩ hl.1 rfl rfl (Nat.le_of_ble_eq_true rfl) d_Law_law_185 ⟨hk2.1, hk2.2⟩) (fun u2 H locs eu2 hw => ?_)
      rw [← eu2] at heq hrel
      refine lv_icmp_eq (tgt := 594) hx hb d_Law_law_188 (by decide) (fun _ => ?_) (fun c9 => absurd heq c9)
      exact kk u2.2 ad _ _ H locs ls hrel hw hl (cs_lawS hkc)
def cs_R_inherit (Rel : Nat → cs_Mem → Prop) : Prop := ∀ (k : Nat) (M : cs_Mem) (a0 : Int32) (a1 : Int32) (a2 : Int32), k < 512 → Rel k M → (a2 = 0 ∨ a2 = 1) → (pre_X_inherit M 0 a0 a1 a2) ∧ (pre_Mo_inherit (f_X_inherit M 0 a0 a1 a2).2 62 a0 a1 a2) ∧ ((f_X_inherit M 0 a0 a1 a2).1 = (f_Mo_inherit (f_X_inherit M 0 a0 a1 a2).2 62 a0 a1 a2).1) ∧ (Rel (k + 1) ((f_Mo_inherit (f_X_inherit M 0 a0 a1 a2).2 62 a0 a1 a2).2))
set_option maxHeartbeats 4000000 in
set_option maxRecDepth 100000 in
theorem law_inherit {p : Program} {l : Launch} {e : Env} {s : State} {m : MethodId} {args : Array Value} {below : List Frame} {meth : Method} {c : Code} {D : va_G} {cA : Nat → ClassId} {A : Nat → Prop} {Q : State → Prop} {b L : Nat} {xs : Nat → Int32} {Rel : Nat → cs_Mem → Prop} {k i : Nat} (hR : cs_R_inherit Rel) (hC : cs_Ctx p s m args c code 4 "ClassStarterLaw" D cA A) (hX : va_X b L xs s s.heap) (hbl : b < s.heap.size) (hbA : ¬ A b) (hi5 : i + 5 ≤ L) (hL : L ≤ 2560) (hk : k < 512) (M : cs_Mem) (ad : Nat → Nat) (kc ks : Nat) (H : Heap) (locs : List Loc) (ls : Array Slot) (hrel : Rel k M) (hw : cs_Wd D cA ad M A s H locs) (hl : lv_has ls 4 [(0, .ref b), (1, .ref (ad 0)), (2, .ref (ad 62)), (3, .int (nI i))]) (hkc : kc ≤ 100 + 1024 * k ∧ ks ≤ 20000 + 8192 * k)
    (kk : ∀ (M : cs_Mem) (ad : Nat → Nat) (kc ks : Nat) (H : Heap) (locs : List Loc) (ls : Array Slot), Rel (k + 1) M → cs_Wd D cA ad M A s H locs → lv_has ls 4 [(0, .ref b), (1, .ref (ad 0)), (2, .ref (ad 62)), (3, .int (nI i))] → (kc ≤ 100 + 1024 * (k + 1) ∧ ks ≤ 20000 + 8192 * (k + 1)) → W p l e room_1 s m args below meth c H locs kc ks Q (F0 m 594 ls [])) : W p l e room_1 s m args below meth c H locs kc ks Q (F0 m 193 ls []) := by
  have hx := hC.1
  have hb := hC.2.1
  have hk2 := cs_lawK hkc hk
  refine lv_aload_n hx hb d_Law_law_193 rfl (lv_at hl 1 rfl) ?_
  refine lv_aload_n hx hb d_Law_law_194 rfl (lv_at hl 0 rfl) ?_
  refine lv_iload_n hx hb d_Law_law_195 rfl (lv_at hl 3 rfl) ?_
  refine lv_iconst (v := 1) hx hb d_Law_law_196 (by decide) ?_
  refine lv_iadd hx hb d_Law_law_197 ?_
  refine va_sld hx hb hX hbl hbA hw.2.2 (i := nI i + 1) (cs_lawI (j := 1) hi5 hL (by decide)) d_Law_law_198 ?_
  refine lv_aload_n hx hb d_Law_law_199 rfl (lv_at hl 0 rfl) ?_
  refine lv_iload_n hx hb d_Law_law_200 rfl (lv_at hl 3 rfl) ?_
  refine lv_iconst (v := 2) hx hb d_Law_law_201 (by decide) ?_
  refine lv_iadd hx hb d_Law_law_202 ?_
  refine va_sld hx hb hX hbl hbA hw.2.2 (i := nI i + 2) (cs_lawI (j := 2) hi5 hL (by decide)) d_Law_law_203 ?_
  refine lv_aload_n hx hb d_Law_law_204 rfl (lv_at hl 0 rfl) ?_
  refine lv_iload_n hx hb d_Law_law_205 rfl (lv_at hl 3 rfl) ?_
  refine lv_iconst (v := 3) hx hb d_Law_law_206 (by decide) ?_
  refine lv_iadd hx hb d_Law_law_207 ?_
  refine va_sld hx hb hX hbl hbA hw.2.2 (i := nI i + 3) (cs_lawI (j := 3) hi5 hL (by decide)) d_Law_law_208 ?_
  refine lv_if_eq (tgt := 216) hx hb d_Law_law_209 (by decide) (fun c1 => ?_) (fun c1 => ?_)
  · refine lv_iconst (v := 0) hx hb d_Law_law_216 (by decide) ?_
    obtain ⟨hpx, hpm, heq, hrel⟩ := hR k M (xs (nI i + 1).toNatClampNeg) (xs (nI i + 2).toNatClampNeg) 0 hk hrel (Or.inl rfl)
    refine cs_ret_i hC hw (cs_runV (As := [.int (xs (nI i + 1).toNatClampNeg), .int (xs (nI i + 2).toNatClampNeg), .int 0]) (rest := []) hC hw is_0.2 (ci := 0) rfl rfl (cs_sg_is is_0) (c_X_inherit l D cA ad M 0 is_0 (xs (nI i + 1).toNatClampNeg) (xs (nI i + 2).toNatClampNeg) 0 hpx _) rfl rfl cw_Law_18 ⟨Nat.le_of_ble_eq_true rfl, Nat.le_of_ble_eq_true rfl⟩ hl.1 rfl rfl (Nat.le_of_ble_eq_true rfl) d_Law_law_217 ⟨hk2.1, hk2.2⟩) (fun u1 H locs eu1 hw => ?_)
    rw [← eu1] at hpm heq hrel
    refine lv_aload_n hx hb d_Law_law_220 rfl (lv_at hl 2 rfl) ?_
    refine lv_aload_n hx hb d_Law_law_221 rfl (lv_at hl 0 rfl) ?_
    refine lv_iload_n hx hb d_Law_law_222 rfl (lv_at hl 3 rfl) ?_
    refine lv_iconst (v := 1) hx hb d_Law_law_223 (by decide) ?_
    refine lv_iadd hx hb d_Law_law_224 ?_
    refine va_sld hx hb hX hbl hbA hw.2.2 (i := nI i + 1) (cs_lawI (j := 1) hi5 hL (by decide)) d_Law_law_225 ?_
    refine lv_aload_n hx hb d_Law_law_226 rfl (lv_at hl 0 rfl) ?_
    refine lv_iload_n hx hb d_Law_law_227 rfl (lv_at hl 3 rfl) ?_
    refine lv_iconst (v := 2) hx hb d_Law_law_228 (by decide) ?_
    refine lv_iadd hx hb d_Law_law_229 ?_
    refine va_sld hx hb hX hbl hbA hw.2.2 (i := nI i + 2) (cs_lawI (j := 2) hi5 hL (by decide)) d_Law_law_230 ?_
    refine lv_aload_n hx hb d_Law_law_231 rfl (lv_at hl 0 rfl) ?_
    refine lv_iload_n hx hb d_Law_law_232 rfl (lv_at hl 3 rfl) ?_
    refine lv_iconst (v := 3) hx hb d_Law_law_233 (by decide) ?_
    refine lv_iadd hx hb d_Law_law_234 ?_
    refine va_sld hx hb hX hbl hbA hw.2.2 (i := nI i + 3) (cs_lawI (j := 3) hi5 hL (by decide)) d_Law_law_235 ?_
    refine lv_if_eq (tgt := 243) hx hb d_Law_law_236 (by decide) (fun _ => ?_) (fun c9 => absurd c1 c9)
    refine lv_iconst (v := 0) hx hb d_Law_law_243 (by decide) ?_
    refine cs_ret_i hC hw (cs_runV (As := [.int (xs (nI i + 1).toNatClampNeg), .int (xs (nI i + 2).toNatClampNeg), .int 0]) (rest := [.int (u1.1)]) hC hw is_62.2 (ci := 5) rfl rfl (cs_sg_is is_62) (c_Mo_inherit l D cA ad u1.2 62 is_62 (xs (nI i + 1).toNatClampNeg) (xs (nI i + 2).toNatClampNeg) 0 hpm _) rfl rfl cw_Law_22 ⟨Nat.le_of_ble_eq_true rfl, Nat.le_of_ble_eq_true rfl⟩ hl.1 rfl rfl (Nat.le_of_ble_eq_true rfl) d_Law_law_244 ⟨hk2.1, hk2.2⟩) (fun u2 H locs eu2 hw => ?_)
    rw [← eu2] at heq hrel
    refine lv_icmp_eq (tgt := 594) hx hb d_Law_law_247 (by decide) (fun _ => ?_) (fun c9 => absurd heq c9)
    exact kk u2.2 ad _ _ H locs ls hrel hw hl (cs_lawS hkc)
  · refine lv_iconst (v := 1) hx hb d_Law_law_212 (by decide) ?_
    refine lv_goto (tgt := 217) hx hb d_Law_law_213 (by decide) ?_
    obtain ⟨hpx, hpm, heq, hrel⟩ := hR k M (xs (nI i + 1).toNatClampNeg) (xs (nI i + 2).toNatClampNeg) 1 hk hrel (Or.inr rfl)
    refine cs_ret_i hC hw (cs_runV (As := [.int (xs (nI i + 1).toNatClampNeg), .int (xs (nI i + 2).toNatClampNeg), .int 1]) (rest := []) hC hw is_0.2 (ci := 0) rfl rfl (cs_sg_is is_0) (c_X_inherit l D cA ad M 0 is_0 (xs (nI i + 1).toNatClampNeg) (xs (nI i + 2).toNatClampNeg) 1 hpx _) rfl rfl cw_Law_18 ⟨Nat.le_of_ble_eq_true rfl, Nat.le_of_ble_eq_true rfl⟩ hl.1 rfl rfl (Nat.le_of_ble_eq_true rfl) d_Law_law_217 ⟨hk2.1, hk2.2⟩) (fun u1 H locs eu1 hw => ?_)
    rw [← eu1] at hpm heq hrel
    refine lv_aload_n hx hb d_Law_law_220 rfl (lv_at hl 2 rfl) ?_
    refine lv_aload_n hx hb d_Law_law_221 rfl (lv_at hl 0 rfl) ?_
    refine lv_iload_n hx hb d_Law_law_222 rfl (lv_at hl 3 rfl) ?_
    refine lv_iconst (v := 1) hx hb d_Law_law_223 (by decide) ?_
    refine lv_iadd hx hb d_Law_law_224 ?_
    refine va_sld hx hb hX hbl hbA hw.2.2 (i := nI i + 1) (cs_lawI (j := 1) hi5 hL (by decide)) d_Law_law_225 ?_
    refine lv_aload_n hx hb d_Law_law_226 rfl (lv_at hl 0 rfl) ?_
    refine lv_iload_n hx hb d_Law_law_227 rfl (lv_at hl 3 rfl) ?_
    refine lv_iconst (v := 2) hx hb d_Law_law_228 (by decide) ?_
    refine lv_iadd hx hb d_Law_law_229 ?_
    refine va_sld hx hb hX hbl hbA hw.2.2 (i := nI i + 2) (cs_lawI (j := 2) hi5 hL (by decide)) d_Law_law_230 ?_
    refine lv_aload_n hx hb d_Law_law_231 rfl (lv_at hl 0 rfl) ?_
    refine lv_iload_n hx hb d_Law_law_232 rfl (lv_at hl 3 rfl) ?_
    refine lv_iconst (v := 3) hx hb d_Law_law_233 (by decide) ?_
    refine lv_iadd hx hb d_Law_law_234 ?_
    refine va_sld hx hb hX hbl hbA hw.2.2 (i := nI i + 3) (cs_lawI (j := 3) hi5 hL (by decide)) d_Law_law_235 ?_
    refine lv_if_eq (tgt := 243) hx hb d_Law_law_236 (by decide) (fun c9 => absurd c9 c1) (fun _ => ?_)
    refine lv_iconst (v := 1) hx hb d_Law_law_239 (by decide) ?_
    refine lv_goto (tgt := 244) hx hb d_Law_law_240 (by decide) ?_
    refine cs_ret_i hC hw (cs_runV (As := [.int (xs (nI i + 1).toNatClampNeg), .int (xs (nI i + 2).toNatClampNeg), .int 1]) (rest := [.int (u1.1)]) hC hw is_62.2 (ci := 5) rfl rfl (cs_sg_is is_62) (c_Mo_inherit l D cA ad u1.2 62 is_62 (xs (nI i + 1).toNatClampNeg) (xs (nI i + 2).toNatClampNeg) 1 hpm _) rfl rfl cw_Law_22 ⟨Nat.le_of_ble_eq_true rfl, Nat.le_of_ble_eq_true rfl⟩ hl.1 rfl rfl (Nat.le_of_ble_eq_true rfl) d_Law_law_244 ⟨hk2.1, hk2.2⟩) (fun u2 H locs eu2 hw => ?_)
    rw [← eu2] at heq hrel
    refine lv_icmp_eq (tgt := 594) hx hb d_Law_law_247 (by decide) (fun _ => ?_) (fun c9 => absurd heq c9)
    exact kk u2.2 ad _ _ H locs ls hrel hw hl (cs_lawS hkc)
def cs_R_act (Rel : Nat → cs_Mem → Prop) : Prop := ∀ (k : Nat) (M : cs_Mem) (a0 : Int32) (a1 : Int32) (a2 : Int32) (a3 : Int32), k < 512 → Rel k M → (pre_X_act M 0 a0 a1 a2 a3) ∧ (pre_Mo_act (f_X_act M 0 a0 a1 a2 a3).2 62 a0 a1 a2 a3) ∧ ((f_X_act M 0 a0 a1 a2 a3).1 = (f_Mo_act (f_X_act M 0 a0 a1 a2 a3).2 62 a0 a1 a2 a3).1) ∧ (Rel (k + 1) ((f_Mo_act (f_X_act M 0 a0 a1 a2 a3).2 62 a0 a1 a2 a3).2))
set_option maxHeartbeats 4000000 in
set_option maxRecDepth 100000 in
theorem law_act {p : Program} {l : Launch} {e : Env} {s : State} {m : MethodId} {args : Array Value} {below : List Frame} {meth : Method} {c : Code} {D : va_G} {cA : Nat → ClassId} {A : Nat → Prop} {Q : State → Prop} {b L : Nat} {xs : Nat → Int32} {Rel : Nat → cs_Mem → Prop} {k i : Nat} (hR : cs_R_act Rel) (hC : cs_Ctx p s m args c code 4 "ClassStarterLaw" D cA A) (hX : va_X b L xs s s.heap) (hbl : b < s.heap.size) (hbA : ¬ A b) (hi5 : i + 5 ≤ L) (hL : L ≤ 2560) (hk : k < 512) (M : cs_Mem) (ad : Nat → Nat) (kc ks : Nat) (H : Heap) (locs : List Loc) (ls : Array Slot) (hrel : Rel k M) (hw : cs_Wd D cA ad M A s H locs) (hl : lv_has ls 4 [(0, .ref b), (1, .ref (ad 0)), (2, .ref (ad 62)), (3, .int (nI i))]) (hkc : kc ≤ 100 + 1024 * k ∧ ks ≤ 20000 + 8192 * k)
    (kk : ∀ (M : cs_Mem) (ad : Nat → Nat) (kc ks : Nat) (H : Heap) (locs : List Loc) (ls : Array Slot), Rel (k + 1) M → cs_Wd D cA ad M A s H locs → lv_has ls 4 [(0, .ref b), (1, .ref (ad 0)), (2, .ref (ad 62)), (3, .int (nI i))] → (kc ≤ 100 + 1024 * (k + 1) ∧ ks ≤ 20000 + 8192 * (k + 1)) → W p l e room_1 s m args below meth c H locs kc ks Q (F0 m 594 ls [])) : W p l e room_1 s m args below meth c H locs kc ks Q (F0 m 252 ls []) := by
  have hx := hC.1
  have hb := hC.2.1
  have hk2 := cs_lawK hkc hk
  refine lv_aload_n hx hb d_Law_law_252 rfl (lv_at hl 1 rfl) ?_
  refine lv_aload_n hx hb d_Law_law_253 rfl (lv_at hl 0 rfl) ?_
  refine lv_iload_n hx hb d_Law_law_254 rfl (lv_at hl 3 rfl) ?_
  refine lv_iconst (v := 1) hx hb d_Law_law_255 (by decide) ?_
  refine lv_iadd hx hb d_Law_law_256 ?_
  refine va_sld hx hb hX hbl hbA hw.2.2 (i := nI i + 1) (cs_lawI (j := 1) hi5 hL (by decide)) d_Law_law_257 ?_
  refine lv_aload_n hx hb d_Law_law_258 rfl (lv_at hl 0 rfl) ?_
  refine lv_iload_n hx hb d_Law_law_259 rfl (lv_at hl 3 rfl) ?_
  refine lv_iconst (v := 2) hx hb d_Law_law_260 (by decide) ?_
  refine lv_iadd hx hb d_Law_law_261 ?_
  refine va_sld hx hb hX hbl hbA hw.2.2 (i := nI i + 2) (cs_lawI (j := 2) hi5 hL (by decide)) d_Law_law_262 ?_
  refine lv_aload_n hx hb d_Law_law_263 rfl (lv_at hl 0 rfl) ?_
  refine lv_iload_n hx hb d_Law_law_264 rfl (lv_at hl 3 rfl) ?_
  refine lv_iconst (v := 3) hx hb d_Law_law_265 (by decide) ?_
  refine lv_iadd hx hb d_Law_law_266 ?_
  refine va_sld hx hb hX hbl hbA hw.2.2 (i := nI i + 3) (cs_lawI (j := 3) hi5 hL (by decide)) d_Law_law_267 ?_
  refine lv_aload_n hx hb d_Law_law_268 rfl (lv_at hl 0 rfl) ?_
  refine lv_iload_n hx hb d_Law_law_269 rfl (lv_at hl 3 rfl) ?_
  refine lv_iconst (v := 4) hx hb d_Law_law_270 (by decide) ?_
  refine lv_iadd hx hb d_Law_law_271 ?_
  refine va_sld hx hb hX hbl hbA hw.2.2 (i := nI i + 4) (cs_lawI (j := 4) hi5 hL (by decide)) d_Law_law_272 ?_
  obtain ⟨hpx, hpm, heq, hrel⟩ := hR k M (xs (nI i + 1).toNatClampNeg) (xs (nI i + 2).toNatClampNeg) (xs (nI i + 3).toNatClampNeg) (xs (nI i + 4).toNatClampNeg) hk hrel
  refine cs_ret_i hC hw (cs_runV (As := [.int (xs (nI i + 1).toNatClampNeg), .int (xs (nI i + 2).toNatClampNeg), .int (xs (nI i + 3).toNatClampNeg), .int (xs (nI i + 4).toNatClampNeg)]) (rest := []) hC hw is_0.2 (ci := 0) rfl rfl (cs_sg_is is_0) (c_X_act l D cA ad M 0 is_0 (xs (nI i + 1).toNatClampNeg) (xs (nI i + 2).toNatClampNeg) (xs (nI i + 3).toNatClampNeg) (xs (nI i + 4).toNatClampNeg) hpx _) rfl rfl cw_Law_23 ⟨Nat.le_of_ble_eq_true rfl, Nat.le_of_ble_eq_true rfl⟩ hl.1 rfl rfl (Nat.le_of_ble_eq_true rfl) d_Law_law_273 ⟨hk2.1, hk2.2⟩) (fun u1 H locs eu1 hw => ?_)
  rw [← eu1] at hpm heq hrel
  refine lv_aload_n hx hb d_Law_law_276 rfl (lv_at hl 2 rfl) ?_
  refine lv_aload_n hx hb d_Law_law_277 rfl (lv_at hl 0 rfl) ?_
  refine lv_iload_n hx hb d_Law_law_278 rfl (lv_at hl 3 rfl) ?_
  refine lv_iconst (v := 1) hx hb d_Law_law_279 (by decide) ?_
  refine lv_iadd hx hb d_Law_law_280 ?_
  refine va_sld hx hb hX hbl hbA hw.2.2 (i := nI i + 1) (cs_lawI (j := 1) hi5 hL (by decide)) d_Law_law_281 ?_
  refine lv_aload_n hx hb d_Law_law_282 rfl (lv_at hl 0 rfl) ?_
  refine lv_iload_n hx hb d_Law_law_283 rfl (lv_at hl 3 rfl) ?_
  refine lv_iconst (v := 2) hx hb d_Law_law_284 (by decide) ?_
  refine lv_iadd hx hb d_Law_law_285 ?_
  refine va_sld hx hb hX hbl hbA hw.2.2 (i := nI i + 2) (cs_lawI (j := 2) hi5 hL (by decide)) d_Law_law_286 ?_
  refine lv_aload_n hx hb d_Law_law_287 rfl (lv_at hl 0 rfl) ?_
  refine lv_iload_n hx hb d_Law_law_288 rfl (lv_at hl 3 rfl) ?_
  refine lv_iconst (v := 3) hx hb d_Law_law_289 (by decide) ?_
  refine lv_iadd hx hb d_Law_law_290 ?_
  refine va_sld hx hb hX hbl hbA hw.2.2 (i := nI i + 3) (cs_lawI (j := 3) hi5 hL (by decide)) d_Law_law_291 ?_
  refine lv_aload_n hx hb d_Law_law_292 rfl (lv_at hl 0 rfl) ?_
  refine lv_iload_n hx hb d_Law_law_293 rfl (lv_at hl 3 rfl) ?_
  refine lv_iconst (v := 4) hx hb d_Law_law_294 (by decide) ?_
  refine lv_iadd hx hb d_Law_law_295 ?_
  refine va_sld hx hb hX hbl hbA hw.2.2 (i := nI i + 4) (cs_lawI (j := 4) hi5 hL (by decide)) d_Law_law_296 ?_
  refine cs_ret_i hC hw (cs_runV (As := [.int (xs (nI i + 1).toNatClampNeg), .int (xs (nI i + 2).toNatClampNeg), .int (xs (nI i + 3).toNatClampNeg), .int (xs (nI i + 4).toNatClampNeg)]) (rest := [.int (u1.1)]) hC hw is_62.2 (ci := 5) rfl rfl (cs_sg_is is_62) (c_Mo_act l D cA ad u1.2 62 is_62 (xs (nI i + 1).toNatClampNeg) (xs (nI i + 2).toNatClampNeg) (xs (nI i + 3).toNatClampNeg) (xs (nI i + 4).toNatClampNeg) hpm _) rfl rfl cw_Law_27 ⟨Nat.le_of_ble_eq_true rfl, Nat.le_of_ble_eq_true rfl⟩ hl.1 rfl rfl (Nat.le_of_ble_eq_true rfl) d_Law_law_297 ⟨hk2.1, hk2.2⟩) (fun u2 H locs eu2 hw => ?_)
  rw [← eu2] at heq hrel
  refine lv_icmp_eq (tgt := 594) hx hb d_Law_law_300 (by decide) (fun _ => ?_) (fun c9 => absurd heq c9)
  exact kk u2.2 ad _ _ H locs ls hrel hw hl (cs_lawS hkc)
def cs_R_plan (Rel : Nat → cs_Mem → Prop) : Prop := ∀ (k : Nat) (M : cs_Mem) (a0 : Int32) (a1 : Int32) (a2 : Int32), k < 512 → Rel k M → (pre_X_plan M 0 a0 a1 a2) ∧ (pre_Mo_plan (f_X_plan M 0 a0 a1 a2).2 62 a0 a1 a2) ∧ ((f_X_plan M 0 a0 a1 a2).1 = (f_Mo_plan (f_X_plan M 0 a0 a1 a2).2 62 a0 a1 a2).1) ∧ (Rel (k + 1) ((f_Mo_plan (f_X_plan M 0 a0 a1 a2).2 62 a0 a1 a2).2))
set_option maxHeartbeats 4000000 in
set_option maxRecDepth 100000 in
theorem law_plan {p : Program} {l : Launch} {e : Env} {s : State} {m : MethodId} {args : Array Value} {below : List Frame} {meth : Method} {c : Code} {D : va_G} {cA : Nat → ClassId} {A : Nat → Prop} {Q : State → Prop} {b L : Nat} {xs : Nat → Int32} {Rel : Nat → cs_Mem → Prop} {k i : Nat} (hR : cs_R_plan Rel) (hC : cs_Ctx p s m args c code 4 "ClassStarterLaw" D cA A) (hX : va_X b L xs s s.heap) (hbl : b < s.heap.size) (hbA : ¬ A b) (hi5 : i + 5 ≤ L) (hL : L ≤ 2560) (hk : k < 512) (M : cs_Mem) (ad : Nat → Nat) (kc ks : Nat) (H : Heap) (locs : List Loc) (ls : Array Slot) (hrel : Rel k M) (hw : cs_Wd D cA ad M A s H locs) (hl : lv_has ls 4 [(0, .ref b), (1, .ref (ad 0)), (2, .ref (ad 62)), (3, .int (nI i))]) (hkc : kc ≤ 100 + 1024 * k ∧ ks ≤ 20000 + 8192 * k)
    (kk : ∀ (M : cs_Mem) (ad : Nat → Nat) (kc ks : Nat) (H : Heap) (locs : List Loc) (ls : Array Slot), Rel (k + 1) M → cs_Wd D cA ad M A s H locs → lv_has ls 4 [(0, .ref b), (1, .ref (ad 0)), (2, .ref (ad 62)), (3, .int (nI i))] → (kc ≤ 100 + 1024 * (k + 1) ∧ ks ≤ 20000 + 8192 * (k + 1)) → W p l e room_1 s m args below meth c H locs kc ks Q (F0 m 594 ls [])) : W p l e room_1 s m args below meth c H locs kc ks Q (F0 m 305 ls []) := by
  have hx := hC.1
  have hb := hC.2.1
  have hk2 := cs_lawK hkc hk
  refine lv_aload_n hx hb d_Law_law_305 rfl (lv_at hl 1 rfl) ?_
  refine lv_aload_n hx hb d_Law_law_306 rfl (lv_at hl 0 rfl) ?_
  refine lv_iload_n hx hb d_Law_law_307 rfl (lv_at hl 3 rfl) ?_
  refine lv_iconst (v := 1) hx hb d_Law_law_308 (by decide) ?_
  refine lv_iadd hx hb d_Law_law_309 ?_
  refine va_sld hx hb hX hbl hbA hw.2.2 (i := nI i + 1) (cs_lawI (j := 1) hi5 hL (by decide)) d_Law_law_310 ?_
  refine lv_aload_n hx hb d_Law_law_311 rfl (lv_at hl 0 rfl) ?_
  refine lv_iload_n hx hb d_Law_law_312 rfl (lv_at hl 3 rfl) ?_
  refine lv_iconst (v := 2) hx hb d_Law_law_313 (by decide) ?_
  refine lv_iadd hx hb d_Law_law_314 ?_
  refine va_sld hx hb hX hbl hbA hw.2.2 (i := nI i + 2) (cs_lawI (j := 2) hi5 hL (by decide)) d_Law_law_315 ?_
  refine lv_aload_n hx hb d_Law_law_316 rfl (lv_at hl 0 rfl) ?_
  refine lv_iload_n hx hb d_Law_law_317 rfl (lv_at hl 3 rfl) ?_
  refine lv_iconst (v := 3) hx hb d_Law_law_318 (by decide) ?_
  refine lv_iadd hx hb d_Law_law_319 ?_
  refine va_sld hx hb hX hbl hbA hw.2.2 (i := nI i + 3) (cs_lawI (j := 3) hi5 hL (by decide)) d_Law_law_320 ?_
  obtain ⟨hpx, hpm, heq, hrel⟩ := hR k M (xs (nI i + 1).toNatClampNeg) (xs (nI i + 2).toNatClampNeg) (xs (nI i + 3).toNatClampNeg) hk hrel
  refine cs_ret_i hC hw (cs_runV (As := [.int (xs (nI i + 1).toNatClampNeg), .int (xs (nI i + 2).toNatClampNeg), .int (xs (nI i + 3).toNatClampNeg)]) (rest := []) hC hw is_0.2 (ci := 0) rfl rfl (cs_sg_is is_0) (c_X_plan l D cA ad M 0 is_0 (xs (nI i + 1).toNatClampNeg) (xs (nI i + 2).toNatClampNeg) (xs (nI i + 3).toNatClampNeg) hpx _) rfl rfl cw_Law_28 ⟨Nat.le_of_ble_eq_true rfl, Nat.le_of_ble_eq_true rfl⟩ hl.1 rfl rfl (Nat.le_of_ble_eq_true rfl) d_Law_law_321 ⟨hk2.1, hk2.2⟩) (fun u1 H locs eu1 hw => ?_)
  rw [← eu1] at hpm heq hrel
  refine lv_aload_n hx hb d_Law_law_324 rfl (lv_at hl 2 rfl) ?_
  refine lv_aload_n hx hb d_Law_law_325 rfl (lv_at hl 0 rfl) ?_
  refine lv_iload_n hx hb d_Law_law_326 rfl (lv_at hl 3 rfl) ?_
  refine lv_iconst (v := 1) hx hb d_Law_law_327 (by decide) ?_
  refine lv_iadd hx hb d_Law_law_328 ?_
  refine va_sld hx hb hX hbl hbA hw.2.2 (i := nI i + 1) (cs_lawI (j := 1) hi5 hL (by decide)) d_Law_law_329 ?_
  refine lv_aload_n hx hb d_Law_law_330 rfl (lv_at hl 0 rfl) ?_
  refine lv_iload_n hx hb d_Law_law_331 rfl (lv_at hl 3 rfl) ?_
  refine lv_iconst (v := 2) hx hb d_Law_law_332 (by decide) ?_
  refine lv_iadd hx hb d_Law_law_333 ?_
  refine va_sld hx hb hX hbl hbA hw.2.2 (i := nI i + 2) (cs_lawI (j := 2) hi5 hL (by decide)) d_Law_law_334 ?_
  refine lv_aload_n hx hb d_Law_law_335 rfl (lv_at hl 0 rfl) ?_
  refine lv_iload_n hx hb d_Law_law_336 rfl (lv_at hl 3 rfl) ?_
  refine lv_iconst (v := 3) hx hb d_Law_law_337 (by decide) ?_
  refine lv_iadd hx hb d_Law_law_338 ?_
  refine va_sld hx hb hX hbl hbA hw.2.2 (i := nI i + 3) (cs_lawI (j := 3) hi5 hL (by decide)) d_Law_law_339 ?_
  refine cs_ret_i hC hw (cs_runV (As := [.int (xs (nI i + 1).toNatClampNeg), .int (xs (nI i + 2).toNatClampNeg), .int (xs (nI i + 3).toNatClampNeg)]) (rest := [.int (u1.1)]) hC hw is_62.2 (ci := 5) rfl rfl (cs_sg_is is_62) (c_Mo_plan l D cA ad u1.2 62 is_62 (xs (nI i + 1).toNatClampNeg) (xs (nI i + 2).toNatClampNeg) (xs (nI i + 3).toNatClampNeg) hpm _) rfl rfl cw_Law_32 ⟨Nat.le_of_ble_eq_true rfl, Nat.le_of_ble_eq_true rfl⟩ hl.1 rfl rfl (Nat.le_of_ble_eq_true rfl) d_Law_law_340 ⟨hk2.1, hk2.2⟩) (fun u2 H locs eu2 hw => ?_)
  rw [← eu2] at heq hrel
  refine lv_icmp_eq (tgt := 594) hx hb d_Law_law_343 (by decide) (fun _ => ?_) (fun c9 => absurd heq c9)
  exact kk u2.2 ad _ _ H locs ls hrel hw hl (cs_lawS hkc)
def cs_R_step (Rel : Nat → cs_Mem → Prop) : Prop := ∀ (k : Nat) (M : cs_Mem) (a0 : Int32), k < 512 → Rel k M → (pre_X_step M 0 a0) ∧ (pre_Mo_step (f_X_step M 0 a0).2 62 a0) ∧ ((f_X_step M 0 a0).1 = (f_Mo_step (f_X_step M 0 a0).2 62 a0).1) ∧ (Rel (k + 1) ((f_Mo_step (f_X_step M 0 a0).2 62 a0).2))
set_option maxHeartbeats 4000000 in
set_option maxRecDepth 100000 in
theorem law_step {p : Program} {l : Launch} {e : Env} {s : State} {m : MethodId} {args : Array Value} {below : List Frame} {meth : Method} {c : Code} {D : va_G} {cA : Nat → ClassId} {A : Nat → Prop} {Q : State → Prop} {b L : Nat} {xs : Nat → Int32} {Rel : Nat → cs_Mem → Prop} {k i : Nat} (hR : cs_R_step Rel) (hC : cs_Ctx p s m args c code 4 "ClassStarterLaw" D cA A) (hX : va_X b L xs s s.heap) (hbl : b < s.heap.size) (hbA : ¬ A b) (hi5 : i + 5 ≤ L) (hL : L ≤ 2560) (hk : k < 512) (M : cs_Mem) (ad : Nat → Nat) (kc ks : Nat) (H : Heap) (locs : List Loc) (ls : Array Slot) (hrel : Rel k M) (hw : cs_Wd D cA ad M A s H locs) (hl : lv_has ls 4 [(0, .ref b), (1, .ref (ad 0)), (2, .ref (ad 62)), (3, .int (nI i))]) (hkc : kc ≤ 100 + 1024 * k ∧ ks ≤ 20000 + 8192 * k)
    (kk : ∀ (M : cs_Mem) (ad : Nat → Nat) (kc ks : Nat) (H : Heap) (locs : List Loc) (ls : Array Slot), Rel (k + 1) M → cs_Wd D cA ad M A s H locs → lv_has ls 4 [(0, .ref b), (1, .ref (ad 0)), (2, .ref (ad 62)), (3, .int (nI i))] → (kc ≤ 100 + 1024 * (k + 1) ∧ ks ≤ 20000 + 8192 * (k + 1)) → W p l e room_1 s m args below meth c H locs kc ks Q (F0 m 594 ls [])) : W p l e room_1 s m args below meth c H locs kc ks Q (F0 m 348 ls []) := by
  have hx := hC.1
  have hb := hC.2.1
  have hk2 := cs_lawK hkc hk
  refine lv_aload_n hx hb d_Law_law_348 rfl (lv_at hl 1 rfl) ?_
  refine lv_aload_n hx hb d_Law_law_349 rfl (lv_at hl 0 rfl) ?_
  refine lv_iload_n hx hb d_Law_law_350 rfl (lv_at hl 3 rfl) ?_
  refine lv_iconst (v := 1) hx hb d_Law_law_351 (by decide) ?_
  refine lv_iadd hx hb d_Law_law_352 ?_
  refine va_sld hx hb hX hbl hbA hw.2.2 (i := nI i + 1) (cs_lawI (j := 1) hi5 hL (by decide)) d_Law_law_353 ?_
  obtain ⟨hpx, hpm, heq, hrel⟩ := hR k M (xs (nI i + 1).toNatClampNeg) hk hrel
  refine cs_ret_i hC hw (cs_runV (As := [.int (xs (nI i + 1).toNatClampNeg)]) (rest := []) hC hw is_0.2 (ci := 0) rfl rfl (cs_sg_is is_0) (c_X_step l D cA ad M 0 is_0 (xs (nI i + 1).toNatClampNeg) hpx _) rfl rfl cw_Law_33 ⟨Nat.le_of_ble_eq_true rfl, Nat.le_of_ble_eq_true rfl⟩ hl.1 rfl rfl (Nat.le_of_ble_eq_true rfl) d_Law_law_354 ⟨hk2.1, hk2.2⟩) (fun u1 H locs eu1 hw => ?_)
  rw [← eu1] at hpm heq hrel
  refine lv_aload_n hx hb d_Law_law_357 rfl (lv_at hl 2 rfl) ?_
  refine lv_aload_n hx hb d_Law_law_358 rfl (lv_at hl 0 rfl) ?_
  refine lv_iload_n hx hb d_Law_law_359 rfl (lv_at hl 3 rfl) ?_
  refine lv_iconst (v := 1) hx hb d_Law_law_360 (by decide) ?_
  refine lv_iadd hx hb d_Law_law_361 ?_
  refine va_sld hx hb hX hbl hbA hw.2.2 (i := nI i + 1) (cs_lawI (j := 1) hi5 hL (by decide)) d_Law_law_362 ?_
  refine cs_ret_i hC hw (cs_runV (As := [.int (xs (nI i + 1).toNatClampNeg)]) (rest := [.int (u1.1)]) hC hw is_62.2 (ci := 5) rfl rfl (cs_sg_is is_62) (c_Mo_step l D cA ad u1.2 62 is_62 (xs (nI i + 1).toNatClampNeg) hpm _) rfl rfl cw_Law_37 ⟨Nat.le_of_ble_eq_true rfl, Nat.le_of_ble_eq_true rfl⟩ hl.1 rfl rfl (Nat.le_of_ble_eq_true rfl) d_Law_law_363 ⟨hk2.1, hk2.2⟩) (fun u2 H locs eu2 hw => ?_)
  rw [← eu2] at heq hrel
  refine lv_icmp_eq (tgt := 594) hx hb d_Law_law_366 (by decide) (fun _ => ?_) (fun c9 => absurd heq c9)
  exact kk u2.2 ad _ _ H locs ls hrel hw hl (cs_lawS hkc)
def cs_R_reset (Rel : Nat → cs_Mem → Prop) : Prop := ∀ (k : Nat) (M : cs_Mem), k < 512 → Rel k M → (pre_X_reset M 0) ∧ (True) ∧ ((f_X_reset M 0).1 = (f_Mo_reset (f_X_reset M 0).2 62 ).1) ∧ (Rel (k + 1) ((f_Mo_reset (f_X_reset M 0).2 62 ).2))
set_option maxHeartbeats 4000000 in
set_option maxRecDepth 100000 in
theorem law_reset {p : Program} {l : Launch} {e : Env} {s : State} {m : MethodId} {args : Array Value} {below : List Frame} {meth : Method} {c : Code} {D : va_G} {cA : Nat → ClassId} {A : Nat → Prop} {Q : State → Prop} {b L : Nat} {xs : Nat → Int32} {Rel : Nat → cs_Mem → Prop} {k i : Nat} (hR : cs_R_reset Rel) (hC : cs_Ctx p s m args c code 4 "ClassStarterLaw" D cA A) (hX : va_X b L xs s s.heap) (hbl : b < s.heap.size) (hbA : ¬ A b) (hi5 : i + 5 ≤ L) (hL : L ≤ 2560) (hk : k < 512) (M : cs_Mem) (ad : Nat → Nat) (kc ks : Nat) (H : Heap) (locs : List Loc) (ls : Array Slot) (hrel : Rel k M) (hw : cs_Wd D cA ad M A s H locs) (hl : lv_has ls 4 [(0, .ref b), (1, .ref (ad 0)), (2, .ref (ad 62)), (3, .int (nI i))]) (hkc : kc ≤ 100 + 1024 * k ∧ ks ≤ 20000 + 8192 * k)
    (kk : ∀ (M : cs_Mem) (ad : Nat → Nat) (kc ks : Nat) (H : Heap) (locs : List Loc) (ls : Array Slot), Rel (k + 1) M → cs_Wd D cA ad M A s H locs → lv_has ls 4 [(0, .ref b), (1, .ref (ad 0)), (2, .ref (ad 62)), (3, .int (nI i))] → (kc ≤ 100 + 1024 * (k + 1) ∧ ks ≤ 20000 + 8192 * (k + 1)) → W p l e room_1 s m args below meth c H locs kc ks Q (F0 m 594 ls [])) : W p l e room_1 s m args below meth c H locs kc ks Q (F0 m 371 ls []) := by
  have hx := hC.1
  have hb := hC.2.1
  have hk2 := cs_lawK hkc hk
  refine lv_aload_n hx hb d_Law_law_371 rfl (lv_at hl 1 rfl) ?_
  obtain ⟨hpx, hpm, heq, hrel⟩ := hR k M  hk hrel
  refine cs_ret_i hC hw (cs_runV (As := []) (rest := []) hC hw is_0.2 (ci := 0) rfl rfl (cs_sg_is is_0) (c_X_reset l D cA ad M 0 is_0  hpx _) rfl rfl cw_Law_38 ⟨Nat.le_of_ble_eq_true rfl, Nat.le_of_ble_eq_true rfl⟩ hl.1 rfl rfl (Nat.le_of_ble_eq_true rfl) d_Law_law_372 ⟨hk2.1, hk2.2⟩) (fun u1 H locs eu1 hw => ?_)
  rw [← eu1] at heq hrel
  refine lv_aload_n hx hb d_Law_law_375 rfl (lv_at hl 2 rfl) ?_
  refine cs_ret_i hC hw (cs_runV (As := []) (rest := [.int (u1.1)]) hC hw is_62.2 (ci := 5) rfl rfl (cs_sg_is is_62) (c_Mo_reset l D cA ad u1.2 62 is_62  _) rfl rfl cw_Law_42 ⟨Nat.le_of_ble_eq_true rfl, Nat.le_of_ble_eq_true rfl⟩ hl.1 rfl rfl (Nat.le_of_ble_eq_true rfl) d_Law_law_376 ⟨hk2.1, hk2.2⟩) (fun u2 H locs eu2 hw => ?_)
  rw [← eu2] at heq hrel
  refine lv_icmp_eq (tgt := 594) hx hb d_Law_law_379 (by decide) (fun _ => ?_) (fun c9 => absurd heq c9)
  exact kk u2.2 ad _ _ H locs ls hrel hw hl (cs_lawS hkc)
def cs_R_state (Rel : Nat → cs_Mem → Prop) : Prop := ∀ (k : Nat) (M : cs_Mem) (a0 : Int32), k < 512 → Rel k M → (pre_X_state M 0 a0) ∧ (pre_Mo_state M 62 a0) ∧ (f_X_state M 0 a0 = (f_Mo_state M 62 a0).1) ∧ (Rel (k + 1) ((f_Mo_state M 62 a0).2))
set_option maxHeartbeats 4000000 in
set_option maxRecDepth 100000 in
theorem law_state {p : Program} {l : Launch} {e : Env} {s : State} {m : MethodId} {args : Array Value} {below : List Frame} {meth : Method} {c : Code} {D : va_G} {cA : Nat → ClassId} {A : Nat → Prop} {Q : State → Prop} {b L : Nat} {xs : Nat → Int32} {Rel : Nat → cs_Mem → Prop} {k i : Nat} (hR : cs_R_state Rel) (hC : cs_Ctx p s m args c code 4 "ClassStarterLaw" D cA A) (hX : va_X b L xs s s.heap) (hbl : b < s.heap.size) (hbA : ¬ A b) (hi5 : i + 5 ≤ L) (hL : L ≤ 2560) (hk : k < 512) (M : cs_Mem) (ad : Nat → Nat) (kc ks : Nat) (H : Heap) (locs : List Loc) (ls : Array Slot) (hrel : Rel k M) (hw : cs_Wd D cA ad M A s H locs) (hl : lv_has ls 4 [(0, .ref b), (1, .ref (ad 0)), (2, .ref (ad 62)), (3, .int (nI i))]) (hkc : kc ≤ 100 + 1024 * k ∧ ks ≤ 20000 + 8192 * k)
    (kk : ∀ (M : cs_Mem) (ad : Nat → Nat) (kc ks : Nat) (H : Heap) (locs : List Loc) (ls : Array Slot), Rel (k + 1) M → cs_Wd D cA ad M A s H locs → lv_has ls 4 [(0, .ref b), (1, .ref (ad 0)), (2, .ref (ad 62)), (3, .int (nI i))] → (kc ≤ 100 + 1024 * (k + 1) ∧ ks ≤ 20000 + 8192 * (k + 1)) → W p l e room_1 s m args below meth c H locs kc ks Q (F0 m 594 ls [])) : W p l e room_1 s m args below meth c H locs kc ks Q (F0 m 384 ls []) := by
  have hx := hC.1
  have hb := hC.2.1
  have hk2 := cs_lawK hkc hk
  refine lv_aload_n hx hb d_Law_law_384 rfl (lv_at hl 1 rfl) ?_
  refine lv_aload_n hx hb d_Law_law_385 rfl (lv_at hl 0 rfl) ?_
  refine lv_iload_n hx hb d_Law_law_386 rfl (lv_at hl 3 rfl) ?_
  refine lv_iconst (v := 1) hx hb d_Law_law_387 (by decide) ?_
  refine lv_iadd hx hb d_Law_law_388 ?_
  refine va_sld hx hb hX hbl hbA hw.2.2 (i := nI i + 1) (cs_lawI (j := 1) hi5 hL (by decide)) d_Law_law_389 ?_
  obtain ⟨hpx, hpm, heq, hrel⟩ := hR k M (xs (nI i + 1).toNatClampNeg) hk hrel
  refine cs_ret_p hC hw (cs_runV (As := [.int (xs (nI i + 1).toNatClampNeg)]) (rest := []) hC hw is_0.2 (ci := 0) rfl rfl (cs_sg_is is_0) (c_X_state l D cA ad M 0 is_0 (xs (nI i + 1).toNatClampNeg) hpx _) rfl rfl cw_Law_43 ⟨Nat.le_of_ble_eq_true rfl, Nat.le_of_ble_eq_true rfl⟩ hl.1 rfl rfl (Nat.le_of_ble_eq_true rfl) d_Law_law_390 ⟨hk2.1, hk2.2⟩) (fun u1 H locs eu1 hw => ?_)
  rw [← eu1] at heq
  refine lv_aload_n hx hb d_Law_law_393 rfl (lv_at hl 2 rfl) ?_
  refine lv_aload_n hx hb d_Law_law_394 rfl (lv_at hl 0 rfl) ?_
  refine lv_iload_n hx hb d_Law_law_395 rfl (lv_at hl 3 rfl) ?_
  refine lv_iconst (v := 1) hx hb d_Law_law_396 (by decide) ?_
  refine lv_iadd hx hb d_Law_law_397 ?_
  refine va_sld hx hb hX hbl hbA hw.2.2 (i := nI i + 1) (cs_lawI (j := 1) hi5 hL (by decide)) d_Law_law_398 ?_
  refine cs_ret_i hC hw (cs_runV (As := [.int (xs (nI i + 1).toNatClampNeg)]) (rest := [.int u1]) hC hw is_62.2 (ci := 5) rfl rfl (cs_sg_is is_62) (c_Mo_state l D cA ad M 62 is_62 (xs (nI i + 1).toNatClampNeg) hpm _) rfl rfl cw_Law_46 ⟨Nat.le_of_ble_eq_true rfl, Nat.le_of_ble_eq_true rfl⟩ hl.1 rfl rfl (Nat.le_of_ble_eq_true rfl) d_Law_law_399 ⟨hk2.1, hk2.2⟩) (fun u2 H locs eu2 hw => ?_)
  rw [← eu2] at heq hrel
  refine lv_icmp_eq (tgt := 594) hx hb d_Law_law_402 (by decide) (fun _ => ?_) (fun c9 => absurd heq c9)
  exact kk u2.2 ad _ _ H locs ls hrel hw hl (cs_lawS hkc)
def cs_R_statics (Rel : Nat → cs_Mem → Prop) : Prop := ∀ (k : Nat) (M : cs_Mem) (a0 : Int32) (a1 : Int32), k < 512 → Rel k M → (pre_X_statics M 0 a0 a1) ∧ (pre_Mo_statics M 62 a0 a1) ∧ (f_X_statics M 0 a0 a1 = (f_Mo_statics M 62 a0 a1).1) ∧ (Rel (k + 1) ((f_Mo_statics M 62 a0 a1).2))
set_option maxHeartbeats 4000000 in
set_option maxRecDepth 100000 in
theorem law_statics {p : Program} {l : Launch} {e : Env} {s : State} {m : MethodId} {args : Array Value} {below : List Frame} {meth : Method} {c : Code} {D : va_G} {cA : Nat → ClassId} {A : Nat → Prop} {Q : State → Prop} {b L : Nat} {xs : Nat → Int32} {Rel : Nat → cs_Mem → Prop} {k i : Nat} (hR : cs_R_statics Rel) (hC : cs_Ctx p s m args c code 4 "ClassStarterLaw" D cA A) (hX : va_X b L xs s s.heap) (hbl : b < s.heap.size) (hbA : ¬ A b) (hi5 : i + 5 ≤ L) (hL : L ≤ 2560) (hk : k < 512) (M : cs_Mem) (ad : Nat → Nat) (kc ks : Nat) (H : Heap) (locs : List Loc) (ls : Array Slot) (hrel : Rel k M) (hw : cs_Wd D cA ad M A s H locs) (hl : lv_has ls 4 [(0, .ref b), (1, .ref (ad 0)), (2, .ref (ad 62)), (3, .int (nI i))]) (hkc : kc ≤ 100 + 1024 * k ∧ ks ≤ 20000 + 8192 * k)
    (kk : ∀ (M : cs_Mem) (ad : Nat → Nat) (kc ks : Nat) (H : Heap) (locs : List Loc) (ls : Array Slot), Rel (k + 1) M → cs_Wd D cA ad M A s H locs → lv_has ls 4 [(0, .ref b), (1, .ref (ad 0)), (2, .ref (ad 62)), (3, .int (nI i))] → (kc ≤ 100 + 1024 * (k + 1) ∧ ks ≤ 20000 + 8192 * (k + 1)) → W p l e room_1 s m args below meth c H locs kc ks Q (F0 m 594 ls [])) : W p l e room_1 s m args below meth c H locs kc ks Q (F0 m 407 ls []) := by
  have hx := hC.1
  have hb := hC.2.1
  have hk2 := cs_lawK hkc hk
  refine lv_aload_n hx hb d_Law_law_407 rfl (lv_at hl 1 rfl) ?_
  refine lv_aload_n hx hb d_Law_law_408 rfl (lv_at hl 0 rfl) ?_
  refine lv_iload_n hx hb d_Law_law_409 rfl (lv_at hl 3 rfl) ?_
  refine lv_iconst (v := 1) hx hb d_Law_law_410 (by decide) ?_
  refine lv_iadd hx hb d_Law_law_411 ?_
  refine va_sld hx hb hX hbl hbA hw.2.2 (i := nI i + 1) (cs_lawI (j := 1) hi5 hL (by decide)) d_Law_law_412 ?_
  refine lv_aload_n hx hb d_Law_law_413 rfl (lv_at hl 0 rfl) ?_
  refine lv_iload_n hx hb d_Law_law_414 rfl (lv_at hl 3 rfl) ?_
  refine lv_iconst (v := 2) hx hb d_Law_law_415 (by decide) ?_
  refine lv_iadd hx hb d_Law_law_416 ?_
  refine va_sld hx hb hX hbl hbA hw.2.2 (i := nI i + 2) (cs_lawI (j := 2) hi5 hL (by decide)) d_Law_law_417 ?_
  obtain ⟨hpx, hpm, heq, hrel⟩ := hR k M (xs (nI i + 1).toNatClampNeg) (xs (nI i + 2).toNatClampNeg) hk hrel
  refine cs_ret_lp hC hw (cs_runV (As := [.int (xs (nI i + 1).toNatClampNeg), .int (xs (nI i + 2).toNatClampNeg)]) (rest := []) hC hw is_0.2 (ci := 0) rfl rfl (cs_sg_is is_0) (c_X_statics l D cA ad M 0 is_0 (xs (nI i + 1).toNatClampNeg) (xs (nI i + 2).toNatClampNeg) hpx _) rfl rfl cw_Law_47 ⟨Nat.le_of_ble_eq_true rfl, Nat.le_of_ble_eq_true rfl⟩ hl.1 rfl rfl (Nat.le_of_ble_eq_true rfl) d_Law_law_418 ⟨hk2.1, hk2.2⟩) (fun u1 H locs eu1 hw => ?_)
  rw [← eu1] at heq
  refine lv_aload_n hx hb d_Law_law_421 rfl (lv_at hl 2 rfl) ?_
  refine lv_aload_n hx hb d_Law_law_422 rfl (lv_at hl 0 rfl) ?_
  refine lv_iload_n hx hb d_Law_law_423 rfl (lv_at hl 3 rfl) ?_
  refine lv_iconst (v := 1) hx hb d_Law_law_424 (by decide) ?_
  refine lv_iadd hx hb d_Law_law_425 ?_
  refine va_sld hx hb hX hbl hbA hw.2.2 (i := nI i + 1) (cs_lawI (j := 1) hi5 hL (by decide)) d_Law_law_426 ?_
  refine lv_aload_n hx hb d_Law_law_427 rfl (lv_at hl 0 rfl) ?_
  refine lv_iload_n hx hb d_Law_law_428 rfl (lv_at hl 3 rfl) ?_
  refine lv_iconst (v := 2) hx hb d_Law_law_429 (by decide) ?_
  refine lv_iadd hx hb d_Law_law_430 ?_
  refine va_sld hx hb hX hbl hbA hw.2.2 (i := nI i + 2) (cs_lawI (j := 2) hi5 hL (by decide)) d_Law_law_431 ?_
  refine cs_ret_l hC hw (cs_runV (As := [.int (xs (nI i + 1).toNatClampNeg), .int (xs (nI i + 2).toNatClampNeg)]) (rest := [.long u1]) hC hw is_62.2 (ci := 5) rfl rfl (cs_sg_is is_62) (c_Mo_statics l D cA ad M 62 is_62 (xs (nI i + 1).toNatClampNeg) (xs (nI i + 2).toNatClampNeg) hpm _) rfl rfl cw_Law_51 ⟨Nat.le_of_ble_eq_true rfl, Nat.le_of_ble_eq_true rfl⟩ hl.1 rfl rfl (Nat.le_of_ble_eq_true rfl) d_Law_law_432 ⟨hk2.1, hk2.2⟩) (fun u2 H locs eu2 hw => ?_)
  rw [← eu2] at heq hrel
  refine W.lcmp hx hb d_Law_law_435 ?_
  refine lv_if_eq (tgt := 594) hx hb d_Law_law_436 (by decide) (fun _ => ?_) (fun c9 => absurd (cs_lcmp0 heq) c9)
  exact kk u2.2 ad _ _ H locs ls hrel hw hl (cs_lawS hkc)
def cs_R_result (Rel : Nat → cs_Mem → Prop) : Prop := ∀ (k : Nat) (M : cs_Mem) (a0 : Int32), k < 512 → Rel k M → (pre_X_result M 0 a0) ∧ (pre_Mo_result M 62 a0) ∧ (f_X_result M 0 a0 = (f_Mo_result M 62 a0).1) ∧ (Rel (k + 1) ((f_Mo_result M 62 a0).2))
set_option maxHeartbeats 4000000 in
set_option maxRecDepth 100000 in
theorem law_result {p : Program} {l : Launch} {e : Env} {s : State} {m : MethodId} {args : Array Value} {below : List Frame} {meth : Method} {c : Code} {D : va_G} {cA : Nat → ClassId} {A : Nat → Prop} {Q : State → Prop} {b L : Nat} {xs : Nat → Int32} {Rel : Nat → cs_Mem → Prop} {k i : Nat} (hR : cs_R_result Rel) (hC : cs_Ctx p s m args c code 4 "ClassStarterLaw" D cA A) (hX : va_X b L xs s s.heap) (hbl : b < s.heap.size) (hbA : ¬ A b) (hi5 : i + 5 ≤ L) (hL : L ≤ 2560) (hk : k < 512) (M : cs_Mem) (ad : Nat → Nat) (kc ks : Nat) (H : Heap) (locs : List Loc) (ls : Array Slot) (hrel : Rel k M) (hw : cs_Wd D cA ad M A s H locs) (hl : lv_has ls 4 [(0, .ref b), (1, .ref (ad 0)), (2, .ref (ad 62)), (3, .int (nI i))]) (hkc : kc ≤ 100 + 1024 * k ∧ ks ≤ 20000 + 8192 * k)
    (kk : ∀ (M : cs_Mem) (ad : Nat → Nat) (kc ks : Nat) (H : Heap) (locs : List Loc) (ls : Array Slot), Rel (k + 1) M → cs_Wd D cA ad M A s H locs → lv_has ls 4 [(0, .ref b), (1, .ref (ad 0)), (2, .ref (ad 62)), (3, .int (nI i))] → (kc ≤ 100 + 1024 * (k + 1) ∧ ks ≤ 20000 + 8192 * (k + 1)) → W p l e room_1 s m args below meth c H locs kc ks Q (F0 m 594 ls [])) : W p l e room_1 s m args below meth c H locs kc ks Q (F0 m 441 ls []) := by
  have hx := hC.1
  have hb := hC.2.1
  have hk2 := cs_lawK hkc hk
  refine lv_aload_n hx hb d_Law_law_441 rfl (lv_at hl 1 rfl) ?_
  refine lv_aload_n hx hb d_Law_law_442 rfl (lv_at hl 0 rfl) ?_
  refine lv_iload_n hx hb d_Law_law_443 rfl (lv_at hl 3 rfl) ?_
  refine lv_iconst (v := 1) hx hb d_Law_law_444 (by decide) ?_
  refine lv_iadd hx hb d_Law_law_445 ?_
  refine va_sld hx hb hX hbl hbA hw.2.2 (i := nI i + 1) (cs_lawI (j := 1) hi5 hL (by decide)) d_Law_law_446 ?_
  obtain ⟨hpx, hpm, heq, hrel⟩ := hR k M (xs (nI i + 1).toNatClampNeg) hk hrel
  refine cs_ret_p hC hw (cs_runV (As := [.int (xs (nI i + 1).toNatClampNeg)]) (rest := []) hC hw is_0.2 (ci := 0) rfl rfl (cs_sg_is is_0) (c_X_result l D cA ad M 0 is_0 (xs (nI i + 1).toNatClampNeg) hpx _) rfl rfl cw_Law_52 ⟨Nat.le_of_ble_eq_true rfl, Nat.le_of_ble_eq_true rfl⟩ hl.1 rfl rfl (Nat.le_of_ble_eq_true rfl) d_Law_law_447 ⟨hk2.1, hk2.2⟩) (fun u1 H locs eu1 hw => ?_)
  rw [← eu1] at heq
  refine lv_aload_n hx hb d_Law_law_450 rfl (lv_at hl 2 rfl) ?_
  refine lv_aload_n hx hb d_Law_law_451 rfl (lv_at hl 0 rfl) ?_
  refine lv_iload_n hx hb d_Law_law_452 rfl (lv_at hl 3 rfl) ?_
  refine lv_iconst (v := 1) hx hb d_Law_law_453 (by decide) ?_
  refine lv_iadd hx hb d_Law_law_454 ?_
  refine va_sld hx hb hX hbl hbA hw.2.2 (i := nI i + 1) (cs_lawI (j := 1) hi5 hL (by decide)) d_Law_law_455 ?_
  refine cs_ret_i hC hw (cs_runV (As := [.int (xs (nI i + 1).toNatClampNeg)]) (rest := [.int u1]) hC hw is_62.2 (ci := 5) rfl rfl (cs_sg_is is_62) (c_Mo_result l D cA ad M 62 is_62 (xs (nI i + 1).toNatClampNeg) hpm _) rfl rfl cw_Law_55 ⟨Nat.le_of_ble_eq_true rfl, Nat.le_of_ble_eq_true rfl⟩ hl.1 rfl rfl (Nat.le_of_ble_eq_true rfl) d_Law_law_456 ⟨hk2.1, hk2.2⟩) (fun u2 H locs eu2 hw => ?_)
  rw [← eu2] at heq hrel
  refine lv_icmp_eq (tgt := 594) hx hb d_Law_law_459 (by decide) (fun _ => ?_) (fun c9 => absurd heq c9)
  exact kk u2.2 ad _ _ H locs ls hrel hw hl (cs_lawS hkc)
def cs_R_inside (Rel : Nat → cs_Mem → Prop) : Prop := ∀ (k : Nat) (M : cs_Mem) (a0 : Int32), k < 512 → Rel k M → (pre_X_inside M 0 a0) ∧ (pre_Mo_inside M 62 a0) ∧ (f_X_inside M 0 a0 = (f_Mo_inside M 62 a0).1) ∧ (Rel (k + 1) ((f_Mo_inside M 62 a0).2))
set_option maxHeartbeats 4000000 in
set_option maxRecDepth 100000 in
theorem law_inside {p : Program} {l : Launch} {e : Env} {s : State} {m : MethodId} {args : Array Value} {below : List Frame} {meth : Method} {c : Code} {D : va_G} {cA : Nat → ClassId} {A : Nat → Prop} {Q : State → Prop} {b L : Nat} {xs : Nat → Int32} {Rel : Nat → cs_Mem → Prop} {k i : Nat} (hR : cs_R_inside Rel) (hC : cs_Ctx p s m args c code 4 "ClassStarterLaw" D cA A) (hX : va_X b L xs s s.heap) (hbl : b < s.heap.size) (hbA : ¬ A b) (hi5 : i + 5 ≤ L) (hL : L ≤ 2560) (hk : k < 512) (M : cs_Mem) (ad : Nat → Nat) (kc ks : Nat) (H : Heap) (locs : List Loc) (ls : Array Slot) (hrel : Rel k M) (hw : cs_Wd D cA ad M A s H locs) (hl : lv_has ls 4 [(0, .ref b), (1, .ref (ad 0)), (2, .ref (ad 62)), (3, .int (nI i))]) (hkc : kc ≤ 100 + 1024 * k ∧ ks ≤ 20000 + 8192 * k)
    (kk : ∀ (M : cs_Mem) (ad : Nat → Nat) (kc ks : Nat) (H : Heap) (locs : List Loc) (ls : Array Slot), Rel (k + 1) M → cs_Wd D cA ad M A s H locs → lv_has ls 4 [(0, .ref b), (1, .ref (ad 0)), (2, .ref (ad 62)), (3, .int (nI i))] → (kc ≤ 100 + 1024 * (k + 1) ∧ ks ≤ 20000 + 8192 * (k + 1)) → W p l e room_1 s m args below meth c H locs kc ks Q (F0 m 594 ls [])) : W p l e room_1 s m args below meth c H locs kc ks Q (F0 m 464 ls []) := by
  have hx := hC.1
  have hb := hC.2.1
  have hk2 := cs_lawK hkc hk
  refine lv_aload_n hx hb d_Law_law_464 rfl (lv_at hl 1 rfl) ?_
  refine lv_aload_n hx hb d_Law_law_465 rfl (lv_at hl 0 rfl) ?_
  refine lv_iload_n hx hb d_Law_law_466 rfl (lv_at hl 3 rfl) ?_
  refine lv_iconst (v := 1) hx hb d_Law_law_467 (by decide) ?_
  refine lv_iadd hx hb d_Law_law_468 ?_
  refine va_sld hx hb hX hbl hbA hw.2.2 (i := nI i + 1) (cs_lawI (j := 1) hi5 hL (by decide)) d_Law_law_469 ?_
  obtain ⟨hpx, hpm, heq, hrel⟩ := hR k M (xs (nI i + 1).toNatClampNeg) hk hrel
  refine cs_ret_p hC hw (cs_runV (As := [.int (xs (nI i + 1).toNatClampNeg)]) (rest := []) hC hw is_0.2 (ci := 0) rfl rfl (cs_sg_is is_0) (c_X_inside l D cA ad M 0 is_0 (xs (nI i + 1).toNatClampNeg) hpx _) rfl rfl cw_Law_56 ⟨Nat.le_of_ble_eq_true rfl, Nat.le_of_ble_eq_true rfl⟩ hl.1 rfl rfl (Nat.le_of_ble_eq_true rfl) d_Law_law_470 ⟨hk2.1, hk2.2⟩) (fun u1 H locs eu1 hw => ?_)
  rw [← eu1] at heq
  refine lv_aload_n hx hb d_Law_law_473 rfl (lv_at hl 2 rfl) ?_
  refine lv_aload_n hx hb d_Law_law_474 rfl (lv_at hl 0 rfl) ?_
  refine lv_iload_n hx hb d_Law_law_475 rfl (lv_at hl 3 rfl) ?_
  refine lv_iconst (v := 1) hx hb d_Law_law_476 (by decide) ?_
  refine lv_iadd hx hb d_Law_law_477 ?_
  refine va_sld hx hb hX hbl hbA hw.2.2 (i := nI i + 1) (cs_lawI (j := 1) hi5 hL (by decide)) d_Law_law_478 ?_
  refine cs_ret_i hC hw (cs_runV (As := [.int (xs (nI i + 1).toNatClampNeg)]) (rest := [.int u1]) hC hw is_62.2 (ci := 5) rfl rfl (cs_sg_is is_62) (c_Mo_inside l D cA ad M 62 is_62 (xs (nI i + 1).toNatClampNeg) hpm _) rfl rfl cw_Law_59 ⟨Nat.le_of_ble_eq_true rfl, Nat.le_of_ble_eq_true rfl⟩ hl.1 rfl rfl (Nat.le_of_ble_eq_true rfl) d_Law_law_479 ⟨hk2.1, hk2.2⟩) (fun u2 H locs eu2 hw => ?_)
  rw [← eu2] at heq hrel
  refine lv_icmp_eq (tgt := 594) hx hb d_Law_law_482 (by decide) (fun _ => ?_) (fun c9 => absurd heq c9)
  exact kk u2.2 ad _ _ H locs ls hrel hw hl (cs_lawS hkc)
def cs_R_waitsFor (Rel : Nat → cs_Mem → Prop) : Prop := ∀ (k : Nat) (M : cs_Mem) (a0 : Int32), k < 512 → Rel k M → (pre_X_waitsFor M 0 a0) ∧ (pre_Mo_waitsFor M 62 a0) ∧ (f_X_waitsFor M 0 a0 = (f_Mo_waitsFor M 62 a0).1) ∧ (Rel (k + 1) ((f_Mo_waitsFor M 62 a0).2))
set_option maxHeartbeats 4000000 in
set_option maxRecDepth 100000 in
theorem law_waitsFor {p : Program} {l : Launch} {e : Env} {s : State} {m : MethodId} {args : Array Value} {below : List Frame} {meth : Method} {c : Code} {D : va_G} {cA : Nat → ClassId} {A : Nat → Prop} {Q : State → Prop} {b L : Nat} {xs : Nat → Int32} {Rel : Nat → cs_Mem → Prop} {k i : Nat} (hR : cs_R_waitsFor Rel) (hC : cs_Ctx p s m args c code 4 "ClassStarterLaw" D cA A) (hX : va_X b L xs s s.heap) (hbl : b < s.heap.size) (hbA : ¬ A b) (hi5 : i + 5 ≤ L) (hL : L ≤ 2560) (hk : k < 512) (M : cs_Mem) (ad : Nat → Nat) (kc ks : Nat) (H : Heap) (locs : List Loc) (ls : Array Slot) (hrel : Rel k M) (hw : cs_Wd D cA ad M A s H locs) (hl : lv_has ls 4 [(0, .ref b), (1, .ref (ad 0)), (2, .ref (ad 62)), (3, .int (nI i))]) (hkc : kc ≤ 100 + 1024 * k ∧ ks ≤ 20000 + 8192 * k)
    (kk : ∀ (M : cs_Mem) (ad : Nat → Nat) (kc ks : Nat) (H : Heap) (locs : List Loc) (ls : Array Slot), Rel (k + 1) M → cs_Wd D cA ad M A s H locs → lv_has ls 4 [(0, .ref b), (1, .ref (ad 0)), (2, .ref (ad 62)), (3, .int (nI i))] → (kc ≤ 100 + 1024 * (k + 1) ∧ ks ≤ 20000 + 8192 * (k + 1)) → W p l e room_1 s m args below meth c H locs kc ks Q (F0 m 594 ls [])) : W p l e room_1 s m args below meth c H locs kc ks Q (F0 m 487 ls []) := by
  have hx := hC.1
  have hb := hC.2.1
  have hk2 := cs_lawK hkc hk
  refine lv_aload_n hx hb d_Law_law_487 rfl (lv_at hl 1 rfl) ?_
  refine lv_aload_n hx hb d_Law_law_488 rfl (lv_at hl 0 rfl) ?_
  refine lv_iload_n hx hb d_Law_law_489 rfl (lv_at hl 3 rfl) ?_
  refine lv_iconst (v := 1) hx hb d_Law_law_490 (by decide) ?_
  refine lv_iadd hx hb d_Law_law_491 ?_
  refine va_sld hx hb hX hbl hbA hw.2.2 (i := nI i + 1) (cs_lawI (j := 1) hi5 hL (by decide)) d_Law_law_492 ?_
  obtain ⟨hpx, hpm, heq, hrel⟩ := hR k M (xs (nI i + 1).toNatClampNeg) hk hrel
  refine cs_ret_p hC hw (cs_runV (As := [.int (xs (nI i + 1).toNatClampNeg)]) (rest := []) hC hw is_0.2 (ci := 0) rfl rfl (cs_sg_is is_0) (c_X_waitsFor l D cA ad M 0 is_0 (xs (nI i + 1).toNatClampNeg) hpx _) rfl rfl cw_Law_60 ⟨Nat.le_of_ble_eq_true rfl, Nat.le_of_ble_eq_true rfl⟩ hl.1 rfl rfl (Nat.le_of_ble_eq_true rfl) d_Law_law_493 ⟨hk2.1, hk2.2⟩) (fun u1 H locs eu1 hw => ?_)
  rw [← eu1] at heq
  refine lv_aload_n hx hb d_Law_law_496 rfl (lv_at hl 2 rfl) ?_
  refine lv_aload_n hx hb d_Law_law_497 rfl (lv_at hl 0 rfl) ?_
  refine lv_iload_n hx hb d_Law_law_498 rfl (lv_at hl 3 rfl) ?_
  refine lv_iconst (v := 1) hx hb d_Law_law_499 (by decide) ?_
  refine lv_iadd hx hb d_Law_law_500 ?_
  refine va_sld hx hb hX hbl hbA hw.2.2 (i := nI i + 1) (cs_lawI (j := 1) hi5 hL (by decide)) d_Law_law_501 ?_
  refine cs_ret_i hC hw (cs_runV (As := [.int (xs (nI i + 1).toNatClampNeg)]) (rest := [.int u1]) hC hw is_62.2 (ci := 5) rfl rfl (cs_sg_is is_62) (c_Mo_waitsFor l D cA ad M 62 is_62 (xs (nI i + 1).toNatClampNeg) hpm _) rfl rfl cw_Law_63 ⟨Nat.le_of_ble_eq_true rfl, Nat.le_of_ble_eq_true rfl⟩ hl.1 rfl rfl (Nat.le_of_ble_eq_true rfl) d_Law_law_502 ⟨hk2.1, hk2.2⟩) (fun u2 H locs eu2 hw => ?_)
  rw [← eu2] at heq hrel
  refine lv_icmp_eq (tgt := 594) hx hb d_Law_law_505 (by decide) (fun _ => ?_) (fun c9 => absurd heq c9)
  exact kk u2.2 ad _ _ H locs ls hrel hw hl (cs_lawS hkc)
def cs_R_logged (Rel : Nat → cs_Mem → Prop) : Prop := ∀ (k : Nat) (M : cs_Mem) (a0 : Int32), k < 512 → Rel k M → (pre_X_logged M 0 a0) ∧ (pre_Mo_logged M 62 a0) ∧ (f_X_logged M 0 a0 = (f_Mo_logged M 62 a0).1) ∧ (Rel (k + 1) ((f_Mo_logged M 62 a0).2))
set_option maxHeartbeats 4000000 in
set_option maxRecDepth 100000 in
theorem law_logged {p : Program} {l : Launch} {e : Env} {s : State} {m : MethodId} {args : Array Value} {below : List Frame} {meth : Method} {c : Code} {D : va_G} {cA : Nat → ClassId} {A : Nat → Prop} {Q : State → Prop} {b L : Nat} {xs : Nat → Int32} {Rel : Nat → cs_Mem → Prop} {k i : Nat} (hR : cs_R_logged Rel) (hC : cs_Ctx p s m args c code 4 "ClassStarterLaw" D cA A) (hX : va_X b L xs s s.heap) (hbl : b < s.heap.size) (hbA : ¬ A b) (hi5 : i + 5 ≤ L) (hL : L ≤ 2560) (hk : k < 512) (M : cs_Mem) (ad : Nat → Nat) (kc ks : Nat) (H : Heap) (locs : List Loc) (ls : Array Slot) (hrel : Rel k M) (hw : cs_Wd D cA ad M A s H locs) (hl : lv_has ls 4 [(0, .ref b), (1, .ref (ad 0)), (2, .ref (ad 62)), (3, .int (nI i))]) (hkc : kc ≤ 100 + 1024 * k ∧ ks ≤ 20000 + 8192 * k)
    (kk : ∀ (M : cs_Mem) (ad : Nat → Nat) (kc ks : Nat) (H : Heap) (locs : List Loc) (ls : Array Slot), Rel (k + 1) M → cs_Wd D cA ad M A s H locs → lv_has ls 4 [(0, .ref b), (1, .ref (ad 0)), (2, .ref (ad 62)), (3, .int (nI i))] → (kc ≤ 100 + 1024 * (k + 1) ∧ ks ≤ 20000 + 8192 * (k + 1)) → W p l e room_1 s m args below meth c H locs kc ks Q (F0 m 594 ls [])) : W p l e room_1 s m args below meth c H locs kc ks Q (F0 m 510 ls []) := by
  have hx := hC.1
  have hb := hC.2.1
  have hk2 := cs_lawK hkc hk
  refine lv_aload_n hx hb d_Law_law_510 rfl (lv_at hl 1 rfl) ?_
  refine lv_aload_n hx hb d_Law_law_511 rfl (lv_at hl 0 rfl) ?_
  refine lv_iload_n hx hb d_Law_law_512 rfl (lv_at hl 3 rfl) ?_
  refine lv_iconst (v := 1) hx hb d_Law_law_513 (by decide) ?_
  refine lv_iadd hx hb d_Law_law_514 ?_
  refine va_sld hx hb hX hbl hbA hw.2.2 (i := nI i + 1) (cs_lawI (j := 1) hi5 hL (by decide)) d_Law_law_515 ?_
  obtain ⟨hpx, hpm, heq, hrel⟩ := hR k M (xs (nI i + 1).toNatClampNeg) hk hrel
  refine cs_ret_lp hC hw (cs_runV (As := [.int (xs (nI i + 1).toNatClampNeg)]) (rest := []) hC hw is_0.2 (ci := 0) rfl rfl (cs_sg_is is_0) (c_X_logged l D cA ad M 0 is_0 (xs (nI i + 1).toNatClampNeg) hpx _) rfl rfl cw_Law_64 ⟨Nat.le_of_ble_eq_true rfl, Nat.le_of_ble_eq_true rfl⟩ hl.1 rfl rfl (Nat.le_of_ble_eq_true rfl) d_Law_law_516 ⟨hk2.1, hk2.2⟩) (fun u1 H locs eu1 hw => ?_)
  rw [← eu1] at heq
  refine lv_aload_n hx hb d_Law_law_519 rfl (lv_at hl 2 rfl) ?_
  refine lv_aload_n hx hb d_Law_law_520 rfl (lv_at hl 0 rfl) ?_
  refine lv_iload_n hx hb d_Law_law_521 rfl (lv_at hl 3 rfl) ?_
  refine lv_iconst (v := 1) hx hb d_Law_law_522 (by decide) ?_
  refine lv_iadd hx hb d_Law_law_523 ?_
  refine va_sld hx hb hX hbl hbA hw.2.2 (i := nI i + 1) (cs_lawI (j := 1) hi5 hL (by decide)) d_Law_law_524 ?_
  refine cs_ret_l hC hw (cs_runV (As := [.int (xs (nI i + 1).toNatClampNeg)]) (rest := [.long u1]) hC hw is_62.2 (ci := 5) rfl rfl (cs_sg_is is_62) (c_Mo_logged l D cA ad M 62 is_62 (xs (nI i + 1).toNatClampNeg) hpm _) rfl rfl cw_Law_68 ⟨Nat.le_of_ble_eq_true rfl, Nat.le_of_ble_eq_true rfl⟩ hl.1 rfl rfl (Nat.le_of_ble_eq_true rfl) d_Law_law_525 ⟨hk2.1, hk2.2⟩) (fun u2 H locs eu2 hw => ?_)
  rw [← eu2] at heq hrel
  refine W.lcmp hx hb d_Law_law_528 ?_
  refine lv_if_eq (tgt := 594) hx hb d_Law_law_529 (by decide) (fun _ => ?_) (fun c9 => absurd (cs_lcmp0 heq) c9)
  exact kk u2.2 ad _ _ H locs ls hrel hw hl (cs_lawS hkc)
def cs_R_explore (Rel : Nat → cs_Mem → Prop) : Prop := ∀ (k : Nat) (M : cs_Mem), k < 512 → Rel k M → (cs_ln M 61 ≤ 4096) ∧ (pre_X_explore M) ∧ (pre_Mo_explore (f_X_explore M).2 62 ) ∧ ((f_X_explore M).1 = (f_Mo_explore (f_X_explore M).2 62 ).1) ∧ (Rel (k + 1) ((f_Mo_explore (f_X_explore M).2 62 ).2))
set_option maxHeartbeats 4000000 in
set_option maxRecDepth 100000 in
theorem law_explore {p : Program} {l : Launch} {e : Env} {s : State} {m : MethodId} {args : Array Value} {below : List Frame} {meth : Method} {c : Code} {D : va_G} {cA : Nat → ClassId} {A : Nat → Prop} {Q : State → Prop} {b L : Nat} {xs : Nat → Int32} {Rel : Nat → cs_Mem → Prop} {k i : Nat} (hR : cs_R_explore Rel) (hC : cs_Ctx p s m args c code 4 "ClassStarterLaw" D cA A) (hX : va_X b L xs s s.heap) (hbl : b < s.heap.size) (hbA : ¬ A b) (hi5 : i + 5 ≤ L) (hL : L ≤ 2560) (hk : k < 512) (M : cs_Mem) (ad : Nat → Nat) (kc ks : Nat) (H : Heap) (locs : List Loc) (ls : Array Slot) (hrel : Rel k M) (hw : cs_Wd D cA ad M A s H locs) (hl : lv_has ls 4 [(0, .ref b), (1, .ref (ad 0)), (2, .ref (ad 62)), (3, .int (nI i))]) (hkc : kc ≤ 100 + 1024 * k ∧ ks ≤ 20000 + 8192 * k)
    (kk : ∀ (M : cs_Mem) (ad : Nat → Nat) (kc ks : Nat) (H : Heap) (locs : List Loc) (ls : Array Slot), Rel (k + 1) M → cs_Wd D cA ad M A s H locs → lv_has ls 4 [(0, .ref b), (1, .ref (ad 0)), (2, .ref (ad 62)), (3, .int (nI i))] → (kc ≤ 100 + 1024 * (k + 1) ∧ ks ≤ 20000 + 8192 * (k + 1)) → W p l e room_1 s m args below meth c H locs kc ks Q (F0 m 594 ls [])) : W p l e room_1 s m args below meth c H locs kc ks Q (F0 m 534 ls []) := by
  have hx := hC.1
  have hb := hC.2.1
  have hk2 := cs_lawK hkc hk
  refine lv_aload_n hx hb d_Law_law_534 rfl (lv_at hl 1 rfl) ?_
  obtain ⟨h96, hpx, hpm, heq, hrel⟩ := hR k M  hk hrel
  refine cs_ret_iG hC hw (cs_runV (As := []) (rest := []) hC hw is_0.2 (ci := 0) rfl rfl (cs_sg_is is_0) (c_X_explore l D cA ad M  hpx h96 _) (cs_rmc _ _ _ _) (cs_rms _ _ _ _) cw_Law_69 ⟨Nat.le_of_ble_eq_true rfl, Nat.le_of_ble_eq_true rfl⟩ hl.1 rfl rfl (Nat.le_of_ble_eq_true rfl) d_Law_law_535 (cs_lawG hkc hk)) (fun ad u1 H locs eu1 hab hw => ?_)
  have hl : lv_has ls 4 [(0, .ref b), (1, .ref (ad 0)), (2, .ref (ad 62)), (3, .int (nI i))] := by rw [hab 0 (by decide), hab 62 (by decide)]; exact hl
  have hkc := cs_lawH hkc
  have hk2 := cs_lawK2 hkc hk
  rw [← eu1] at hpm heq hrel
  refine lv_aload_n hx hb d_Law_law_538 rfl (lv_at hl 2 rfl) ?_
  refine cs_ret_i hC hw (cs_runV (As := []) (rest := [.int (u1.1)]) hC hw is_62.2 (ci := 5) rfl rfl (cs_sg_is is_62) (c_Mo_explore l D cA ad u1.2 62 is_62  hpm _) rfl rfl cw_Law_72 ⟨Nat.le_of_ble_eq_true rfl, Nat.le_of_ble_eq_true rfl⟩ hl.1 rfl rfl (Nat.le_of_ble_eq_true rfl) d_Law_law_539 ⟨hk2.1, hk2.2⟩) (fun u2 H locs eu2 hw => ?_)
  rw [← eu2] at heq hrel
  refine lv_icmp_eq (tgt := 594) hx hb d_Law_law_542 (by decide) (fun _ => ?_) (fun c9 => absurd heq c9)
  exact kk u2.2 ad _ _ H locs ls hrel hw hl (cs_lawSG hkc)
def cs_R_outcome (Rel : Nat → cs_Mem → Prop) : Prop := ∀ (k : Nat) (M : cs_Mem) (a0 : Int32), k < 512 → Rel k M → (pre_X_outcome M 0 a0) ∧ (pre_Mo_outcome M 62 a0) ∧ (f_X_outcome M 0 a0 = (f_Mo_outcome M 62 a0)) ∧ (Rel (k + 1) M)
set_option maxHeartbeats 4000000 in
set_option maxRecDepth 100000 in
theorem law_outcome {p : Program} {l : Launch} {e : Env} {s : State} {m : MethodId} {args : Array Value} {below : List Frame} {meth : Method} {c : Code} {D : va_G} {cA : Nat → ClassId} {A : Nat → Prop} {Q : State → Prop} {b L : Nat} {xs : Nat → Int32} {Rel : Nat → cs_Mem → Prop} {k i : Nat} (hR : cs_R_outcome Rel) (hC : cs_Ctx p s m args c code 4 "ClassStarterLaw" D cA A) (hX : va_X b L xs s s.heap) (hbl : b < s.heap.size) (hbA : ¬ A b) (hi5 : i + 5 ≤ L) (hL : L ≤ 2560) (hk : k < 512) (M : cs_Mem) (ad : Nat → Nat) (kc ks : Nat) (H : Heap) (locs : List Loc) (ls : Array Slot) (hrel : Rel k M) (hw : cs_Wd D cA ad M A s H locs) (hl : lv_has ls 4 [(0, .ref b), (1, .ref (ad 0)), (2, .ref (ad 62)), (3, .int (nI i))]) (hkc : kc ≤ 100 + 1024 * k ∧ ks ≤ 20000 + 8192 * k)
    (kk : ∀ (M : cs_Mem) (ad : Nat → Nat) (kc ks : Nat) (H : Heap) (locs : List Loc) (ls : Array Slot), Rel (k + 1) M → cs_Wd D cA ad M A s H locs → lv_has ls 4 [(0, .ref b), (1, .ref (ad 0)), (2, .ref (ad 62)), (3, .int (nI i))] → (kc ≤ 100 + 1024 * (k + 1) ∧ ks ≤ 20000 + 8192 * (k + 1)) → W p l e room_1 s m args below meth c H locs kc ks Q (F0 m 594 ls [])) : W p l e room_1 s m args below meth c H locs kc ks Q (F0 m 547 ls []) := by
  have hx := hC.1
  have hb := hC.2.1
  have hk2 := cs_lawK hkc hk
  refine lv_aload_n hx hb d_Law_law_547 rfl (lv_at hl 1 rfl) ?_
  refine lv_aload_n hx hb d_Law_law_548 rfl (lv_at hl 0 rfl) ?_
  refine lv_iload_n hx hb d_Law_law_549 rfl (lv_at hl 3 rfl) ?_
  refine lv_iconst (v := 1) hx hb d_Law_law_550 (by decide) ?_
  refine lv_iadd hx hb d_Law_law_551 ?_
  refine va_sld hx hb hX hbl hbA hw.2.2 (i := nI i + 1) (cs_lawI (j := 1) hi5 hL (by decide)) d_Law_law_552 ?_
  obtain ⟨hpx, hpm, heq, hrel⟩ := hR k M (xs (nI i + 1).toNatClampNeg) hk hrel
  refine cs_ret_lp hC hw (cs_runV (As := [.int (xs (nI i + 1).toNatClampNeg)]) (rest := []) hC hw is_0.2 (ci := 0) rfl rfl (cs_sg_is is_0) (c_X_outcome l D cA ad M 0 is_0 (xs (nI i + 1).toNatClampNeg) hpx _) rfl rfl cw_Law_73 ⟨Nat.le_of_ble_eq_true rfl, Nat.le_of_ble_eq_true rfl⟩ hl.1 rfl rfl (Nat.le_of_ble_eq_true rfl) d_Law_law_553 ⟨hk2.1, hk2.2⟩) (fun u1 H locs eu1 hw => ?_)
  rw [← eu1] at heq
  refine lv_aload_n hx hb d_Law_law_556 rfl (lv_at hl 2 rfl) ?_
  refine lv_aload_n hx hb d_Law_law_557 rfl (lv_at hl 0 rfl) ?_
  refine lv_iload_n hx hb d_Law_law_558 rfl (lv_at hl 3 rfl) ?_
  refine lv_iconst (v := 1) hx hb d_Law_law_559 (by decide) ?_
  refine lv_iadd hx hb d_Law_law_560 ?_
  refine va_sld hx hb hX hbl hbA hw.2.2 (i := nI i + 1) (cs_lawI (j := 1) hi5 hL (by decide)) d_Law_law_561 ?_
  refine cs_ret_lp hC hw (cs_runV (As := [.int (xs (nI i + 1).toNatClampNeg)]) (rest := [.long u1]) hC hw is_62.2 (ci := 5) rfl rfl (cs_sg_is is_62) (c_Mo_outcome l D cA ad M 62 is_62 (xs (nI i + 1).toNatClampNeg) hpm _) rfl rfl cw_Law_76 ⟨Nat.le_of_ble_eq_true rfl, Nat.le_of_ble_eq_true rfl⟩ hl.1 rfl rfl (Nat.le_of_ble_eq_true rfl) d_Law_law_562 ⟨hk2.1, hk2.2⟩) (fun u2 H locs eu2 hw => ?_)
  rw [← eu2] at heq
  refine W.lcmp hx hb d_Law_law_565 ?_
  refine lv_if_eq (tgt := 594) hx hb d_Law_law_566 (by decide) (fun _ => ?_) (fun c9 => absurd (cs_lcmp0 heq) c9)
  exact kk M ad _ _ H locs ls hrel hw hl (cs_lawS hkc)
def cs_R_count (Rel : Nat → cs_Mem → Prop) : Prop := ∀ (k : Nat) (M : cs_Mem) (a0 : Int32), k < 512 → Rel k M → (pre_X_count M 0 a0) ∧ (pre_Mo_count M 62 a0) ∧ (f_X_count M 0 a0 = (f_Mo_count M 62 a0).1) ∧ (Rel (k + 1) ((f_Mo_count M 62 a0).2))
set_option maxHeartbeats 4000000 in
set_option maxRecDepth 100000 in
theorem law_count {p : Program} {l : Launch} {e : Env} {s : State} {m : MethodId} {args : Array Value} {below : List Frame} {meth : Method} {c : Code} {D : va_G} {cA : Nat → ClassId} {A : Nat → Prop} {Q : State → Prop} {b L : Nat} {xs : Nat → Int32} {Rel : Nat → cs_Mem → Prop} {k i : Nat} (hR : cs_R_count Rel) (hC : cs_Ctx p s m args c code 4 "ClassStarterLaw" D cA A) (hX : va_X b L xs s s.heap) (hbl : b < s.heap.size) (hbA : ¬ A b) (hi5 : i + 5 ≤ L) (hL : L ≤ 2560) (hk : k < 512) (M : cs_Mem) (ad : Nat → Nat) (kc ks : Nat) (H : Heap) (locs : List Loc) (ls : Array Slot) (hrel : Rel k M) (hw : cs_Wd D cA ad M A s H locs) (hl : lv_has ls 4 [(0, .ref b), (1, .ref (ad 0)), (2, .ref (ad 62)), (3, .int (nI i))]) (hkc : kc ≤ 100 + 1024 * k ∧ ks ≤ 20000 + 8192 * k)
    (kk : ∀ (M : cs_Mem) (ad : Nat → Nat) (kc ks : Nat) (H : Heap) (locs : List Loc) (ls : Array Slot), Rel (k + 1) M → cs_Wd D cA ad M A s H locs → lv_has ls 4 [(0, .ref b), (1, .ref (ad 0)), (2, .ref (ad 62)), (3, .int (nI i))] → (kc ≤ 100 + 1024 * (k + 1) ∧ ks ≤ 20000 + 8192 * (k + 1)) → W p l e room_1 s m args below meth c H locs kc ks Q (F0 m 594 ls [])) : W p l e room_1 s m args below meth c H locs kc ks Q (F0 m 571 ls []) := by
  have hx := hC.1
  have hb := hC.2.1
  have hk2 := cs_lawK hkc hk
  refine lv_aload_n hx hb d_Law_law_571 rfl (lv_at hl 1 rfl) ?_
  refine lv_aload_n hx hb d_Law_law_572 rfl (lv_at hl 0 rfl) ?_
  refine lv_iload_n hx hb d_Law_law_573 rfl (lv_at hl 3 rfl) ?_
  refine lv_iconst (v := 1) hx hb d_Law_law_574 (by decide) ?_
  refine lv_iadd hx hb d_Law_law_575 ?_
  refine va_sld hx hb hX hbl hbA hw.2.2 (i := nI i + 1) (cs_lawI (j := 1) hi5 hL (by decide)) d_Law_law_576 ?_
  obtain ⟨hpx, hpm, heq, hrel⟩ := hR k M (xs (nI i + 1).toNatClampNeg) hk hrel
  refine cs_ret_p hC hw (cs_runV (As := [.int (xs (nI i + 1).toNatClampNeg)]) (rest := []) hC hw is_0.2 (ci := 0) rfl rfl (cs_sg_is is_0) (c_X_count l D cA ad M 0 is_0 (xs (nI i + 1).toNatClampNeg) hpx _) rfl rfl cw_Law_77 ⟨Nat.le_of_ble_eq_true rfl, Nat.le_of_ble_eq_true rfl⟩ hl.1 rfl rfl (Nat.le_of_ble_eq_true rfl) d_Law_law_577 ⟨hk2.1, hk2.2⟩) (fun u1 H locs eu1 hw => ?_)
  rw [← eu1] at heq
  refine lv_aload_n hx hb d_Law_law_580 rfl (lv_at hl 2 rfl) ?_
  refine lv_aload_n hx hb d_Law_law_581 rfl (lv_at hl 0 rfl) ?_
  refine lv_iload_n hx hb d_Law_law_582 rfl (lv_at hl 3 rfl) ?_
  refine lv_iconst (v := 1) hx hb d_Law_law_583 (by decide) ?_
  refine lv_iadd hx hb d_Law_law_584 ?_
  refine va_sld hx hb hX hbl hbA hw.2.2 (i := nI i + 1) (cs_lawI (j := 1) hi5 hL (by decide)) d_Law_law_585 ?_
  refine cs_ret_i hC hw (cs_runV (As := [.int (xs (nI i + 1).toNatClampNeg)]) (rest := [.int u1]) hC hw is_62.2 (ci := 5) rfl rfl (cs_sg_is is_62) (c_Mo_count l D cA ad M 62 is_62 (xs (nI i + 1).toNatClampNeg) hpm _) rfl rfl cw_Law_80 ⟨Nat.le_of_ble_eq_true rfl, Nat.le_of_ble_eq_true rfl⟩ hl.1 rfl rfl (Nat.le_of_ble_eq_true rfl) d_Law_law_586 ⟨hk2.1, hk2.2⟩) (fun u2 H locs eu2 hw => ?_)
  rw [← eu2] at heq hrel
  refine lv_icmp_eq (tgt := 594) hx hb d_Law_law_589 (by decide) (fun _ => ?_) (fun c9 => absurd heq c9)
  exact kk u2.2 ad _ _ H locs ls hrel hw hl (cs_lawS hkc)
