/-! the law: rows for its cases -/
set_option maxRecDepth 20000 in
theorem cs_lawK {k kc ks : Nat} (h : kc ≤ 100 + 1024 * k ∧ ks ≤ 20000 + 8192 * k) (hk : k < 512) : kc + 0 ≤ room_1.cells ∧ ks + 0 ≤ room_1.slots := by
  show kc + 0 ≤ 600000 ∧ ks + 0 ≤ 7302250
  omega
set_option maxRecDepth 20000 in
theorem cs_lawG {k kc ks : Nat} (h : kc ≤ 100 + 1024 * k ∧ ks ≤ 20000 + 8192 * k) (hk : k < 512) : kc + 1024 ≤ room_1.cells ∧ ks + 8192 ≤ room_1.slots := by
  show kc + 1024 ≤ 600000 ∧ ks + 8192 ≤ 7302250
  omega
theorem cs_lawH {k kc ks : Nat} (h : kc ≤ 100 + 1024 * k ∧ ks ≤ 20000 + 8192 * k) : kc + 1024 ≤ 100 + 1024 * (k + 1) ∧ ks + 8192 ≤ 20000 + 8192 * (k + 1) := by omega
set_option maxRecDepth 20000 in
theorem cs_lawK2 {k kc ks : Nat} (h : kc ≤ 100 + 1024 * (k + 1) ∧ ks ≤ 20000 + 8192 * (k + 1)) (hk : k < 512) : kc + 0 ≤ room_1.cells ∧ ks + 0 ≤ room_1.slots := by
  show kc + 0 ≤ 600000 ∧ ks + 0 ≤ 7302250
  omega
theorem cs_lawS {k kc ks : Nat} (h : kc ≤ 100 + 1024 * k ∧ ks ≤ 20000 + 8192 * k) : kc ≤ 100 + 1024 * (k + 1) ∧ ks ≤ 20000 + 8192 * (k + 1) := by omega
theorem cs_lawSG {k kc ks : Nat} (h : kc ≤ 100 + 1024 * (k + 1) ∧ ks ≤ 20000 + 8192 * (k + 1)) : kc ≤ 100 + 1024 * (k + 1) ∧ ks ≤ 20000 + 8192 * (k + 1) := h
theorem cs_lawI {i L j : Nat} (h : i + 5 ≤ L) (hL : L ≤ 2560) (hj : j < 5) : vp_in (nI i + nI j) L := by
  rw [nI_add]
  exact vp_in_nI (by omega) (by omega)
theorem cs_lcmp0 {x y : Int64} (h : x = y) : lg_cmp x y = 0 := by
  subst h
  have h1 : ¬ x < x := fun h => Int64.lt_irrefl h
  simp [lg_cmp, h1]
theorem cw_Law_13 : cs_CwV "ClassStarterLaw" 13 "ClassStarter" ⟨"ClassStarter", "declare", "(IZZI)I"⟩ prog_1_method_2_code 5 (some .int) 4 := ⟨wd_187, wd_188, wd_189, wd_43, wd_190, by decide +kernel⟩
theorem cw_Law_17 : cs_CwV "ClassStarterLaw" 17 "ClassStarterModel" ⟨"ClassStarterModel", "declare", "(IZZI)I"⟩ prog_8_method_3_code 5 (some .int) 4 := ⟨wd_646, wd_647, wd_648, wd_49, wd_649, by decide +kernel⟩
theorem cw_Law_18 : cs_CwV "ClassStarterLaw" 18 "ClassStarter" ⟨"ClassStarter", "inherit", "(IIZ)I"⟩ prog_1_method_3_code 4 (some .int) 3 := ⟨wd_222, wd_223, wd_224, wd_43, wd_225, by decide +kernel⟩
theorem cw_Law_22 : cs_CwV "ClassStarterLaw" 22 "ClassStarterModel" ⟨"ClassStarterModel", "inherit", "(IIZ)I"⟩ prog_8_method_4_code 6 (some .int) 3 := ⟨wd_650, wd_651, wd_652, wd_49, wd_653, by decide +kernel⟩
theorem cw_Law_23 : cs_CwV "ClassStarterLaw" 23 "ClassStarter" ⟨"ClassStarter", "act", "(IIII)I"⟩ prog_1_method_4_code 5 (some .int) 4 := ⟨wd_234, wd_235, wd_236, wd_43, wd_237, by decide +kernel⟩
theorem cw_Law_27 : cs_CwV "ClassStarterLaw" 27 "ClassStarterModel" ⟨"ClassStarterModel", "act", "(IIII)I"⟩ prog_8_method_6_code 6 (some .int) 4 := ⟨wd_657, wd_658, wd_659, wd_49, wd_660, by decide +kernel⟩
theorem cw_Law_28 : cs_CwV "ClassStarterLaw" 28 "ClassStarter" ⟨"ClassStarter", "plan", "(III)I"⟩ prog_1_method_5_code 4 (some .int) 3 := ⟨wd_252, wd_253, wd_254, wd_43, wd_255, by decide +kernel⟩
theorem cw_Law_32 : cs_CwV "ClassStarterLaw" 32 "ClassStarterModel" ⟨"ClassStarterModel", "plan", "(III)I"⟩ prog_8_method_7_code 5 (some .int) 3 := ⟨wd_664, wd_665, wd_666, wd_49, wd_667, by decide +kernel⟩
theorem cw_Law_33 : cs_CwV "ClassStarterLaw" 33 "ClassStarter" ⟨"ClassStarter", "step", "(I)I"⟩ prog_1_method_6_code 2 (some .int) 1 := ⟨wd_263, wd_264, wd_265, wd_43, wd_266, by decide +kernel⟩
theorem cw_Law_37 : cs_CwV "ClassStarterLaw" 37 "ClassStarterModel" ⟨"ClassStarterModel", "step", "(I)I"⟩ prog_8_method_30_code 2 (some .int) 1 := ⟨wd_668, wd_669, wd_670, wd_49, wd_671, by decide +kernel⟩
theorem cw_Law_38 : cs_CwV "ClassStarterLaw" 38 "ClassStarter" ⟨"ClassStarter", "reset", "()I"⟩ prog_1_method_7_code 2 (some .int) 0 := ⟨wd_381, wd_382, wd_383, wd_43, wd_384, by decide +kernel⟩
theorem cw_Law_42 : cs_CwV "ClassStarterLaw" 42 "ClassStarterModel" ⟨"ClassStarterModel", "reset", "()I"⟩ prog_8_method_31_code 2 (some .int) 0 := ⟨wd_750, wd_751, wd_752, wd_49, wd_753, by decide +kernel⟩
theorem cw_Law_43 : cs_CwV "ClassStarterLaw" 43 "ClassStarter" ⟨"ClassStarter", "state", "(I)I"⟩ prog_1_method_8_code 2 (some .int) 1 := ⟨wd_390, wd_391, wd_392, wd_43, wd_393, by decide +kernel⟩
theorem cw_Law_46 : cs_CwV "ClassStarterLaw" 46 "ClassStarterModel" ⟨"ClassStarterModel", "state", "(I)I"⟩ prog_8_method_32_code 2 (some .int) 1 := ⟨wd_754, wd_755, wd_756, wd_49, wd_757, by decide +kernel⟩
theorem cw_Law_47 : cs_CwV "ClassStarterLaw" 47 "ClassStarter" ⟨"ClassStarter", "statics", "(II)J"⟩ prog_1_method_9_code 3 (some .long) 2 := ⟨wd_396, wd_397, wd_398, wd_43, wd_399, by decide +kernel⟩
theorem cw_Law_51 : cs_CwV "ClassStarterLaw" 51 "ClassStarterModel" ⟨"ClassStarterModel", "statics", "(II)J"⟩ prog_8_method_33_code 3 (some .long) 2 := ⟨wd_758, wd_759, wd_760, wd_49, wd_761, by decide +kernel⟩
theorem cw_Law_52 : cs_CwV "ClassStarterLaw" 52 "ClassStarter" ⟨"ClassStarter", "result", "(I)I"⟩ prog_1_method_10_code 2 (some .int) 1 := ⟨wd_402, wd_403, wd_404, wd_43, wd_405, by decide +kernel⟩
theorem cw_Law_55 : cs_CwV "ClassStarterLaw" 55 "ClassStarterModel" ⟨"ClassStarterModel", "result", "(I)I"⟩ prog_8_method_34_code 2 (some .int) 1 := ⟨wd_763, wd_764, wd_765, wd_49, wd_766, by decide +kernel⟩
theorem cw_Law_56 : cs_CwV "ClassStarterLaw" 56 "ClassStarter" ⟨"ClassStarter", "inside", "(I)I"⟩ prog_1_method_11_code 2 (some .int) 1 := ⟨wd_420, wd_421, wd_422, wd_43, wd_423, by decide +kernel⟩
theorem cw_Law_59 : cs_CwV "ClassStarterLaw" 59 "ClassStarterModel" ⟨"ClassStarterModel", "inside", "(I)I"⟩ prog_8_method_35_code 2 (some .int) 1 := ⟨wd_775, wd_776, wd_777, wd_49, wd_778, by decide +kernel⟩
theorem cw_Law_60 : cs_CwV "ClassStarterLaw" 60 "ClassStarter" ⟨"ClassStarter", "waitsFor", "(I)I"⟩ prog_1_method_12_code 3 (some .int) 1 := ⟨wd_426, wd_427, wd_428, wd_43, wd_429, by decide +kernel⟩
theorem cw_Law_63 : cs_CwV "ClassStarterLaw" 63 "ClassStarterModel" ⟨"ClassStarterModel", "waitsFor", "(I)I"⟩ prog_8_method_36_code 2 (some .int) 1 := ⟨wd_779, wd_780, wd_781, wd_49, wd_782, by decide +kernel⟩
theorem cw_Law_64 : cs_CwV "ClassStarterLaw" 64 "ClassStarter" ⟨"ClassStarter", "logged", "(I)J"⟩ prog_1_method_13_code 2 (some .long) 1 := ⟨wd_430, wd_431, wd_432, wd_43, wd_433, by decide +kernel⟩
theorem cw_Law_68 : cs_CwV "ClassStarterLaw" 68 "ClassStarterModel" ⟨"ClassStarterModel", "logged", "(I)J"⟩ prog_8_method_37_code 2 (some .long) 1 := ⟨wd_783, wd_784, wd_785, wd_49, wd_786, by decide +kernel⟩
theorem cw_Law_69 : cs_CwV "ClassStarterLaw" 69 "ClassStarter" ⟨"ClassStarter", "explore", "()I"⟩ prog_1_method_14_code 1 (some .int) 0 := ⟨wd_442, wd_443, wd_444, wd_43, wd_445, by decide +kernel⟩
theorem cw_Law_72 : cs_CwV "ClassStarterLaw" 72 "ClassStarterModel" ⟨"ClassStarterModel", "explore", "()I"⟩ prog_8_method_40_code 5 (some .int) 0 := ⟨wd_787, wd_788, wd_789, wd_49, wd_790, by decide +kernel⟩
theorem cw_Law_73 : cs_CwV "ClassStarterLaw" 73 "ClassStarter" ⟨"ClassStarter", "outcome", "(I)J"⟩ prog_1_method_15_code 2 (some .long) 1 := ⟨wd_515, wd_516, wd_517, wd_43, wd_518, by decide +kernel⟩
theorem cw_Law_76 : cs_CwV "ClassStarterLaw" 76 "ClassStarterModel" ⟨"ClassStarterModel", "outcome", "(I)J"⟩ prog_8_method_41_code 2 (some .long) 1 := ⟨wd_799, wd_800, wd_801, wd_49, wd_802, by decide +kernel⟩
theorem cw_Law_77 : cs_CwV "ClassStarterLaw" 77 "ClassStarter" ⟨"ClassStarter", "count", "(I)I"⟩ prog_1_method_16_code 2 (some .int) 1 := ⟨wd_527, wd_528, wd_529, wd_43, wd_530, by decide +kernel⟩
theorem cw_Law_80 : cs_CwV "ClassStarterLaw" 80 "ClassStarterModel" ⟨"ClassStarterModel", "count", "(I)I"⟩ prog_8_method_42_code 2 (some .int) 1 := ⟨wd_803, wd_804, wd_805, wd_49, wd_806, by decide +kernel⟩
theorem d_Law_law_0 : decode code 0 = .ok (.new 7, 3) := by decide +kernel
theorem d_Law_law_3 : decode code 3 = .ok (.dup, 1) := by decide +kernel
theorem d_Law_law_4 : decode code 4 = .ok (.invokespecial 9, 3) := by decide +kernel
theorem d_Law_law_7 : decode code 7 = .ok (.astore_n 1, 1) := by decide +kernel
theorem d_Law_law_8 : decode code 8 = .ok (.new 10, 3) := by decide +kernel
theorem d_Law_law_11 : decode code 11 = .ok (.dup, 1) := by decide +kernel
theorem d_Law_law_12 : decode code 12 = .ok (.invokespecial 12, 3) := by decide +kernel
theorem d_Law_law_15 : decode code 15 = .ok (.astore_n 2, 1) := by decide +kernel
theorem d_Law_law_16 : decode code 16 = .ok (.iconst 0, 1) := by decide +kernel
theorem d_Law_law_17 : decode code 17 = .ok (.istore_n 3, 1) := by decide +kernel
theorem d_Law_law_18 : decode code 18 = .ok (.iload_n 3, 1) := by decide +kernel
theorem d_Law_law_19 : decode code 19 = .ok (.aload_n 0, 1) := by decide +kernel
theorem d_Law_law_20 : decode code 20 = .ok (.arraylength, 1) := by decide +kernel
theorem d_Law_law_21 : decode code 21 = .ok (.iconst 5, 1) := by decide +kernel
theorem d_Law_law_22 : decode code 22 = .ok (.isub, 1) := by decide +kernel
theorem d_Law_law_23 : decode code 23 = .ok (.if_icmp .gt 577, 3) := by decide +kernel
theorem d_Law_law_26 : decode code 26 = .ok (.aload_n 0, 1) := by decide +kernel
theorem d_Law_law_27 : decode code 27 = .ok (.iload_n 3, 1) := by decide +kernel
theorem d_Law_law_28 : decode code 28 = .ok (.iaload, 1) := by decide +kernel
theorem d_Law_law_29 : decode code 29 = .ok (.bipush 15, 2) := by decide +kernel
theorem d_Law_law_31 : decode code 31 = .ok (.iand, 1) := by decide +kernel
theorem d_Law_law_32 : decode code 32 = .ok (.tableswitch 562 0 14 #[76, 161, 220, 273, 316, 339, 352, 375, 409, 432, 455, 478, 502, 515, 539], 76) := by decide +kernel
theorem d_Law_law_108 : decode code 108 = .ok (.aload_n 1, 1) := by decide +kernel
theorem d_Law_law_109 : decode code 109 = .ok (.aload_n 0, 1) := by decide +kernel
theorem d_Law_law_110 : decode code 110 = .ok (.iload_n 3, 1) := by decide +kernel
theorem d_Law_law_111 : decode code 111 = .ok (.iconst 1, 1) := by decide +kernel
theorem d_Law_law_112 : decode code 112 = .ok (.iadd, 1) := by decide +kernel
theorem d_Law_law_113 : decode code 113 = .ok (.iaload, 1) := by decide +kernel
theorem d_Law_law_114 : decode code 114 = .ok (.aload_n 0, 1) := by decide +kernel
theorem d_Law_law_115 : decode code 115 = .ok (.iload_n 3, 1) := by decide +kernel
theorem d_Law_law_116 : decode code 116 = .ok (.iconst 2, 1) := by decide +kernel
theorem d_Law_law_117 : decode code 117 = .ok (.iadd, 1) := by decide +kernel
theorem d_Law_law_118 : decode code 118 = .ok (.iaload, 1) := by decide +kernel
theorem d_Law_law_119 : decode code 119 = .ok (.ifCond .eq 7, 3) := by decide +kernel
theorem d_Law_law_122 : decode code 122 = .ok (.iconst 1, 1) := by decide +kernel
theorem d_Law_law_123 : decode code 123 = .ok (.goto 4, 3) := by decide +kernel
theorem d_Law_law_126 : decode code 126 = .ok (.iconst 0, 1) := by decide +kernel
theorem d_Law_law_127 : decode code 127 = .ok (.aload_n 0, 1) := by decide +kernel
theorem d_Law_law_128 : decode code 128 = .ok (.iload_n 3, 1) := by decide +kernel
theorem d_Law_law_129 : decode code 129 = .ok (.iconst 3, 1) := by decide +kernel
theorem d_Law_law_130 : decode code 130 = .ok (.iadd, 1) := by decide +kernel
theorem d_Law_law_131 : decode code 131 = .ok (.iaload, 1) := by decide +kernel
theorem d_Law_law_132 : decode code 132 = .ok (.ifCond .eq 7, 3) := by decide +kernel
theorem d_Law_law_135 : decode code 135 = .ok (.iconst 1, 1) := by decide +kernel
theorem d_Law_law_136 : decode code 136 = .ok (.goto 4, 3) := by decide +kernel
theorem d_Law_law_139 : decode code 139 = .ok (.iconst 0, 1) := by decide +kernel
theorem d_Law_law_140 : decode code 140 = .ok (.aload_n 0, 1) := by decide +kernel
theorem d_Law_law_141 : decode code 141 = .ok (.iload_n 3, 1) := by decide +kernel
theorem d_Law_law_142 : decode code 142 = .ok (.iconst 4, 1) := by decide +kernel
theorem d_Law_law_143 : decode code 143 = .ok (.iadd, 1) := by decide +kernel
theorem d_Law_law_144 : decode code 144 = .ok (.iaload, 1) := by decide +kernel
theorem d_Law_law_145 : decode code 145 = .ok (.invokevirtual 13, 3) := by decide +kernel
theorem d_Law_law_148 : decode code 148 = .ok (.aload_n 2, 1) := by decide +kernel
theorem d_Law_law_149 : decode code 149 = .ok (.aload_n 0, 1) := by decide +kernel
theorem d_Law_law_150 : decode code 150 = .ok (.iload_n 3, 1) := by decide +kernel
theorem d_Law_law_151 : decode code 151 = .ok (.iconst 1, 1) := by decide +kernel
theorem d_Law_law_152 : decode code 152 = .ok (.iadd, 1) := by decide +kernel
theorem d_Law_law_153 : decode code 153 = .ok (.iaload, 1) := by decide +kernel
theorem d_Law_law_154 : decode code 154 = .ok (.aload_n 0, 1) := by decide +kernel
theorem d_Law_law_155 : decode code 155 = .ok (.iload_n 3, 1) := by decide +kernel
theorem d_Law_law_156 : decode code 156 = .ok (.iconst 2, 1) := by decide +kernel
theorem d_Law_law_157 : decode code 157 = .ok (.iadd, 1) := by decide +kernel
theorem d_Law_law_158 : decode code 158 = .ok (.iaload, 1) := by decide +kernel
theorem d_Law_law_159 : decode code 159 = .ok (.ifCond .eq 7, 3) := by decide +kernel
theorem d_Law_law_162 : decode code 162 = .ok (.iconst 1, 1) := by decide +kernel
theorem d_Law_law_163 : decode code 163 = .ok (.goto 4, 3) := by decide +kernel
theorem d_Law_law_166 : decode code 166 = .ok (.iconst 0, 1) := by decide +kernel
theorem d_Law_law_167 : decode code 167 = .ok (.aload_n 0, 1) := by decide +kernel
theorem d_Law_law_168 : decode code 168 = .ok (.iload_n 3, 1) := by decide +kernel
theorem d_Law_law_169 : decode code 169 = .ok (.iconst 3, 1) := by decide +kernel
theorem d_Law_law_170 : decode code 170 = .ok (.iadd, 1) := by decide +kernel
theorem d_Law_law_171 : decode code 171 = .ok (.iaload, 1) := by decide +kernel
theorem d_Law_law_172 : decode code 172 = .ok (.ifCond .eq 7, 3) := by decide +kernel
theorem d_Law_law_175 : decode code 175 = .ok (.iconst 1, 1) := by decide +kernel
theorem d_Law_law_176 : decode code 176 = .ok (.goto 4, 3) := by decide +kernel
theorem d_Law_law_179 : decode code 179 = .ok (.iconst 0, 1) := by decide +kernel
theorem d_Law_law_180 : decode code 180 = .ok (.aload_n 0, 1) := by decide +kernel
theorem d_Law_law_181 : decode code 181 = .ok (.iload_n 3, 1) := by decide +kernel
theorem d_Law_law_182 : decode code 182 = .ok (.iconst 4, 1) := by decide +kernel
theorem d_Law_law_183 : decode code 183 = .ok (.iadd, 1) := by decide +kernel
theorem d_Law_law_184 : decode code 184 = .ok (.iaload, 1) := by decide +kernel
theorem d_Law_law_185 : decode code 185 = .ok (.invokevirtual 17, 3) := by decide +kernel
theorem d_Law_law_188 : decode code 188 = .ok (.if_icmp .eq 406, 3) := by decide +kernel
theorem d_Law_law_191 : decode code 191 = .ok (.iconst 0, 1) := by decide +kernel
theorem d_Law_law_192 : decode code 192 = .ok (.ireturn, 1) := by decide +kernel
theorem d_Law_law_193 : decode code 193 = .ok (.aload_n 1, 1) := by decide +kernel
theorem d_Law_law_194 : decode code 194 = .ok (.aload_n 0, 1) := by decide +kernel
theorem d_Law_law_195 : decode code 195 = .ok (.iload_n 3, 1) := by decide +kernel
theorem d_Law_law_196 : decode code 196 = .ok (.iconst 1, 1) := by decide +kernel
theorem d_Law_law_197 : decode code 197 = .ok (.iadd, 1) := by decide +kernel
theorem d_Law_law_198 : decode code 198 = .ok (.iaload, 1) := by decide +kernel
theorem d_Law_law_199 : decode code 199 = .ok (.aload_n 0, 1) := by decide +kernel
theorem d_Law_law_200 : decode code 200 = .ok (.iload_n 3, 1) := by decide +kernel
theorem d_Law_law_201 : decode code 201 = .ok (.iconst 2, 1) := by decide +kernel
theorem d_Law_law_202 : decode code 202 = .ok (.iadd, 1) := by decide +kernel
theorem d_Law_law_203 : decode code 203 = .ok (.iaload, 1) := by decide +kernel
theorem d_Law_law_204 : decode code 204 = .ok (.aload_n 0, 1) := by decide +kernel
theorem d_Law_law_205 : decode code 205 = .ok (.iload_n 3, 1) := by decide +kernel
theorem d_Law_law_206 : decode code 206 = .ok (.iconst 3, 1) := by decide +kernel
theorem d_Law_law_207 : decode code 207 = .ok (.iadd, 1) := by decide +kernel
theorem d_Law_law_208 : decode code 208 = .ok (.iaload, 1) := by decide +kernel
theorem d_Law_law_209 : decode code 209 = .ok (.ifCond .eq 7, 3) := by decide +kernel
theorem d_Law_law_212 : decode code 212 = .ok (.iconst 1, 1) := by decide +kernel
theorem d_Law_law_213 : decode code 213 = .ok (.goto 4, 3) := by decide +kernel
theorem d_Law_law_216 : decode code 216 = .ok (.iconst 0, 1) := by decide +kernel
theorem d_Law_law_217 : decode code 217 = .ok (.invokevirtual 18, 3) := by decide +kernel
theorem d_Law_law_220 : decode code 220 = .ok (.aload_n 2, 1) := by decide +kernel
theorem d_Law_law_221 : decode code 221 = .ok (.aload_n 0, 1) := by decide +kernel
theorem d_Law_law_222 : decode code 222 = .ok (.iload_n 3, 1) := by decide +kernel
theorem d_Law_law_223 : decode code 223 = .ok (.iconst 1, 1) := by decide +kernel
theorem d_Law_law_224 : decode code 224 = .ok (.iadd, 1) := by decide +kernel
theorem d_Law_law_225 : decode code 225 = .ok (.iaload, 1) := by decide +kernel
theorem d_Law_law_226 : decode code 226 = .ok (.aload_n 0, 1) := by decide +kernel
theorem d_Law_law_227 : decode code 227 = .ok (.iload_n 3, 1) := by decide +kernel
theorem d_Law_law_228 : decode code 228 = .ok (.iconst 2, 1) := by decide +kernel
theorem d_Law_law_229 : decode code 229 = .ok (.iadd, 1) := by decide +kernel
theorem d_Law_law_230 : decode code 230 = .ok (.iaload, 1) := by decide +kernel
theorem d_Law_law_231 : decode code 231 = .ok (.aload_n 0, 1) := by decide +kernel
theorem d_Law_law_232 : decode code 232 = .ok (.iload_n 3, 1) := by decide +kernel
theorem d_Law_law_233 : decode code 233 = .ok (.iconst 3, 1) := by decide +kernel
theorem d_Law_law_234 : decode code 234 = .ok (.iadd, 1) := by decide +kernel
theorem d_Law_law_235 : decode code 235 = .ok (.iaload, 1) := by decide +kernel
theorem d_Law_law_236 : decode code 236 = .ok (.ifCond .eq 7, 3) := by decide +kernel
theorem d_Law_law_239 : decode code 239 = .ok (.iconst 1, 1) := by decide +kernel
theorem d_Law_law_240 : decode code 240 = .ok (.goto 4, 3) := by decide +kernel
theorem d_Law_law_243 : decode code 243 = .ok (.iconst 0, 1) := by decide +kernel
theorem d_Law_law_244 : decode code 244 = .ok (.invokevirtual 22, 3) := by decide +kernel
theorem d_Law_law_247 : decode code 247 = .ok (.if_icmp .eq 347, 3) := by decide +kernel
theorem d_Law_law_250 : decode code 250 = .ok (.iconst 0, 1) := by decide +kernel
theorem d_Law_law_251 : decode code 251 = .ok (.ireturn, 1) := by decide +kernel
theorem d_Law_law_252 : decode code 252 = .ok (.aload_n 1, 1) := by decide +kernel
theorem d_Law_law_253 : decode code 253 = .ok (.aload_n 0, 1) := by decide +kernel
theorem d_Law_law_254 : decode code 254 = .ok (.iload_n 3, 1) := by decide +kernel
theorem d_Law_law_255 : decode code 255 = .ok (.iconst 1, 1) := by decide +kernel
theorem d_Law_law_256 : decode code 256 = .ok (.iadd, 1) := by decide +kernel
theorem d_Law_law_257 : decode code 257 = .ok (.iaload, 1) := by decide +kernel
theorem d_Law_law_258 : decode code 258 = .ok (.aload_n 0, 1) := by decide +kernel
theorem d_Law_law_259 : decode code 259 = .ok (.iload_n 3, 1) := by decide +kernel
theorem d_Law_law_260 : decode code 260 = .ok (.iconst 2, 1) := by decide +kernel
theorem d_Law_law_261 : decode code 261 = .ok (.iadd, 1) := by decide +kernel
theorem d_Law_law_262 : decode code 262 = .ok (.iaload, 1) := by decide +kernel
theorem d_Law_law_263 : decode code 263 = .ok (.aload_n 0, 1) := by decide +kernel
theorem d_Law_law_264 : decode code 264 = .ok (.iload_n 3, 1) := by decide +kernel
theorem d_Law_law_265 : decode code 265 = .ok (.iconst 3, 1) := by decide +kernel
theorem d_Law_law_266 : decode code 266 = .ok (.iadd, 1) := by decide +kernel
theorem d_Law_law_267 : decode code 267 = .ok (.iaload, 1) := by decide +kernel
theorem d_Law_law_268 : decode code 268 = .ok (.aload_n 0, 1) := by decide +kernel
theorem d_Law_law_269 : decode code 269 = .ok (.iload_n 3, 1) := by decide +kernel
theorem d_Law_law_270 : decode code 270 = .ok (.iconst 4, 1) := by decide +kernel
theorem d_Law_law_271 : decode code 271 = .ok (.iadd, 1) := by decide +kernel
theorem d_Law_law_272 : decode code 272 = .ok (.iaload, 1) := by decide +kernel
theorem d_Law_law_273 : decode code 273 = .ok (.invokevirtual 23, 3) := by decide +kernel
theorem d_Law_law_276 : decode code 276 = .ok (.aload_n 2, 1) := by decide +kernel
theorem d_Law_law_277 : decode code 277 = .ok (.aload_n 0, 1) := by decide +kernel
theorem d_Law_law_278 : decode code 278 = .ok (.iload_n 3, 1) := by decide +kernel
theorem d_Law_law_279 : decode code 279 = .ok (.iconst 1, 1) := by decide +kernel
theorem d_Law_law_280 : decode code 280 = .ok (.iadd, 1) := by decide +kernel
theorem d_Law_law_281 : decode code 281 = .ok (.iaload, 1) := by decide +kernel
theorem d_Law_law_282 : decode code 282 = .ok (.aload_n 0, 1) := by decide +kernel
theorem d_Law_law_283 : decode code 283 = .ok (.iload_n 3, 1) := by decide +kernel
theorem d_Law_law_284 : decode code 284 = .ok (.iconst 2, 1) := by decide +kernel
theorem d_Law_law_285 : decode code 285 = .ok (.iadd, 1) := by decide +kernel
theorem d_Law_law_286 : decode code 286 = .ok (.iaload, 1) := by decide +kernel
theorem d_Law_law_287 : decode code 287 = .ok (.aload_n 0, 1) := by decide +kernel
theorem d_Law_law_288 : decode code 288 = .ok (.iload_n 3, 1) := by decide +kernel
theorem d_Law_law_289 : decode code 289 = .ok (.iconst 3, 1) := by decide +kernel
theorem d_Law_law_290 : decode code 290 = .ok (.iadd, 1) := by decide +kernel
theorem d_Law_law_291 : decode code 291 = .ok (.iaload, 1) := by decide +kernel
theorem d_Law_law_292 : decode code 292 = .ok (.aload_n 0, 1) := by decide +kernel
theorem d_Law_law_293 : decode code 293 = .ok (.iload_n 3, 1) := by decide +kernel
theorem d_Law_law_294 : decode code 294 = .ok (.iconst 4, 1) := by decide +kernel
theorem d_Law_law_295 : decode code 295 = .ok (.iadd, 1) := by decide +kernel
theorem d_Law_law_296 : decode code 296 = .ok (.iaload, 1) := by decide +kernel
theorem d_Law_law_297 : decode code 297 = .ok (.invokevirtual 27, 3) := by decide +kernel
theorem d_Law_law_300 : decode code 300 = .ok (.if_icmp .eq 294, 3) := by decide +kernel
theorem d_Law_law_303 : decode code 303 = .ok (.iconst 0, 1) := by decide +kernel
theorem d_Law_law_304 : decode code 304 = .ok (.ireturn, 1) := by decide +kernel
theorem d_Law_law_305 : decode code 305 = .ok (.aload_n 1, 1) := by decide +kernel
theorem d_Law_law_306 : decode code 306 = .ok (.aload_n 0, 1) := by decide +kernel
theorem d_Law_law_307 : decode code 307 = .ok (.iload_n 3, 1) := by decide +kernel
theorem d_Law_law_308 : decode code 308 = .ok (.iconst 1, 1) := by decide +kernel
theorem d_Law_law_309 : decode code 309 = .ok (.iadd, 1) := by decide +kernel
theorem d_Law_law_310 : decode code 310 = .ok (.iaload, 1) := by decide +kernel
theorem d_Law_law_311 : decode code 311 = .ok (.aload_n 0, 1) := by decide +kernel
theorem d_Law_law_312 : decode code 312 = .ok (.iload_n 3, 1) := by decide +kernel
theorem d_Law_law_313 : decode code 313 = .ok (.iconst 2, 1) := by decide +kernel
theorem d_Law_law_314 : decode code 314 = .ok (.iadd, 1) := by decide +kernel
theorem d_Law_law_315 : decode code 315 = .ok (.iaload, 1) := by decide +kernel
theorem d_Law_law_316 : decode code 316 = .ok (.aload_n 0, 1) := by decide +kernel
theorem d_Law_law_317 : decode code 317 = .ok (.iload_n 3, 1) := by decide +kernel
theorem d_Law_law_318 : decode code 318 = .ok (.iconst 3, 1) := by decide +kernel
theorem d_Law_law_319 : decode code 319 = .ok (.iadd, 1) := by decide +kernel
theorem d_Law_law_320 : decode code 320 = .ok (.iaload, 1) := by decide +kernel
theorem d_Law_law_321 : decode code 321 = .ok (.invokevirtual 28, 3) := by decide +kernel
theorem d_Law_law_324 : decode code 324 = .ok (.aload_n 2, 1) := by decide +kernel
theorem d_Law_law_325 : decode code 325 = .ok (.aload_n 0, 1) := by decide +kernel
theorem d_Law_law_326 : decode code 326 = .ok (.iload_n 3, 1) := by decide +kernel
theorem d_Law_law_327 : decode code 327 = .ok (.iconst 1, 1) := by decide +kernel
theorem d_Law_law_328 : decode code 328 = .ok (.iadd, 1) := by decide +kernel
theorem d_Law_law_329 : decode code 329 = .ok (.iaload, 1) := by decide +kernel
theorem d_Law_law_330 : decode code 330 = .ok (.aload_n 0, 1) := by decide +kernel
theorem d_Law_law_331 : decode code 331 = .ok (.iload_n 3, 1) := by decide +kernel
theorem d_Law_law_332 : decode code 332 = .ok (.iconst 2, 1) := by decide +kernel
theorem d_Law_law_333 : decode code 333 = .ok (.iadd, 1) := by decide +kernel
theorem d_Law_law_334 : decode code 334 = .ok (.iaload, 1) := by decide +kernel
theorem d_Law_law_335 : decode code 335 = .ok (.aload_n 0, 1) := by decide +kernel
theorem d_Law_law_336 : decode code 336 = .ok (.iload_n 3, 1) := by decide +kernel
theorem d_Law_law_337 : decode code 337 = .ok (.iconst 3, 1) := by decide +kernel
theorem d_Law_law_338 : decode code 338 = .ok (.iadd, 1) := by decide +kernel
theorem d_Law_law_339 : decode code 339 = .ok (.iaload, 1) := by decide +kernel
theorem d_Law_law_340 : decode code 340 = .ok (.invokevirtual 32, 3) := by decide +kernel
theorem d_Law_law_343 : decode code 343 = .ok (.if_icmp .eq 251, 3) := by decide +kernel
theorem d_Law_law_346 : decode code 346 = .ok (.iconst 0, 1) := by decide +kernel
theorem d_Law_law_347 : decode code 347 = .ok (.ireturn, 1) := by decide +kernel
theorem d_Law_law_348 : decode code 348 = .ok (.aload_n 1, 1) := by decide +kernel
theorem d_Law_law_349 : decode code 349 = .ok (.aload_n 0, 1) := by decide +kernel
theorem d_Law_law_350 : decode code 350 = .ok (.iload_n 3, 1) := by decide +kernel
theorem d_Law_law_351 : decode code 351 = .ok (.iconst 1, 1) := by decide +kernel
theorem d_Law_law_352 : decode code 352 = .ok (.iadd, 1) := by decide +kernel
theorem d_Law_law_353 : decode code 353 = .ok (.iaload, 1) := by decide +kernel
theorem d_Law_law_354 : decode code 354 = .ok (.invokevirtual 33, 3) := by decide +kernel
theorem d_Law_law_357 : decode code 357 = .ok (.aload_n 2, 1) := by decide +kernel
theorem d_Law_law_358 : decode code 358 = .ok (.aload_n 0, 1) := by decide +kernel
theorem d_Law_law_359 : decode code 359 = .ok (.iload_n 3, 1) := by decide +kernel
theorem d_Law_law_360 : decode code 360 = .ok (.iconst 1, 1) := by decide +kernel
theorem d_Law_law_361 : decode code 361 = .ok (.iadd, 1) := by decide +kernel
theorem d_Law_law_362 : decode code 362 = .ok (.iaload, 1) := by decide +kernel
theorem d_Law_law_363 : decode code 363 = .ok (.invokevirtual 37, 3) := by decide +kernel
theorem d_Law_law_366 : decode code 366 = .ok (.if_icmp .eq 228, 3) := by decide +kernel
theorem d_Law_law_369 : decode code 369 = .ok (.iconst 0, 1) := by decide +kernel
theorem d_Law_law_370 : decode code 370 = .ok (.ireturn, 1) := by decide +kernel
theorem d_Law_law_371 : decode code 371 = .ok (.aload_n 1, 1) := by decide +kernel
theorem d_Law_law_372 : decode code 372 = .ok (.invokevirtual 38, 3) := by decide +kernel
theorem d_Law_law_375 : decode code 375 = .ok (.aload_n 2, 1) := by decide +kernel
theorem d_Law_law_376 : decode code 376 = .ok (.invokevirtual 42, 3) := by decide +kernel
theorem d_Law_law_379 : decode code 379 = .ok (.if_icmp .eq 215, 3) := by decide +kernel
theorem d_Law_law_382 : decode code 382 = .ok (.iconst 0, 1) := by decide +kernel
theorem d_Law_law_383 : decode code 383 = .ok (.ireturn, 1) := by decide +kernel
theorem d_Law_law_384 : decode code 384 = .ok (.aload_n 1, 1) := by decide +kernel
theorem d_Law_law_385 : decode code 385 = .ok (.aload_n 0, 1) := by decide +kernel
theorem d_Law_law_386 : decode code 386 = .ok (.iload_n 3, 1) := by decide +kernel
theorem d_Law_law_387 : decode code 387 = .ok (.iconst 1, 1) := by decide +kernel
theorem d_Law_law_388 : decode code 388 = .ok (.iadd, 1) := by decide +kernel
theorem d_Law_law_389 : decode code 389 = .ok (.iaload, 1) := by decide +kernel
theorem d_Law_law_390 : decode code 390 = .ok (.invokevirtual 43, 3) := by decide +kernel
theorem d_Law_law_393 : decode code 393 = .ok (.aload_n 2, 1) := by decide +kernel
theorem d_Law_law_394 : decode code 394 = .ok (.aload_n 0, 1) := by decide +kernel
theorem d_Law_law_395 : decode code 395 = .ok (.iload_n 3, 1) := by decide +kernel
theorem d_Law_law_396 : decode code 396 = .ok (.iconst 1, 1) := by decide +kernel
theorem d_Law_law_397 : decode code 397 = .ok (.iadd, 1) := by decide +kernel
theorem d_Law_law_398 : decode code 398 = .ok (.iaload, 1) := by decide +kernel
theorem d_Law_law_399 : decode code 399 = .ok (.invokevirtual 46, 3) := by decide +kernel
theorem d_Law_law_402 : decode code 402 = .ok (.if_icmp .eq 192, 3) := by decide +kernel
theorem d_Law_law_405 : decode code 405 = .ok (.iconst 0, 1) := by decide +kernel
theorem d_Law_law_406 : decode code 406 = .ok (.ireturn, 1) := by decide +kernel
theorem d_Law_law_407 : decode code 407 = .ok (.aload_n 1, 1) := by decide +kernel
theorem d_Law_law_408 : decode code 408 = .ok (.aload_n 0, 1) := by decide +kernel
theorem d_Law_law_409 : decode code 409 = .ok (.iload_n 3, 1) := by decide +kernel
theorem d_Law_law_410 : decode code 410 = .ok (.iconst 1, 1) := by decide +kernel
theorem d_Law_law_411 : decode code 411 = .ok (.iadd, 1) := by decide +kernel
theorem d_Law_law_412 : decode code 412 = .ok (.iaload, 1) := by decide +kernel
theorem d_Law_law_413 : decode code 413 = .ok (.aload_n 0, 1) := by decide +kernel
theorem d_Law_law_414 : decode code 414 = .ok (.iload_n 3, 1) := by decide +kernel
theorem d_Law_law_415 : decode code 415 = .ok (.iconst 2, 1) := by decide +kernel
theorem d_Law_law_416 : decode code 416 = .ok (.iadd, 1) := by decide +kernel
theorem d_Law_law_417 : decode code 417 = .ok (.iaload, 1) := by decide +kernel
theorem d_Law_law_418 : decode code 418 = .ok (.invokevirtual 47, 3) := by decide +kernel
theorem d_Law_law_421 : decode code 421 = .ok (.aload_n 2, 1) := by decide +kernel
theorem d_Law_law_422 : decode code 422 = .ok (.aload_n 0, 1) := by decide +kernel
theorem d_Law_law_423 : decode code 423 = .ok (.iload_n 3, 1) := by decide +kernel
theorem d_Law_law_424 : decode code 424 = .ok (.iconst 1, 1) := by decide +kernel
theorem d_Law_law_425 : decode code 425 = .ok (.iadd, 1) := by decide +kernel
theorem d_Law_law_426 : decode code 426 = .ok (.iaload, 1) := by decide +kernel
theorem d_Law_law_427 : decode code 427 = .ok (.aload_n 0, 1) := by decide +kernel
theorem d_Law_law_428 : decode code 428 = .ok (.iload_n 3, 1) := by decide +kernel
theorem d_Law_law_429 : decode code 429 = .ok (.iconst 2, 1) := by decide +kernel
theorem d_Law_law_430 : decode code 430 = .ok (.iadd, 1) := by decide +kernel
theorem d_Law_law_431 : decode code 431 = .ok (.iaload, 1) := by decide +kernel
theorem d_Law_law_432 : decode code 432 = .ok (.invokevirtual 51, 3) := by decide +kernel
theorem d_Law_law_435 : decode code 435 = .ok (.lcmp, 1) := by decide +kernel
theorem d_Law_law_436 : decode code 436 = .ok (.ifCond .eq 158, 3) := by decide +kernel
theorem d_Law_law_439 : decode code 439 = .ok (.iconst 0, 1) := by decide +kernel
theorem d_Law_law_440 : decode code 440 = .ok (.ireturn, 1) := by decide +kernel
theorem d_Law_law_441 : decode code 441 = .ok (.aload_n 1, 1) := by decide +kernel
theorem d_Law_law_442 : decode code 442 = .ok (.aload_n 0, 1) := by decide +kernel
theorem d_Law_law_443 : decode code 443 = .ok (.iload_n 3, 1) := by decide +kernel
theorem d_Law_law_444 : decode code 444 = .ok (.iconst 1, 1) := by decide +kernel
theorem d_Law_law_445 : decode code 445 = .ok (.iadd, 1) := by decide +kernel
theorem d_Law_law_446 : decode code 446 = .ok (.iaload, 1) := by decide +kernel
theorem d_Law_law_447 : decode code 447 = .ok (.invokevirtual 52, 3) := by decide +kernel
theorem d_Law_law_450 : decode code 450 = .ok (.aload_n 2, 1) := by decide +kernel
theorem d_Law_law_451 : decode code 451 = .ok (.aload_n 0, 1) := by decide +kernel
theorem d_Law_law_452 : decode code 452 = .ok (.iload_n 3, 1) := by decide +kernel
theorem d_Law_law_453 : decode code 453 = .ok (.iconst 1, 1) := by decide +kernel
theorem d_Law_law_454 : decode code 454 = .ok (.iadd, 1) := by decide +kernel
theorem d_Law_law_455 : decode code 455 = .ok (.iaload, 1) := by decide +kernel
theorem d_Law_law_456 : decode code 456 = .ok (.invokevirtual 55, 3) := by decide +kernel
theorem d_Law_law_459 : decode code 459 = .ok (.if_icmp .eq 135, 3) := by decide +kernel
theorem d_Law_law_462 : decode code 462 = .ok (.iconst 0, 1) := by decide +kernel
theorem d_Law_law_463 : decode code 463 = .ok (.ireturn, 1) := by decide +kernel
theorem d_Law_law_464 : decode code 464 = .ok (.aload_n 1, 1) := by decide +kernel
theorem d_Law_law_465 : decode code 465 = .ok (.aload_n 0, 1) := by decide +kernel
theorem d_Law_law_466 : decode code 466 = .ok (.iload_n 3, 1) := by decide +kernel
theorem d_Law_law_467 : decode code 467 = .ok (.iconst 1, 1) := by decide +kernel
theorem d_Law_law_468 : decode code 468 = .ok (.iadd, 1) := by decide +kernel
theorem d_Law_law_469 : decode code 469 = .ok (.iaload, 1) := by decide +kernel
theorem d_Law_law_470 : decode code 470 = .ok (.invokevirtual 56, 3) := by decide +kernel
theorem d_Law_law_473 : decode code 473 = .ok (.aload_n 2, 1) := by decide +kernel
theorem d_Law_law_474 : decode code 474 = .ok (.aload_n 0, 1) := by decide +kernel
theorem d_Law_law_475 : decode code 475 = .ok (.iload_n 3, 1) := by decide +kernel
theorem d_Law_law_476 : decode code 476 = .ok (.iconst 1, 1) := by decide +kernel
theorem d_Law_law_477 : decode code 477 = .ok (.iadd, 1) := by decide +kernel
theorem d_Law_law_478 : decode code 478 = .ok (.iaload, 1) := by decide +kernel
theorem d_Law_law_479 : decode code 479 = .ok (.invokevirtual 59, 3) := by decide +kernel
theorem d_Law_law_482 : decode code 482 = .ok (.if_icmp .eq 112, 3) := by decide +kernel
theorem d_Law_law_485 : decode code 485 = .ok (.iconst 0, 1) := by decide +kernel
theorem d_Law_law_486 : decode code 486 = .ok (.ireturn, 1) := by decide +kernel
theorem d_Law_law_487 : decode code 487 = .ok (.aload_n 1, 1) := by decide +kernel
theorem d_Law_law_488 : decode code 488 = .ok (.aload_n 0, 1) := by decide +kernel
theorem d_Law_law_489 : decode code 489 = .ok (.iload_n 3, 1) := by decide +kernel
theorem d_Law_law_490 : decode code 490 = .ok (.iconst 1, 1) := by decide +kernel
theorem d_Law_law_491 : decode code 491 = .ok (.iadd, 1) := by decide +kernel
theorem d_Law_law_492 : decode code 492 = .ok (.iaload, 1) := by decide +kernel
theorem d_Law_law_493 : decode code 493 = .ok (.invokevirtual 60, 3) := by decide +kernel
theorem d_Law_law_496 : decode code 496 = .ok (.aload_n 2, 1) := by decide +kernel
theorem d_Law_law_497 : decode code 497 = .ok (.aload_n 0, 1) := by decide +kernel
theorem d_Law_law_498 : decode code 498 = .ok (.iload_n 3, 1) := by decide +kernel
theorem d_Law_law_499 : decode code 499 = .ok (.iconst 1, 1) := by decide +kernel
theorem d_Law_law_500 : decode code 500 = .ok (.iadd, 1) := by decide +kernel
theorem d_Law_law_501 : decode code 501 = .ok (.iaload, 1) := by decide +kernel
theorem d_Law_law_502 : decode code 502 = .ok (.invokevirtual 63, 3) := by decide +kernel
theorem d_Law_law_505 : decode code 505 = .ok (.if_icmp .eq 89, 3) := by decide +kernel
theorem d_Law_law_508 : decode code 508 = .ok (.iconst 0, 1) := by decide +kernel
theorem d_Law_law_509 : decode code 509 = .ok (.ireturn, 1) := by decide +kernel
theorem d_Law_law_510 : decode code 510 = .ok (.aload_n 1, 1) := by decide +kernel
theorem d_Law_law_511 : decode code 511 = .ok (.aload_n 0, 1) := by decide +kernel
theorem d_Law_law_512 : decode code 512 = .ok (.iload_n 3, 1) := by decide +kernel
theorem d_Law_law_513 : decode code 513 = .ok (.iconst 1, 1) := by decide +kernel
theorem d_Law_law_514 : decode code 514 = .ok (.iadd, 1) := by decide +kernel
theorem d_Law_law_515 : decode code 515 = .ok (.iaload, 1) := by decide +kernel
theorem d_Law_law_516 : decode code 516 = .ok (.invokevirtual 64, 3) := by decide +kernel
theorem d_Law_law_519 : decode code 519 = .ok (.aload_n 2, 1) := by decide +kernel
theorem d_Law_law_520 : decode code 520 = .ok (.aload_n 0, 1) := by decide +kernel
theorem d_Law_law_521 : decode code 521 = .ok (.iload_n 3, 1) := by decide +kernel
theorem d_Law_law_522 : decode code 522 = .ok (.iconst 1, 1) := by decide +kernel
theorem d_Law_law_523 : decode code 523 = .ok (.iadd, 1) := by decide +kernel
theorem d_Law_law_524 : decode code 524 = .ok (.iaload, 1) := by decide +kernel
theorem d_Law_law_525 : decode code 525 = .ok (.invokevirtual 68, 3) := by decide +kernel
theorem d_Law_law_528 : decode code 528 = .ok (.lcmp, 1) := by decide +kernel
theorem d_Law_law_529 : decode code 529 = .ok (.ifCond .eq 65, 3) := by decide +kernel
theorem d_Law_law_532 : decode code 532 = .ok (.iconst 0, 1) := by decide +kernel
theorem d_Law_law_533 : decode code 533 = .ok (.ireturn, 1) := by decide +kernel
theorem d_Law_law_534 : decode code 534 = .ok (.aload_n 1, 1) := by decide +kernel
theorem d_Law_law_535 : decode code 535 = .ok (.invokevirtual 69, 3) := by decide +kernel
theorem d_Law_law_538 : decode code 538 = .ok (.aload_n 2, 1) := by decide +kernel
theorem d_Law_law_539 : decode code 539 = .ok (.invokevirtual 72, 3) := by decide +kernel
theorem d_Law_law_542 : decode code 542 = .ok (.if_icmp .eq 52, 3) := by decide +kernel
theorem d_Law_law_545 : decode code 545 = .ok (.iconst 0, 1) := by decide +kernel
theorem d_Law_law_546 : decode code 546 = .ok (.ireturn, 1) := by decide +kernel
theorem d_Law_law_547 : decode code 547 = .ok (.aload_n 1, 1) := by decide +kernel
theorem d_Law_law_548 : decode code 548 = .ok (.aload_n 0, 1) := by decide +kernel
theorem d_Law_law_549 : decode code 549 = .ok (.iload_n 3, 1) := by decide +kernel
theorem d_Law_law_550 : decode code 550 = .ok (.iconst 1, 1) := by decide +kernel
theorem d_Law_law_551 : decode code 551 = .ok (.iadd, 1) := by decide +kernel
theorem d_Law_law_552 : decode code 552 = .ok (.iaload, 1) := by decide +kernel
theorem d_Law_law_553 : decode code 553 = .ok (.invokevirtual 73, 3) := by decide +kernel
theorem d_Law_law_556 : decode code 556 = .ok (.aload_n 2, 1) := by decide +kernel
theorem d_Law_law_557 : decode code 557 = .ok (.aload_n 0, 1) := by decide +kernel
theorem d_Law_law_558 : decode code 558 = .ok (.iload_n 3, 1) := by decide +kernel
theorem d_Law_law_559 : decode code 559 = .ok (.iconst 1, 1) := by decide +kernel
theorem d_Law_law_560 : decode code 560 = .ok (.iadd, 1) := by decide +kernel
theorem d_Law_law_561 : decode code 561 = .ok (.iaload, 1) := by decide +kernel
theorem d_Law_law_562 : decode code 562 = .ok (.invokevirtual 76, 3) := by decide +kernel
theorem d_Law_law_565 : decode code 565 = .ok (.lcmp, 1) := by decide +kernel
theorem d_Law_law_566 : decode code 566 = .ok (.ifCond .eq 28, 3) := by decide +kernel
theorem d_Law_law_569 : decode code 569 = .ok (.iconst 0, 1) := by decide +kernel
theorem d_Law_law_570 : decode code 570 = .ok (.ireturn, 1) := by decide +kernel
theorem d_Law_law_571 : decode code 571 = .ok (.aload_n 1, 1) := by decide +kernel
theorem d_Law_law_572 : decode code 572 = .ok (.aload_n 0, 1) := by decide +kernel
theorem d_Law_law_573 : decode code 573 = .ok (.iload_n 3, 1) := by decide +kernel
theorem d_Law_law_574 : decode code 574 = .ok (.iconst 1, 1) := by decide +kernel
theorem d_Law_law_575 : decode code 575 = .ok (.iadd, 1) := by decide +kernel
theorem d_Law_law_576 : decode code 576 = .ok (.iaload, 1) := by decide +kernel
theorem d_Law_law_577 : decode code 577 = .ok (.invokevirtual 77, 3) := by decide +kernel
theorem d_Law_law_580 : decode code 580 = .ok (.aload_n 2, 1) := by decide +kernel
theorem d_Law_law_581 : decode code 581 = .ok (.aload_n 0, 1) := by decide +kernel
theorem d_Law_law_582 : decode code 582 = .ok (.iload_n 3, 1) := by decide +kernel
theorem d_Law_law_583 : decode code 583 = .ok (.iconst 1, 1) := by decide +kernel
theorem d_Law_law_584 : decode code 584 = .ok (.iadd, 1) := by decide +kernel
theorem d_Law_law_585 : decode code 585 = .ok (.iaload, 1) := by decide +kernel
theorem d_Law_law_586 : decode code 586 = .ok (.invokevirtual 80, 3) := by decide +kernel
theorem d_Law_law_589 : decode code 589 = .ok (.if_icmp .eq 5, 3) := by decide +kernel
theorem d_Law_law_592 : decode code 592 = .ok (.iconst 0, 1) := by decide +kernel
theorem d_Law_law_593 : decode code 593 = .ok (.ireturn, 1) := by decide +kernel
theorem d_Law_law_594 : decode code 594 = .ok (.iinc 3 5, 3) := by decide +kernel
theorem d_Law_law_597 : decode code 597 = .ok (.goto (-579), 3) := by decide +kernel
theorem d_Law_law_600 : decode code 600 = .ok (.iconst 1, 1) := by decide +kernel
theorem d_Law_law_601 : decode code 601 = .ok (.ireturn, 1) := by decide +kernel
