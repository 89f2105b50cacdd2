theorem cw_copy : cs_CwS "ClassStarter$Explorer" 90 ⟨"java/util/Arrays", "copyOf", "([II)[I"⟩ prog_12_method_123_code 3 (some (.array .int)) 2 := ⟨wd_484, wd_485, wd_47, wd_486, by decide +kernel⟩
theorem cw_Ex_84 : cs_CwV "ClassStarter$Explorer" 84 "ClassStarter$Machine" ⟨"ClassStarter$Machine", "lastResultOf", "(I)I"⟩ prog_4_method_18_code 2 (some .int) 1 := ⟨wd_479, wd_417, wd_418, wd_46, wd_419, by decide +kernel⟩
theorem cw_Ex_87 : cs_CwV "ClassStarter$Explorer" 87 "ClassStarter$Explorer" ⟨"ClassStarter$Explorer", "find", "(I)V"⟩ prog_2_method_16_code 3 (none : Option Jvm.ClassFile.FieldType) 1 := ⟨wd_480, wd_482, wd_17, wd_48, wd_483, by decide +kernel⟩
theorem cw_Ex_51 : cs_CwV "ClassStarter$Explorer" 51 "ClassStarter$Machine" ⟨"ClassStarter$Machine", "nextAble", "(I)I"⟩ prog_4_method_16_code 3 (some .int) 1 := ⟨wd_464, wd_412, wd_413, wd_46, wd_414, by decide +kernel⟩
theorem cw_Ex_59 : cs_CwV "ClassStarter$Explorer" 59 "ClassStarter$Machine" ⟨"ClassStarter$Machine", "advance", "(I)V"⟩ prog_4_method_19_code 4 (none : Option Jvm.ClassFile.FieldType) 1 := ⟨wd_474, wd_317, wd_318, wd_46, wd_319, by decide +kernel⟩
theorem cw_Ex_62 : cs_CwV "ClassStarter$Explorer" 62 "ClassStarter$Explorer" ⟨"ClassStarter$Explorer", "endOrder", "()V"⟩ prog_2_method_15_code 5 (none : Option Jvm.ClassFile.FieldType) 0 := ⟨wd_475, wd_477, wd_16, wd_48, wd_478, by decide +kernel⟩
theorem cw_Ex_68 : cs_CwV "ClassStarter$Explorer" 68 "ClassStarter$Explorer" ⟨"ClassStarter$Explorer", "finish", "()V"⟩ prog_2_method_11_code 1 (none : Option Jvm.ClassFile.FieldType) 0 := ⟨wd_507, wd_509, wd_19, wd_48, wd_510, by decide +kernel⟩
theorem cw_Ex_55 : cs_CwV "ClassStarter$Explorer" 55 "ClassStarter$Explorer" ⟨"ClassStarter$Explorer", "goDown", "(I)V"⟩ prog_2_method_13_code 2 (none : Option Jvm.ClassFile.FieldType) 1 := ⟨wd_465, wd_467, wd_15, wd_48, wd_468, by decide +kernel⟩
theorem cw_Ex_65 : cs_CwV "ClassStarter$Explorer" 65 "ClassStarter$Explorer" ⟨"ClassStarter$Explorer", "goUp", "()V"⟩ prog_2_method_14_code 1 (none : Option Jvm.ClassFile.FieldType) 0 := ⟨wd_499, wd_501, wd_18, wd_48, wd_502, by decide +kernel⟩
theorem cw_Ex_44 : cs_CwV "ClassStarter$Explorer" 44 "ClassStarter$Explorer" ⟨"ClassStarter$Explorer", "begin", "()V"⟩ prog_2_method_10_code 1 (none : Option Jvm.ClassFile.FieldType) 0 := ⟨wd_454, wd_456, wd_13, wd_48, wd_457, by decide +kernel⟩
theorem cw_X_109 : cs_CwV "ClassStarter" 109 "ClassStarter$Explorer" ⟨"ClassStarter$Explorer", "goThrough", "()V"⟩ prog_2_method_9_code 3 (none : Option Jvm.ClassFile.FieldType) 0 := ⟨wd_450, wd_451, wd_452, wd_48, wd_453, by decide +kernel⟩
theorem cw_X_106 : cs_CwV "ClassStarter" 106 "ClassStarter$Explorer" ⟨"ClassStarter$Explorer", "isKnown", "()Z"⟩ prog_2_method_7_code 1 (some .boolean) 0 := ⟨wd_446, wd_447, wd_448, wd_48, wd_449, by decide +kernel⟩
theorem cw_X_112 : cs_CwV "ClassStarter" 112 "ClassStarter$Explorer" ⟨"ClassStarter$Explorer", "answer", "()I"⟩ prog_2_method_8_code 1 (some .int) 0 := ⟨wd_511, wd_512, wd_513, wd_48, wd_514, by decide +kernel⟩
theorem d_Ex_find_0 : decode prog_2_method_16_code 0 = .ok (.aload_n 0, 1) := by decide +kernel
theorem d_Ex_find_1 : decode prog_2_method_16_code 1 = .ok (.getfield 27, 3) := by decide +kernel
theorem d_Ex_find_4 : decode prog_2_method_16_code 4 = .ok (.istore_n 2, 1) := by decide +kernel
theorem d_Ex_find_5 : decode prog_2_method_16_code 5 = .ok (.iload_n 2, 1) := by decide +kernel
theorem d_Ex_find_6 : decode prog_2_method_16_code 6 = .ok (.ifCond .le 21, 3) := by decide +kernel
theorem d_Ex_find_9 : decode prog_2_method_16_code 9 = .ok (.aload_n 0, 1) := by decide +kernel
theorem d_Ex_find_10 : decode prog_2_method_16_code 10 = .ok (.getfield 20, 3) := by decide +kernel
theorem d_Ex_find_13 : decode prog_2_method_16_code 13 = .ok (.iload_n 2, 1) := by decide +kernel
theorem d_Ex_find_14 : decode prog_2_method_16_code 14 = .ok (.iconst 1, 1) := by decide +kernel
theorem d_Ex_find_15 : decode prog_2_method_16_code 15 = .ok (.isub, 1) := by decide +kernel
theorem d_Ex_find_16 : decode prog_2_method_16_code 16 = .ok (.iaload, 1) := by decide +kernel
theorem d_Ex_find_17 : decode prog_2_method_16_code 17 = .ok (.iload_n 1, 1) := by decide +kernel
theorem d_Ex_find_18 : decode prog_2_method_16_code 18 = .ok (.if_icmp .le 9, 3) := by decide +kernel
theorem d_Ex_find_21 : decode prog_2_method_16_code 21 = .ok (.iinc 2 (-1), 3) := by decide +kernel
theorem d_Ex_find_24 : decode prog_2_method_16_code 24 = .ok (.goto (-19), 3) := by decide +kernel
theorem d_Ex_find_27 : decode prog_2_method_16_code 27 = .ok (.iload_n 2, 1) := by decide +kernel
theorem d_Ex_find_28 : decode prog_2_method_16_code 28 = .ok (.ifCond .le 16, 3) := by decide +kernel
theorem d_Ex_find_31 : decode prog_2_method_16_code 31 = .ok (.aload_n 0, 1) := by decide +kernel
theorem d_Ex_find_32 : decode prog_2_method_16_code 32 = .ok (.getfield 20, 3) := by decide +kernel
theorem d_Ex_find_35 : decode prog_2_method_16_code 35 = .ok (.iload_n 2, 1) := by decide +kernel
theorem d_Ex_find_36 : decode prog_2_method_16_code 36 = .ok (.iconst 1, 1) := by decide +kernel
theorem d_Ex_find_37 : decode prog_2_method_16_code 37 = .ok (.isub, 1) := by decide +kernel
theorem d_Ex_find_38 : decode prog_2_method_16_code 38 = .ok (.iaload, 1) := by decide +kernel
theorem d_Ex_find_39 : decode prog_2_method_16_code 39 = .ok (.iload_n 1, 1) := by decide +kernel
theorem d_Ex_find_40 : decode prog_2_method_16_code 40 = .ok (.if_icmp .ne 4, 3) := by decide +kernel
theorem d_Ex_find_43 : decode prog_2_method_16_code 43 = .ok (.return_, 1) := by decide +kernel
theorem d_Ex_find_44 : decode prog_2_method_16_code 44 = .ok (.aload_n 0, 1) := by decide +kernel
theorem d_Ex_find_45 : decode prog_2_method_16_code 45 = .ok (.getfield 27, 3) := by decide +kernel
theorem d_Ex_find_48 : decode prog_2_method_16_code 48 = .ok (.aload_n 0, 1) := by decide +kernel
theorem d_Ex_find_49 : decode prog_2_method_16_code 49 = .ok (.getfield 20, 3) := by decide +kernel
theorem d_Ex_find_52 : decode prog_2_method_16_code 52 = .ok (.arraylength, 1) := by decide +kernel
theorem d_Ex_find_53 : decode prog_2_method_16_code 53 = .ok (.if_icmp .lt 21, 3) := by decide +kernel
theorem d_Ex_find_56 : decode prog_2_method_16_code 56 = .ok (.aload_n 0, 1) := by decide +kernel
theorem d_Ex_find_57 : decode prog_2_method_16_code 57 = .ok (.aload_n 0, 1) := by decide +kernel
theorem d_Ex_find_58 : decode prog_2_method_16_code 58 = .ok (.getfield 20, 3) := by decide +kernel
theorem d_Ex_find_61 : decode prog_2_method_16_code 61 = .ok (.iconst 2, 1) := by decide +kernel
theorem d_Ex_find_62 : decode prog_2_method_16_code 62 = .ok (.aload_n 0, 1) := by decide +kernel
theorem d_Ex_find_63 : decode prog_2_method_16_code 63 = .ok (.getfield 20, 3) := by decide +kernel
theorem d_Ex_find_66 : decode prog_2_method_16_code 66 = .ok (.arraylength, 1) := by decide +kernel
theorem d_Ex_find_67 : decode prog_2_method_16_code 67 = .ok (.imul, 1) := by decide +kernel
theorem d_Ex_find_68 : decode prog_2_method_16_code 68 = .ok (.invokestatic 90, 3) := by decide +kernel
theorem d_Ex_find_71 : decode prog_2_method_16_code 71 = .ok (.putfield 20, 3) := by decide +kernel
theorem d_Ex_find_74 : decode prog_2_method_16_code 74 = .ok (.aload_n 0, 1) := by decide +kernel
theorem d_Ex_find_75 : decode prog_2_method_16_code 75 = .ok (.getfield 20, 3) := by decide +kernel
theorem d_Ex_find_78 : decode prog_2_method_16_code 78 = .ok (.iload_n 2, 1) := by decide +kernel
theorem d_Ex_find_79 : decode prog_2_method_16_code 79 = .ok (.aload_n 0, 1) := by decide +kernel
theorem d_Ex_find_80 : decode prog_2_method_16_code 80 = .ok (.getfield 20, 3) := by decide +kernel
theorem d_Ex_find_83 : decode prog_2_method_16_code 83 = .ok (.iload_n 2, 1) := by decide +kernel
theorem d_Ex_find_84 : decode prog_2_method_16_code 84 = .ok (.iconst 1, 1) := by decide +kernel
theorem d_Ex_find_85 : decode prog_2_method_16_code 85 = .ok (.iadd, 1) := by decide +kernel
theorem d_Ex_find_86 : decode prog_2_method_16_code 86 = .ok (.aload_n 0, 1) := by decide +kernel
theorem d_Ex_find_87 : decode prog_2_method_16_code 87 = .ok (.getfield 27, 3) := by decide +kernel
theorem d_Ex_find_90 : decode prog_2_method_16_code 90 = .ok (.iload_n 2, 1) := by decide +kernel
theorem d_Ex_find_91 : decode prog_2_method_16_code 91 = .ok (.isub, 1) := by decide +kernel
theorem d_Ex_find_92 : decode prog_2_method_16_code 92 = .ok (.invokestatic 96, 3) := by decide +kernel
theorem d_Ex_find_95 : decode prog_2_method_16_code 95 = .ok (.aload_n 0, 1) := by decide +kernel
theorem d_Ex_find_96 : decode prog_2_method_16_code 96 = .ok (.getfield 20, 3) := by decide +kernel
theorem d_Ex_find_99 : decode prog_2_method_16_code 99 = .ok (.iload_n 2, 1) := by decide +kernel
theorem d_Ex_find_100 : decode prog_2_method_16_code 100 = .ok (.iload_n 1, 1) := by decide +kernel
theorem d_Ex_find_101 : decode prog_2_method_16_code 101 = .ok (.iastore, 1) := by decide +kernel
theorem d_Ex_find_102 : decode prog_2_method_16_code 102 = .ok (.aload_n 0, 1) := by decide +kernel
theorem d_Ex_find_103 : decode prog_2_method_16_code 103 = .ok (.dup, 1) := by decide +kernel
theorem d_Ex_find_104 : decode prog_2_method_16_code 104 = .ok (.getfield 27, 3) := by decide +kernel
theorem d_Ex_find_107 : decode prog_2_method_16_code 107 = .ok (.iconst 1, 1) := by decide +kernel
theorem d_Ex_find_108 : decode prog_2_method_16_code 108 = .ok (.iadd, 1) := by decide +kernel
theorem d_Ex_find_109 : decode prog_2_method_16_code 109 = .ok (.putfield 27, 3) := by decide +kernel
theorem d_Ex_find_112 : decode prog_2_method_16_code 112 = .ok (.return_, 1) := by decide +kernel
def f_Ex_find_L5 : Nat → cs_Mem → Int32 → Int32 → cs_Mem
  | 0, M, y1, y2 => M
  | fuel + 1, M, y1, y2 =>
    if y2 ≤ 0 then
      if y2 ≤ 0 then
        if (M 55 4) < (nI (cs_ln M 61)) then
          cs_bd (cs_up M 61 (va_cpy (M 61) (M 61) y2.toNatClampNeg (y2 + 1).toNatClampNeg ((M 55 4) - y2).toNatClampNeg)) fun (N10 : cs_Mem) =>
          cs_bd (cs_up N10 61 (upd (N10 61) y2.toNatClampNeg y1)) fun (N12 : cs_Mem) =>
          cs_bd (cs_up N12 55 (upd (N12 55) 4 ((N12 55 4) + 1))) fun (N13 : cs_Mem) =>
          N13
        else
          cs_bd (cs_grow M (2 * cs_ln M 61)) fun (N16 : cs_Mem) =>
          cs_bd (cs_up N16 61 (va_cpy (N16 61) (N16 61) y2.toNatClampNeg (y2 + 1).toNatClampNeg ((N16 55 4) - y2).toNatClampNeg)) fun (N22 : cs_Mem) =>
          cs_bd (cs_up N22 61 (upd (N22 61) y2.toNatClampNeg y1)) fun (N24 : cs_Mem) =>
          cs_bd (cs_up N24 55 (upd (N24 55) 4 ((N24 55 4) + 1))) fun (N25 : cs_Mem) =>
          N25
      else
        if (M 61 (y2 - 1).toNatClampNeg) = y1 then
          M
        else
          if (M 55 4) < (nI (cs_ln M 61)) then
            cs_bd (cs_up M 61 (va_cpy (M 61) (M 61) y2.toNatClampNeg (y2 + 1).toNatClampNeg ((M 55 4) - y2).toNatClampNeg)) fun (N34 : cs_Mem) =>
            cs_bd (cs_up N34 61 (upd (N34 61) y2.toNatClampNeg y1)) fun (N36 : cs_Mem) =>
            cs_bd (cs_up N36 55 (upd (N36 55) 4 ((N36 55 4) + 1))) fun (N37 : cs_Mem) =>
            N37
          else
            cs_bd (cs_grow M (2 * cs_ln M 61)) fun (N40 : cs_Mem) =>
            cs_bd (cs_up N40 61 (va_cpy (N40 61) (N40 61) y2.toNatClampNeg (y2 + 1).toNatClampNeg ((N40 55 4) - y2).toNatClampNeg)) fun (N46 : cs_Mem) =>
            cs_bd (cs_up N46 61 (upd (N46 61) y2.toNatClampNeg y1)) fun (N48 : cs_Mem) =>
            cs_bd (cs_up N48 55 (upd (N48 55) 4 ((N48 55 4) + 1))) fun (N49 : cs_Mem) =>
            N49
    else
      if (M 61 (y2 - 1).toNatClampNeg) ≤ y1 then
        if y2 ≤ 0 then
          if (M 55 4) < (nI (cs_ln M 61)) then
            cs_bd (cs_up M 61 (va_cpy (M 61) (M 61) y2.toNatClampNeg (y2 + 1).toNatClampNeg ((M 55 4) - y2).toNatClampNeg)) fun (N59 : cs_Mem) =>
            cs_bd (cs_up N59 61 (upd (N59 61) y2.toNatClampNeg y1)) fun (N61 : cs_Mem) =>
            cs_bd (cs_up N61 55 (upd (N61 55) 4 ((N61 55 4) + 1))) fun (N62 : cs_Mem) =>
            N62
          else
            cs_bd (cs_grow M (2 * cs_ln M 61)) fun (N65 : cs_Mem) =>
            cs_bd (cs_up N65 61 (va_cpy (N65 61) (N65 61) y2.toNatClampNeg (y2 + 1).toNatClampNeg ((N65 55 4) - y2).toNatClampNeg)) fun (N71 : cs_Mem) =>
            cs_bd (cs_up N71 61 (upd (N71 61) y2.toNatClampNeg y1)) fun (N73 : cs_Mem) =>
            cs_bd (cs_up N73 55 (upd (N73 55) 4 ((N73 55 4) + 1))) fun (N74 : cs_Mem) =>
            N74
        else
          if (M 61 (y2 - 1).toNatClampNeg) = y1 then
            M
          else
            if (M 55 4) < (nI (cs_ln M 61)) then
              cs_bd (cs_up M 61 (va_cpy (M 61) (M 61) y2.toNatClampNeg (y2 + 1).toNatClampNeg ((M 55 4) - y2).toNatClampNeg)) fun (N83 : cs_Mem) =>
              cs_bd (cs_up N83 61 (upd (N83 61) y2.toNatClampNeg y1)) fun (N85 : cs_Mem) =>
              cs_bd (cs_up N85 55 (upd (N85 55) 4 ((N85 55 4) + 1))) fun (N86 : cs_Mem) =>
              N86
            else
              cs_bd (cs_grow M (2 * cs_ln M 61)) fun (N89 : cs_Mem) =>
              cs_bd (cs_up N89 61 (va_cpy (N89 61) (N89 61) y2.toNatClampNeg (y2 + 1).toNatClampNeg ((N89 55 4) - y2).toNatClampNeg)) fun (N95 : cs_Mem) =>
              cs_bd (cs_up N95 61 (upd (N95 61) y2.toNatClampNeg y1)) fun (N97 : cs_Mem) =>
              cs_bd (cs_up N97 55 (upd (N97 55) 4 ((N97 55 4) + 1))) fun (N98 : cs_Mem) =>
              N98
      else
        cs_bd (y2 + (-1)) fun (z99 : Int32) =>
        f_Ex_find_L5 fuel M y1 z99
def pre_Ex_find_L5 : Nat → cs_Mem → Int32 → Int32 → Prop
  | 0, _, _, _ => False
  | fuel + 1, M, y1, y2 =>
    (y2 ≤ 0 →
      (y2 ≤ 0 →
        ((M 55 4) < (nI (cs_ln M 61)) →
          (¬ (y2 : Int32) < 0) ∧
          (¬ ((y2 + 1) : Int32) < 0) ∧
          (¬ (((M 55 4) - y2) : Int32) < 0) ∧
          (y2.toNatClampNeg + ((M 55 4) - y2).toNatClampNeg ≤ cs_ln M 61) ∧
          ((y2 + 1).toNatClampNeg + ((M 55 4) - y2).toNatClampNeg ≤ cs_ln M 61) ∧
          cs_bd (cs_up M 61 (va_cpy (M 61) (M 61) y2.toNatClampNeg (y2 + 1).toNatClampNeg ((M 55 4) - y2).toNatClampNeg)) fun (N10 : cs_Mem) =>
          (vp_in y2 (cs_ln N10 61)) ∧
          True
        ) ∧ (¬ ((M 55 4) < (nI (cs_ln M 61))) →
          (cs_ln M 61 ≤ 50000000) ∧
          (0 < cs_ln M 61) ∧
          cs_bd (cs_grow M (2 * cs_ln M 61)) fun (N16 : cs_Mem) =>
          (¬ (y2 : Int32) < 0) ∧
          (¬ ((y2 + 1) : Int32) < 0) ∧
          (¬ (((N16 55 4) - y2) : Int32) < 0) ∧
          (y2.toNatClampNeg + ((N16 55 4) - y2).toNatClampNeg ≤ cs_ln N16 61) ∧
          ((y2 + 1).toNatClampNeg + ((N16 55 4) - y2).toNatClampNeg ≤ cs_ln N16 61) ∧
          cs_bd (cs_up N16 61 (va_cpy (N16 61) (N16 61) y2.toNatClampNeg (y2 + 1).toNatClampNeg ((N16 55 4) - y2).toNatClampNeg)) fun (N22 : cs_Mem) =>
          (vp_in y2 (cs_ln N22 61)) ∧
          True
        )
      ) ∧ (¬ (y2 ≤ 0) →
        (vp_in (y2 - 1) (cs_ln M 61)) ∧
        ((M 61 (y2 - 1).toNatClampNeg) = y1 →
          True
        ) ∧ (¬ ((M 61 (y2 - 1).toNatClampNeg) = y1) →
          ((M 55 4) < (nI (cs_ln M 61)) →
            (¬ (y2 : Int32) < 0) ∧
            (¬ ((y2 + 1) : Int32) < 0) ∧
            (¬ (((M 55 4) - y2) : Int32) < 0) ∧
            (y2.toNatClampNeg + ((M 55 4) - y2).toNatClampNeg ≤ cs_ln M 61) ∧
            ((y2 + 1).toNatClampNeg + ((M 55 4) - y2).toNatClampNeg ≤ cs_ln M 61) ∧
            cs_bd (cs_up M 61 (va_cpy (M 61) (M 61) y2.toNatClampNeg (y2 + 1).toNatClampNeg ((M 55 4) - y2).toNatClampNeg)) fun (N34 : cs_Mem) =>
            (vp_in y2 (cs_ln N34 61)) ∧
            True
          ) ∧ (¬ ((M 55 4) < (nI (cs_ln M 61))) →
            (cs_ln M 61 ≤ 50000000) ∧
            (0 < cs_ln M 61) ∧
            cs_bd (cs_grow M (2 * cs_ln M 61)) fun (N40 : cs_Mem) =>
            (¬ (y2 : Int32) < 0) ∧
            (¬ ((y2 + 1) : Int32) < 0) ∧
            (¬ (((N40 55 4) - y2) : Int32) < 0) ∧
            (y2.toNatClampNeg + ((N40 55 4) - y2).toNatClampNeg ≤ cs_ln N40 61) ∧
            ((y2 + 1).toNatClampNeg + ((N40 55 4) - y2).toNatClampNeg ≤ cs_ln N40 61) ∧
            cs_bd (cs_up N40 61 (va_cpy (N40 61) (N40 61) y2.toNatClampNeg (y2 + 1).toNatClampNeg ((N40 55 4) - y2).toNatClampNeg)) fun (N46 : cs_Mem) =>
            (vp_in y2 (cs_ln N46 61)) ∧
            True
          )
        )
      )
    ) ∧ (¬ (y2 ≤ 0) →
      (vp_in (y2 - 1) (cs_ln M 61)) ∧
      ((M 61 (y2 - 1).toNatClampNeg) ≤ y1 →
        (y2 ≤ 0 →
          ((M 55 4) < (nI (cs_ln M 61)) →
            (¬ (y2 : Int32) < 0) ∧
            (¬ ((y2 + 1) : Int32) < 0) ∧
            (¬ (((M 55 4) - y2) : Int32) < 0) ∧
            (y2.toNatClampNeg + ((M 55 4) - y2).toNatClampNeg ≤ cs_ln M 61) ∧
            ((y2 + 1).toNatClampNeg + ((M 55 4) - y2).toNatClampNeg ≤ cs_ln M 61) ∧
            cs_bd (cs_up M 61 (va_cpy (M 61) (M 61) y2.toNatClampNeg (y2 + 1).toNatClampNeg ((M 55 4) - y2).toNatClampNeg)) fun (N59 : cs_Mem) =>
            (vp_in y2 (cs_ln N59 61)) ∧
            True
          ) ∧ (¬ ((M 55 4) < (nI (cs_ln M 61))) →
            (cs_ln M 61 ≤ 50000000) ∧
            (0 < cs_ln M 61) ∧
            cs_bd (cs_grow M (2 * cs_ln M 61)) fun (N65 : cs_Mem) =>
            (¬ (y2 : Int32) < 0) ∧
            (¬ ((y2 + 1) : Int32) < 0) ∧
            (¬ (((N65 55 4) - y2) : Int32) < 0) ∧
            (y2.toNatClampNeg + ((N65 55 4) - y2).toNatClampNeg ≤ cs_ln N65 61) ∧
            ((y2 + 1).toNatClampNeg + ((N65 55 4) - y2).toNatClampNeg ≤ cs_ln N65 61) ∧
            cs_bd (cs_up N65 61 (va_cpy (N65 61) (N65 61) y2.toNatClampNeg (y2 + 1).toNatClampNeg ((N65 55 4) - y2).toNatClampNeg)) fun (N71 : cs_Mem) =>
            (vp_in y2 (cs_ln N71 61)) ∧
            True
          )
        ) ∧ (¬ (y2 ≤ 0) →
          (vp_in (y2 - 1) (cs_ln M 61)) ∧
          ((M 61 (y2 - 1).toNatClampNeg) = y1 →
            True
          ) ∧ (¬ ((M 61 (y2 - 1).toNatClampNeg) = y1) →
            ((M 55 4) < (nI (cs_ln M 61)) →
              (¬ (y2 : Int32) < 0) ∧
              (¬ ((y2 + 1) : Int32) < 0) ∧
              (¬ (((M 55 4) - y2) : Int32) < 0) ∧
              (y2.toNatClampNeg + ((M 55 4) - y2).toNatClampNeg ≤ cs_ln M 61) ∧
              ((y2 + 1).toNatClampNeg + ((M 55 4) - y2).toNatClampNeg ≤ cs_ln M 61) ∧
              cs_bd (cs_up M 61 (va_cpy (M 61) (M 61) y2.toNatClampNeg (y2 + 1).toNatClampNeg ((M 55 4) - y2).toNatClampNeg)) fun (N83 : cs_Mem) =>
              (vp_in y2 (cs_ln N83 61)) ∧
              True
            ) ∧ (¬ ((M 55 4) < (nI (cs_ln M 61))) →
              (cs_ln M 61 ≤ 50000000) ∧
              (0 < cs_ln M 61) ∧
              cs_bd (cs_grow M (2 * cs_ln M 61)) fun (N89 : cs_Mem) =>
              (¬ (y2 : Int32) < 0) ∧
              (¬ ((y2 + 1) : Int32) < 0) ∧
              (¬ (((N89 55 4) - y2) : Int32) < 0) ∧
              (y2.toNatClampNeg + ((N89 55 4) - y2).toNatClampNeg ≤ cs_ln N89 61) ∧
              ((y2 + 1).toNatClampNeg + ((N89 55 4) - y2).toNatClampNeg ≤ cs_ln N89 61) ∧
              cs_bd (cs_up N89 61 (va_cpy (N89 61) (N89 61) y2.toNatClampNeg (y2 + 1).toNatClampNeg ((N89 55 4) - y2).toNatClampNeg)) fun (N95 : cs_Mem) =>
              (vp_in y2 (cs_ln N95 61)) ∧
              True
            )
          )
        )
      ) ∧ (¬ ((M 61 (y2 - 1).toNatClampNeg) ≤ y1) →
        cs_bd (y2 + (-1)) fun (z99 : Int32) =>
        pre_Ex_find_L5 fuel M y1 z99
      )
    )
def f_Ex_find (M : cs_Mem) (x1 : Int32) : cs_Mem :=
  cs_bd (M 55 4) fun (z1 : Int32) =>
  f_Ex_find_L5 4000 M x1 z1
def pre_Ex_find (M : cs_Mem) (x1 : Int32) : Prop :=
  cs_bd (M 55 4) fun (z1 : Int32) =>
  pre_Ex_find_L5 4000 M x1 z1
set_option maxHeartbeats 4000000 in
set_option maxRecDepth 100000 in
theorem w_Ex_find_L5 {p : Program} {l : Launch} {e : Env} {s : State} {m : MethodId} {args : Array Value} {below : List Frame} {meth : Method} {c : Code} {D : va_G} {cA : Nat → ClassId} {A : Nat → Prop} {ad0 : Nat → Nat} {L0 : Nat} {F : cs_Mem} (hC : cs_Ctx p s m args c prog_2_method_16_code 3 "ClassStarter$Explorer" D cA A) (hr : meth.sig.returnType = none) (hlk : meth.locks = false) (fuel : Nat) : ∀ (ad : Nat → Nat) (M : cs_Mem) (y1 : Int32) (y2 : Int32) (H : Heap) (locs : List Loc) (ls : Array Slot), cs_Wd D cA ad M A s H locs → lv_has ls 3 [(0, .ref (ad 55)), (1, .int y1), (2, .int y2)] → (∀ i, i ≠ 61 → ad i = ad0 i) → cs_ln M 61 = L0 → pre_Ex_find_L5 fuel M y1 y2 → F = f_Ex_find_L5 fuel M y1 y2 → W p l e ({ frames := 2, cells := cs_gc L0 (cs_ln F 61), slots := cs_gs L0 (cs_ln F 61), locals := 100 }) s m args below meth c H locs 0 0 (MQ below (cs_QvG D cA ad0 F A) args s (cs_gc L0 (cs_ln F 61)) (cs_gs L0 (cs_ln F 61)) A) (F0 m 5 ls []) := by
  have hx := hC.1
  have hb := hC.2.1
  induction fuel with
  | zero =>
    intro ad M y1 y2 H locs ls hw hl  hab0 hL hp hf
    exact absurd hp (by simp [pre_Ex_find_L5])
  | succ fuel ih =>
    intro ad M y1 y2 H locs ls hw hl  hab0 hL hp hf
    rw [f_Ex_find_L5] at hf
    rw [pre_Ex_find_L5] at hp
    refine lv_iload_n hx hb d_Ex_find_5 rfl (lv_at hl 2 rfl) ?_
    refine lv_if_le (tgt := 27) hx hb d_Ex_find_6 (by decide) (fun c2 => ?_) (fun c2 => ?_)
    · have hp := hp.1 c2
      have hf := hf.trans (if_pos c2)
      refine lv_iload_n hx hb d_Ex_find_27 rfl (lv_at hl 2 rfl) ?_
      refine lv_if_le (tgt := 44) hx hb d_Ex_find_28 (by decide) (fun c3 => ?_) (fun c3 => ?_)
      · have hp := hp.1 c3
        have hf := hf.trans (if_pos c3)
        refine lv_aload_n hx hb d_Ex_find_44 rfl (lv_at hl 0 rfl) ?_
        refine gf_Ex_foundCount hC hw is_55 wd_150 d_Ex_find_45 ?_
        refine lv_aload_n hx hb d_Ex_find_48 rfl (lv_at hl 0 rfl) ?_
        refine gf_Ex_found hC hw is_55 wd_149 d_Ex_find_49 ?_
        refine cs_ialen hC hw is_61 d_Ex_find_52 ?_
        refine lv_icmp_lt (tgt := 74) hx hb d_Ex_find_53 (by decide) (fun c4 => ?_) (fun c4 => ?_)
        · have hp := hp.1 c4
          have hf := hf.trans (if_pos c4)
          refine lv_aload_n hx hb d_Ex_find_74 rfl (lv_at hl 0 rfl) ?_
          refine gf_Ex_found hC hw is_55 wd_149 d_Ex_find_75 ?_
          refine lv_iload_n hx hb d_Ex_find_78 rfl (lv_at hl 2 rfl) ?_
          refine lv_aload_n hx hb d_Ex_find_79 rfl (lv_at hl 0 rfl) ?_
          refine gf_Ex_found hC hw is_55 wd_149 d_Ex_find_80 ?_
          refine lv_iload_n hx hb d_Ex_find_83 rfl (lv_at hl 2 rfl) ?_
          refine lv_iconst (v := 1) hx hb d_Ex_find_84 (by decide) ?_
          refine lv_iadd hx hb d_Ex_find_85 ?_
          refine lv_aload_n hx hb d_Ex_find_86 rfl (lv_at hl 0 rfl) ?_
          refine gf_Ex_foundCount hC hw is_55 wd_150 d_Ex_find_87 ?_
          refine lv_iload_n hx hb d_Ex_find_90 rfl (lv_at hl 2 rfl) ?_
          refine lv_isub hx hb d_Ex_find_91 ?_
          have o5 := hp.1
          have hp := hp.2
          have o6 := hp.1
          have hp := hp.2
          have o7 := hp.1
          have hp := hp.2
          have o8 := hp.1
          have hp := hp.2
          have o9 := hp.1
          have hp := hp.2
          refine cs_icpy hC hw hl.1 is_61 is_61 wd_498 cs_acN cs_acS cs_acI o5 o6 o7 o8 o9 (Nat.le_of_ble_eq_true rfl) (Nat.le_of_ble_eq_true rfl) d_Ex_find_92 (fun N10 H locs eN10 hw => ?_)
          have hp := cs_bdP eN10 hp
          have hf := cs_bdE eN10 hf
          refine lv_aload_n hx hb d_Ex_find_95 rfl (lv_at hl 0 rfl) ?_
          refine gf_Ex_found hC hw is_55 wd_149 d_Ex_find_96 ?_
          refine lv_iload_n hx hb d_Ex_find_99 rfl (lv_at hl 2 rfl) ?_
          refine lv_iload_n hx hb d_Ex_find_100 rfl (lv_at hl 1 rfl) ?_
          have o11 := hp.1
          have hp := hp.2
          refine cs_iast hC hw is_61 o11 d_Ex_find_101 (fun N12 H locs eN12 hw => ?_)
          have hf := cs_bdE eN12 hf
          refine lv_aload_n hx hb d_Ex_find_102 rfl (lv_at hl 0 rfl) ?_
          refine lv_dup hx hb d_Ex_find_103 rfl ?_
          refine gf_Ex_foundCount hC hw is_55 wd_150 d_Ex_find_104 ?_
          refine lv_iconst (v := 1) hx hb d_Ex_find_107 (by decide) ?_
          refine lv_iadd hx hb d_Ex_find_108 ?_
          refine pf_Ex_foundCount hC hw is_55 wd_150 d_Ex_find_109 (fun N13 H locs eN13 hw => ?_)
          have hf := cs_bdE eN13 hf
          exact cs_vretG hC hw hr hlk hf hab0 (by first | exact hkk | exact ⟨Nat.zero_le _, Nat.zero_le _⟩) d_Ex_find_112
        · have hp := hp.2 c4
          have hf := hf.trans (if_neg c4)
          refine lv_aload_n hx hb d_Ex_find_56 rfl (lv_at hl 0 rfl) ?_
          refine lv_aload_n hx hb d_Ex_find_57 rfl (lv_at hl 0 rfl) ?_
          refine gf_Ex_found hC hw is_55 wd_149 d_Ex_find_58 ?_
          refine lv_iconst (v := 2) hx hb d_Ex_find_61 (by decide) ?_
          refine lv_aload_n hx hb d_Ex_find_62 rfl (lv_at hl 0 rfl) ?_
          refine gf_Ex_found hC hw is_55 wd_149 d_Ex_find_63 ?_
          refine cs_ialen hC hw is_61 d_Ex_find_66 ?_
          refine lv_imul hx hb d_Ex_find_67 ?_
          have o14 := hp.1
          have hp := hp.2
          have o15 := hp.1
          have hp := hp.2
          have hF61 : cs_ln F 61 = 2 * cs_ln M 61 := by rw [hf]; simp only [cs_bd_eq]; rw [cs_ln_up (by decide), cs_ln_up (by decide), cs_ln_up (by decide)]; exact cs_grow_ln _ (by omega)
          refine cs_growstep' (rest := []) hC hw hl.1 o14 o15 cw_copy wd_149 ⟨Nat.le_of_ble_eq_true rfl, Nat.le_of_ble_eq_true rfl⟩ (Nat.le_of_ble_eq_true rfl) (by rw [hF61, hL]; exact ⟨cs_gc_dbl (hL ▸ o15), cs_gs_dbl _⟩) d_Ex_find_68 d_Ex_find_71 (fun ad N16 H locs eN16 hab hw => ?_)
          have hp := cs_bdP eN16 hp
          have hf := cs_bdE eN16 hf
          have hl : lv_has ls 3 [(0, .ref (ad 55)), (1, .int y1), (2, .int y2)] := by rw [hab 55 (by decide)]; exact hl
          have hab0 := fun i h => (hab i h).trans (hab0 i h)
          have hkk : 0 + 1 ≤ cs_gc L0 (cs_ln F 61) ∧ 0 + 2 * cs_ln M 61 ≤ cs_gs L0 (cs_ln F 61) := by rw [hF61, hL]; exact ⟨cs_gc_dbl (hL ▸ o15), cs_gs_dbl _⟩
          refine lv_aload_n hx hb d_Ex_find_74 rfl (lv_at hl 0 rfl) ?_
          refine gf_Ex_found hC hw is_55 wd_149 d_Ex_find_75 ?_
          refine lv_iload_n hx hb d_Ex_find_78 rfl (lv_at hl 2 rfl) ?_
          refine lv_aload_n hx hb d_Ex_find_79 rfl (lv_at hl 0 rfl) ?_
          refine gf_Ex_found hC hw is_55 wd_149 d_Ex_find_80 ?_
          refine lv_iload_n hx hb d_Ex_find_83 rfl (lv_at hl 2 rfl) ?_
          refine lv_iconst (v := 1) hx hb d_Ex_find_84 (by decide) ?_
          refine lv_iadd hx hb d_Ex_find_85 ?_
          refine lv_aload_n hx hb d_Ex_find_86 rfl (lv_at hl 0 rfl) ?_
          refine gf_Ex_foundCount hC hw is_55 wd_150 d_Ex_find_87 ?_
          refine lv_iload_n hx hb d_Ex_find_90 rfl (lv_at hl 2 rfl) ?_
          refine lv_isub hx hb d_Ex_find_91 ?_
          have o17 := hp.1
          have hp := hp.2
          have o18 := hp.1
          have hp := hp.2
          have o19 := hp.1
          have hp := hp.2
          have o20 := hp.1
          have hp := hp.2
          have o21 := hp.1
          have hp := hp.2
          refine cs_icpy hC hw hl.1 is_61 is_61 wd_498 cs_acN cs_acS cs_acI o17 o18 o19 o20 o21 (Nat.le_of_ble_eq_true rfl) (Nat.le_of_ble_eq_true rfl) d_Ex_find_92 (fun N22 H locs eN22 hw => ?_)
          have hp := cs_bdP eN22 hp
          have hf := cs_bdE eN22 hf
          refine lv_aload_n hx hb d_Ex_find_95 rfl (lv_at hl 0 rfl) ?_
          refine gf_Ex_found hC hw is_55 wd_149 d_Ex_find_96 ?_
          refine lv_iload_n hx hb d_Ex_find_99 rfl (lv_at hl 2 rfl) ?_
          refine lv_iload_n hx hb d_Ex_find_100 rfl (lv_at hl 1 rfl) ?_
          have o23 := hp.1
          have hp := hp.2
          refine cs_iast hC hw is_61 o23 d_Ex_find_101 (fun N24 H locs eN24 hw => ?_)
          have hf := cs_bdE eN24 hf
          refine lv_aload_n hx hb d_Ex_find_102 rfl (lv_at hl 0 rfl) ?_
          refine lv_dup hx hb d_Ex_find_103 rfl ?_
          refine gf_Ex_foundCount hC hw is_55 wd_150 d_Ex_find_104 ?_
          refine lv_iconst (v := 1) hx hb d_Ex_find_107 (by decide) ?_
          refine lv_iadd hx hb d_Ex_find_108 ?_
          refine pf_Ex_foundCount hC hw is_55 wd_150 d_Ex_find_109 (fun N25 H locs eN25 hw => ?_)
          have hf := cs_bdE eN25 hf
          exact cs_vretG hC hw hr hlk hf hab0 (by first | exact hkk | exact ⟨Nat.zero_le _, Nat.zero_le _⟩) d_Ex_find_112
      · have hp := hp.2 c3
        have hf := hf.trans (if_neg c3)
        refine lv_aload_n hx hb d_Ex_find_31 rfl (lv_at hl 0 rfl) ?_
        refine gf_Ex_found hC hw is_55 wd_149 d_Ex_find_32 ?_
        refine lv_iload_n hx hb d_Ex_find_35 rfl (lv_at hl 2 rfl) ?_
        refine lv_iconst (v := 1) hx hb d_Ex_find_36 (by decide) ?_
        refine lv_isub hx hb d_Ex_find_37 ?_
        have o26 := hp.1
        have hp := hp.2
        refine cs_iald hC hw is_61 o26 d_Ex_find_38 ?_
        refine lv_iload_n hx hb d_Ex_find_39 rfl (lv_at hl 1 rfl) ?_
        refine lv_icmp_ne (tgt := 44) hx hb d_Ex_find_40 (by decide) (fun c27 => ?_) (fun c27 => ?_)
        · have hp := hp.2 c27
          have hf := hf.trans (if_neg c27)
          refine lv_aload_n hx hb d_Ex_find_44 rfl (lv_at hl 0 rfl) ?_
          refine gf_Ex_foundCount hC hw is_55 wd_150 d_Ex_find_45 ?_
          refine lv_aload_n hx hb d_Ex_find_48 rfl (lv_at hl 0 rfl) ?_
          refine gf_Ex_found hC hw is_55 wd_149 d_Ex_find_49 ?_
          refine cs_ialen hC hw is_61 d_Ex_find_52 ?_
          refine lv_icmp_lt (tgt := 74) hx hb d_Ex_find_53 (by decide) (fun c28 => ?_) (fun c28 => ?_)
          · have hp := hp.1 c28
            have hf := hf.trans (if_pos c28)
            refine lv_aload_n hx hb d_Ex_find_74 rfl (lv_at hl 0 rfl) ?_
            refine gf_Ex_found hC hw is_55 wd_149 d_Ex_find_75 ?_
            refine lv_iload_n hx hb d_Ex_find_78 rfl (lv_at hl 2 rfl) ?_
            refine lv_aload_n hx hb d_Ex_find_79 rfl (lv_at hl 0 rfl) ?_
            refine gf_Ex_found hC hw is_55 wd_149 d_Ex_find_80 ?_
            refine lv_iload_n hx hb d_Ex_find_83 rfl (lv_at hl 2 rfl) ?_
            refine lv_iconst (v := 1) hx hb d_Ex_find_84 (by decide) ?_
            refine lv_iadd hx hb d_Ex_find_85 ?_
            refine lv_aload_n hx hb d_Ex_find_86 rfl (lv_at hl 0 rfl) ?_
            refine gf_Ex_foundCount hC hw is_55 wd_150 d_Ex_find_87 ?_
            refine lv_iload_n hx hb d_Ex_find_90 rfl (lv_at hl 2 rfl) ?_
            refine lv_isub hx hb d_Ex_find_91 ?_
            have o29 := hp.1
            have hp := hp.2
            have o30 := hp.1
            have hp := hp.2
            have o31 := hp.1
            have hp := hp.2
            have o32 := hp.1
            have hp := hp.2
            have o33 := hp.1
            have hp := hp.2
            refine cs_icpy hC hw hl.1 is_61 is_61 wd_498 cs_acN cs_acS cs_acI o29 o30 o31 o32 o33 (Nat.le_of_ble_eq_true rfl) (Nat.le_of_ble_eq_true rfl) d_Ex_find_92 (fun N34 H locs eN34 hw => ?_)
            have hp := cs_bdP eN34 hp
            have hf := cs_bdE eN34 hf
            refine lv_aload_n hx hb d_Ex_find_95 rfl (lv_at hl 0 rfl) ?_
            refine gf_Ex_found hC hw is_55 wd_149 d_Ex_find_96 ?_
            refine lv_iload_n hx hb d_Ex_find_99 rfl (lv_at hl 2 rfl) ?_
            refine lv_iload_n hx hb d_Ex_find_100 rfl (lv_at hl 1 rfl) ?_
            have o35 := hp.1
            have hp := hp.2
            refine cs_iast hC hw is_61 o35 d_Ex_find_101 (fun N36 H locs eN36 hw => ?_)
            have hf := cs_bdE eN36 hf
            refine lv_aload_n hx hb d_Ex_find_102 rfl (lv_at hl 0 rfl) ?_
            refine lv_dup hx hb d_Ex_find_103 rfl ?_
            refine gf_Ex_foundCount hC hw is_55 wd_150 d_Ex_find_104 ?_
            refine lv_iconst (v := 1) hx hb d_Ex_find_107 (by decide) ?_
            refine lv_iadd hx hb d_Ex_find_108 ?_
            refine pf_Ex_foundCount hC hw is_55 wd_150 d_Ex_find_109 (fun N37 H locs eN37 hw => ?_)
            have hf := cs_bdE eN37 hf
            exact cs_vretG hC hw hr hlk hf hab0 (by first | exact hkk | exact ⟨Nat.zero_le _, Nat.zero_le _⟩) d_Ex_find_112
          · have hp := hp.2 c28
            have hf := hf.trans (if_neg c28)
            refine lv_aload_n hx hb d_Ex_find_56 rfl (lv_at hl 0 rfl) ?_
            refine lv_aload_n hx hb d_Ex_find_57 rfl (lv_at hl 0 rfl) ?_
            refine gf_Ex_found hC hw is_55 wd_149 d_Ex_find_58 ?_
            refine lv_iconst (v := 2) hx hb d_Ex_find_61 (by decide) ?_
            refine lv_aload_n hx hb d_Ex_find_62 rfl (lv_at hl 0 rfl) ?_
            refine gf_Ex_found hC hw is_55 wd_149 d_Ex_find_63 ?_
            refine cs_ialen hC hw is_61 d_Ex_find_66 ?_
            refine lv_imul hx hb d_Ex_find_67 ?_
            have o38 := hp.1
            have hp := hp.2
            have o39 := hp.1
            have hp := hp.2
            have hF61 : cs_ln F 61 = 2 * cs_ln M 61 := by rw [hf]; simp only [cs_bd_eq]; rw [cs_ln_up (by decide), cs_ln_up (by decide), cs_ln_up (by decide)]; exact cs_grow_ln _ (by omega)
            refine cs_growstep' (rest := []) hC hw hl.1 o38 o39 cw_copy wd_149 ⟨Nat.le_of_ble_eq_true rfl, Nat.le_of_ble_eq_true rfl⟩ (Nat.le_of_ble_eq_true rfl) (by rw [hF61, hL]; exact ⟨cs_gc_dbl (hL ▸ o39), cs_gs_dbl _⟩) d_Ex_find_68 d_Ex_find_71 (fun ad N40 H locs eN40 hab hw => ?_)
            have hp := cs_bdP eN40 hp
            have hf := cs_bdE eN40 hf
            have hl : lv_has ls 3 [(0, .ref (ad 55)), (1, .int y1), (2, .int y2)] := by rw [hab 55 (by decide)]; exact hl
            have hab0 := fun i h => (hab i h).trans (hab0 i h)
            have hkk : 0 + 1 ≤ cs_gc L0 (cs_ln F 61) ∧ 0 + 2 * cs_ln M 61 ≤ cs_gs L0 (cs_ln F 61) := by rw [hF61, hL]; exact ⟨cs_gc_dbl (hL ▸ o39), cs_gs_dbl _⟩
            refine lv_aload_n hx hb d_Ex_find_74 rfl (lv_at hl 0 rfl) ?_
            refine gf_Ex_found hC hw is_55 wd_149 d_Ex_find_75 ?_
            refine lv_iload_n hx hb d_Ex_find_78 rfl (lv_at hl 2 rfl) ?_
            refine lv_aload_n hx hb d_Ex_find_79 rfl (lv_at hl 0 rfl) ?_
            refine gf_Ex_found hC hw is_55 wd_149 d_Ex_find_80 ?_
            refine lv_iload_n hx hb d_Ex_find_83 rfl (lv_at hl 2 rfl) ?_
            refine lv_iconst (v := 1) hx hb d_Ex_find_84 (by decide) ?_
            refine lv_iadd hx hb d_Ex_find_85 ?_
            refine lv_aload_n hx hb d_Ex_find_86 rfl (lv_at hl 0 rfl) ?_
            refine gf_Ex_foundCount hC hw is_55 wd_150 d_Ex_find_87 ?_
            refine lv_iload_n hx hb d_Ex_find_90 rfl (lv_at hl 2 rfl) ?_
            refine lv_isub hx hb d_Ex_find_91 ?_
            have o41 := hp.1
            have hp := hp.2
            have o42 := hp.1
            have hp := hp.2
            have o43 := hp.1
            have hp := hp.2
            have o44 := hp.1
            have hp := hp.2
            have o45 := hp.1
            have hp := hp.2
            refine cs_icpy hC hw hl.1 is_61 is_61 wd_498 cs_acN cs_acS cs_acI o41 o42 o43 o44 o45 (Nat.le_of_ble_eq_true rfl) (Nat.le_of_ble_eq_true rfl) d_Ex_find_92 (fun N46 H locs eN46 hw => ?_)
            have hp := cs_bdP eN46 hp
            have hf := cs_bdE eN46 hf
            refine lv_aload_n hx hb d_Ex_find_95 rfl (lv_at hl 0 rfl) ?_
            refine gf_Ex_found hC hw is_55 wd_149 d_Ex_find_96 ?_
            refine lv_iload_n hx hb d_Ex_find_99 rfl (lv_at hl 2 rfl) ?_
            refine lv_iload_n hx hb d_Ex_find_100 rfl (lv_at hl 1 rfl) ?_
            have o47 := hp.1
            have hp := hp.2
            refine cs_iast hC hw is_61 o47 d_Ex_find_101 (fun N48 H locs eN48 hw => ?_)
            have hf := cs_bdE eN48 hf
            refine lv_aload_n hx hb d_Ex_find_102 rfl (lv_at hl 0 rfl) ?_
            refine lv_dup hx hb d_Ex_find_103 rfl ?_
            refine gf_Ex_foundCount hC hw is_55 wd_150 d_Ex_find_104 ?_
            refine lv_iconst (v := 1) hx hb d_Ex_find_107 (by decide) ?_
            refine lv_iadd hx hb d_Ex_find_108 ?_
            refine pf_Ex_foundCount hC hw is_55 wd_150 d_Ex_find_109 (fun N49 H locs eN49 hw => ?_)
            have hf := cs_bdE eN49 hf
            exact cs_vretG hC hw hr hlk hf hab0 (by first | exact hkk | exact ⟨Nat.zero_le _, Nat.zero_le _⟩) d_Ex_find_112
        · have hp := hp.1 c27
          have hf := hf.trans (if_pos c27)
          exact cs_vretG hC hw hr hlk hf hab0 (by first | exact hkk | exact ⟨Nat.zero_le _, Nat.zero_le _⟩) d_Ex_find_43
    · have hp := hp.2 c2
      have hf := hf.trans (if_neg c2)
      refine lv_aload_n hx hb d_Ex_find_9 rfl (lv_at hl 0 rfl) ?_
      refine gf_Ex_found hC hw is_55 wd_149 d_Ex_find_10 ?_
      refine lv_iload_n hx hb d_Ex_find_13 rfl (lv_at hl 2 rfl) ?_
      refine lv_iconst (v := 1) hx hb d_Ex_find_14 (by decide) ?_
      refine lv_isub hx hb d_Ex_find_15 ?_
      have o50 := hp.1
      have hp := hp.2
      refine cs_iald hC hw is_61 o50 d_Ex_find_16 ?_
      refine lv_iload_n hx hb d_Ex_find_17 rfl (lv_at hl 1 rfl) ?_
      refine lv_icmp_le (tgt := 27) hx hb d_Ex_find_18 (by decide) (fun c51 => ?_) (fun c51 => ?_)
      · have hp := hp.1 c51
        have hf := hf.trans (if_pos c51)
        refine lv_iload_n hx hb d_Ex_find_27 rfl (lv_at hl 2 rfl) ?_
        refine lv_if_le (tgt := 44) hx hb d_Ex_find_28 (by decide) (fun c52 => ?_) (fun c52 => ?_)
        · have hp := hp.1 c52
          have hf := hf.trans (if_pos c52)
          refine lv_aload_n hx hb d_Ex_find_44 rfl (lv_at hl 0 rfl) ?_
          refine gf_Ex_foundCount hC hw is_55 wd_150 d_Ex_find_45 ?_
          refine lv_aload_n hx hb d_Ex_find_48 rfl (lv_at hl 0 rfl) ?_
          refine gf_Ex_found hC hw is_55 wd_149 d_Ex_find_49 ?_
          refine cs_ialen hC hw is_61 d_Ex_find_52 ?_
          refine lv_icmp_lt (tgt := 74) hx hb d_Ex_find_53 (by decide) (fun c53 => ?_) (fun c53 => ?_)
          · have hp := hp.1 c53
            have hf := hf.trans (if_pos c53)
            refine lv_aload_n hx hb d_Ex_find_74 rfl (lv_at hl 0 rfl) ?_
            refine gf_Ex_found hC hw is_55 wd_149 d_Ex_find_75 ?_
            refine lv_iload_n hx hb d_Ex_find_78 rfl (lv_at hl 2 rfl) ?_
            refine lv_aload_n hx hb d_Ex_find_79 rfl (lv_at hl 0 rfl) ?_
            refine gf_Ex_found hC hw is_55 wd_149 d_Ex_find_80 ?_
            refine lv_iload_n hx hb d_Ex_find_83 rfl (lv_at hl 2 rfl) ?_
            refine lv_iconst (v := 1) hx hb d_Ex_find_84 (by decide) ?_
            refine lv_iadd hx hb d_Ex_find_85 ?_
            refine lv_aload_n hx hb d_Ex_find_86 rfl (lv_at hl 0 rfl) ?_
            refine gf_Ex_foundCount hC hw is_55 wd_150 d_Ex_find_87 ?_
            refine lv_iload_n hx hb d_Ex_find_90 rfl (lv_at hl 2 rfl) ?_
            refine lv_isub hx hb d_Ex_find_91 ?_
            have o54 := hp.1
            have hp := hp.2
            have o55 := hp.1
            have hp := hp.2
            have o56 := hp.1
            have hp := hp.2
            have o57 := hp.1
            have hp := hp.2
            have o58 := hp.1
            have hp := hp.2
            refine cs_icpy hC hw hl.1 is_61 is_61 wd_498 cs_acN cs_acS cs_acI o54 o55 o56 o57 o58 (Nat.le_of_ble_eq_true rfl) (Nat.le_of_ble_eq_true rfl) d_Ex_find_92 (fun N59 H locs eN59 hw => ?_)
            have hp := cs_bdP eN59 hp
            have hf := cs_bdE eN59 hf
            refine lv_aload_n hx hb d_Ex_find_95 rfl (lv_at hl 0 rfl) ?_
            refine gf_Ex_found hC hw is_55 wd_149 d_Ex_find_96 ?_
            refine lv_iload_n hx hb d_Ex_find_99 rfl (lv_at hl 2 rfl) ?_
            refine lv_iload_n hx hb d_Ex_find_100 rfl (lv_at hl 1 rfl) ?_
            have o60 := hp.1
            have hp := hp.2
            refine cs_iast hC hw is_61 o60 d_Ex_find_101 (fun N61 H locs eN61 hw => ?_)
            have hf := cs_bdE eN61 hf
            refine lv_aload_n hx hb d_Ex_find_102 rfl (lv_at hl 0 rfl) ?_
            refine lv_dup hx hb d_Ex_find_103 rfl ?_
            refine gf_Ex_foundCount hC hw is_55 wd_150 d_Ex_find_104 ?_
            refine lv_iconst (v := 1) hx hb d_Ex_find_107 (by decide) ?_
            refine lv_iadd hx hb d_Ex_find_108 ?_
            refine pf_Ex_foundCount hC hw is_55 wd_150 d_Ex_find_109 (fun N62 H locs eN62 hw => ?_)
            have hf := cs_bdE eN62 hf
            exact cs_vretG hC hw hr hlk hf hab0 (by first | exact hkk | exact ⟨Nat.zero_le _, Nat.zero_le _⟩) d_Ex_find_112
          · have hp := hp.2 c53
            have hf := hf.trans (if_neg c53)
            refine lv_aload_n hx hb d_Ex_find_56 rfl (lv_at hl 0 rfl) ?_
            refine lv_aload_n hx hb d_Ex_find_57 rfl (lv_at hl 0 rfl) ?_
            refine gf_Ex_found hC hw is_55 wd_149 d_Ex_find_58 ?_
            refine lv_iconst (v := 2) hx hb d_Ex_find_61 (by decide) ?_
            refine lv_aload_n hx hb d_Ex_find_62 rfl (lv_at hl 0 rfl) ?_
            refine gf_Ex_found hC hw is_55 wd_149 d_Ex_find_63 ?_
            refine cs_ialen hC hw is_61 d_Ex_find_66 ?_
            refine lv_imul hx hb d_Ex_find_67 ?_
            have o63 := hp.1
            have hp := hp.2
            have o64 := hp.1
            have hp := hp.2
            have hF61 : cs_ln F 61 = 2 * cs_ln M 61 := by rw [hf]; simp only [cs_bd_eq]; rw [cs_ln_up (by decide), cs_ln_up (by decide), cs_ln_up (by decide)]; exact cs_grow_ln _ (by omega)
            refine cs_growstep' (rest := []) hC hw hl.1 o63 o64 cw_copy wd_149 ⟨Nat.le_of_ble_eq_true rfl, Nat.le_of_ble_eq_true rfl⟩ (Nat.le_of_ble_eq_true rfl) (by rw [hF61, hL]; exact ⟨cs_gc_dbl (hL ▸ o64), cs_gs_dbl _⟩) d_Ex_find_68 d_Ex_find_71 (fun ad N65 H locs eN65 hab hw => ?_)
            have hp := cs_bdP eN65 hp
            have hf := cs_bdE eN65 hf
            have hl : lv_has ls 3 [(0, .ref (ad 55)), (1, .int y1), (2, .int y2)] := by rw [hab 55 (by decide)]; exact hl
            have hab0 := fun i h => (hab i h).trans (hab0 i h)
            have hkk : 0 + 1 ≤ cs_gc L0 (cs_ln F 61) ∧ 0 + 2 * cs_ln M 61 ≤ cs_gs L0 (cs_ln F 61) := by rw [hF61, hL]; exact ⟨cs_gc_dbl (hL ▸ o64), cs_gs_dbl _⟩
            refine lv_aload_n hx hb d_Ex_find_74 rfl (lv_at hl 0 rfl) ?_
            refine gf_Ex_found hC hw is_55 wd_149 d_Ex_find_75 ?_
            refine lv_iload_n hx hb d_Ex_find_78 rfl (lv_at hl 2 rfl) ?_
            refine lv_aload_n hx hb d_Ex_find_79 rfl (lv_at hl 0 rfl) ?_
            refine gf_Ex_found hC hw is_55 wd_149 d_Ex_find_80 ?_
            refine lv_iload_n hx hb d_Ex_find_83 rfl (lv_at hl 2 rfl) ?_
            refine lv_iconst (v := 1) hx hb d_Ex_find_84 (by decide) ?_
            refine lv_iadd hx hb d_Ex_find_85 ?_
            refine lv_aload_n hx hb d_Ex_find_86 rfl (lv_at hl 0 rfl) ?_
            refine gf_Ex_foundCount hC hw is_55 wd_150 d_Ex_find_87 ?_
            refine lv_iload_n hx hb d_Ex_find_90 rfl (lv_at hl 2 rfl) ?_
            refine lv_isub hx hb d_Ex_find_91 ?_
            have o66 := hp.1
            have hp := hp.2
            have o67 := hp.1
            have hp := hp.2
            have o68 := hp.1
            have hp := hp.2
            have o69 := hp.1
            have hp := hp.2
            have o70 := hp.1
            have hp := hp.2
            refine cs_icpy hC hw hl.1 is_61 is_61 wd_498 cs_acN cs_acS cs_acI o66 o67 o68 o69 o70 (Nat.le_of_ble_eq_true rfl) (Nat.le_of_ble_eq_true rfl) d_Ex_find_92 (fun N71 H locs eN71 hw => ?_)
            have hp := cs_bdP eN71 hp
            have hf := cs_bdE eN71 hf
            refine lv_aload_n hx hb d_Ex_find_95 rfl (lv_at hl 0 rfl) ?_
            refine gf_Ex_found hC hw is_55 wd_149 d_Ex_find_96 ?_
            refine lv_iload_n hx hb d_Ex_find_99 rfl (lv_at hl 2 rfl) ?_
            refine lv_iload_n hx hb d_Ex_find_100 rfl (lv_at hl 1 rfl) ?_
            have o72 := hp.1
            have hp := hp.2
            refine cs_iast hC hw is_61 o72 d_Ex_find_101 (fun N73 H locs eN73 hw => ?_)
            have hf := cs_bdE eN73 hf
            refine lv_aload_n hx hb d_Ex_find_102 rfl (lv_at hl 0 rfl) ?_
            refine lv_dup hx hb d_Ex_find_103 rfl ?_
            refine gf_Ex_foundCount hC hw is_55 wd_150 d_Ex_find_104 ?_
            refine lv_iconst (v := 1) hx hb d_Ex_find_107 (by decide) ?_
            refine lv_iadd hx hb d_Ex_find_108 ?_
            refine pf_Ex_foundCount hC hw is_55 wd_150 d_Ex_find_109 (fun N74 H locs eN74 hw => ?_)
            have hf := cs_bdE eN74 hf
            exact cs_vretG hC hw hr hlk hf hab0 (by first | exact hkk | exact ⟨Nat.zero_le _, Nat.zero_le _⟩) d_Ex_find_112
        · have hp := hp.2 c52
          have hf := hf.trans (if_neg c52)
          refine lv_aload_n hx hb d_Ex_find_31 rfl (lv_at hl 0 rfl) ?_
          refine gf_Ex_found hC hw is_55 wd_149 d_Ex_find_32 ?_
          refine lv_iload_n hx hb d_Ex_find_35 rfl (lv_at hl 2 rfl) ?_
          refine lv_iconst (v := 1) hx hb d_Ex_find_36 (by decide) ?_
          refine lv_isub hx hb d_Ex_find_37 ?_
          have o75 := hp.1
          have hp := hp.2
          refine cs_iald hC hw is_61 o75 d_Ex_find_38 ?_
          refine lv_iload_n hx hb d_Ex_find_39 rfl (lv_at hl 1 rfl) ?_
          refine lv_icmp_ne (tgt := 44) hx hb d_Ex_find_40 (by decide) (fun c76 => ?_) (fun c76 => ?_)
          · have hp := hp.2 c76
            have hf := hf.trans (if_neg c76)
            refine lv_aload_n hx hb d_Ex_find_44 rfl (lv_at hl 0 rfl) ?_
            refine gf_Ex_foundCount hC hw is_55 wd_150 d_Ex_find_45 ?_
            refine lv_aload_n hx hb d_Ex_find_48 rfl (lv_at hl 0 rfl) ?_
            refine gf_Ex_found hC hw is_55 wd_149 d_Ex_find_49 ?_
            refine cs_ialen hC hw is_61 d_Ex_find_52 ?_
            refine lv_icmp_lt (tgt := 74) hx hb d_Ex_find_53 (by decide) (fun c77 => ?_) (fun c77 => ?_)
            · have hp := hp.1 c77
              have hf := hf.trans (if_pos c77)
              refine lv_aload_n hx hb d_Ex_find_74 rfl (lv_at hl 0 rfl) ?_
              refine gf_Ex_found hC hw is_55 wd_149 d_Ex_find_75 ?_
              refine lv_iload_n hx hb d_Ex_find_78 rfl (lv_at hl 2 rfl) ?_
              refine lv_aload_n hx hb d_Ex_find_79 rfl (lv_at hl 0 rfl) ?_
              refine gf_Ex_found hC hw is_55 wd_149 d_Ex_find_80 ?_
              refine lv_iload_n hx hb d_Ex_find_83 rfl (lv_at hl 2 rfl) ?_
              refine lv_iconst (v := 1) hx hb d_Ex_find_84 (by decide) ?_
              refine lv_iadd hx hb d_Ex_find_85 ?_
              refine lv_aload_n hx hb d_Ex_find_86 rfl (lv_at hl 0 rfl) ?_
              refine gf_Ex_foundCount hC hw is_55 wd_150 d_Ex_find_87 ?_
              refine lv_iload_n hx hb d_Ex_find_90 rfl (lv_at hl 2 rfl) ?_
              refine lv_isub hx hb d_Ex_find_91 ?_
              have o78 := hp.1
              have hp := hp.2
              have o79 := hp.1
              have hp := hp.2
              have o80 := hp.1
              have hp := hp.2
              have o81 := hp.1
              have hp := hp.2
              have o82 := hp.1
              have hp := hp.2
              refine cs_icpy hC hw hl.1 is_61 is_61 wd_498 cs_acN cs_acS cs_acI o78 o79 o80 o81 o82 (Nat.le_of_ble_eq_true rfl) (Nat.le_of_ble_eq_true rfl) d_Ex_find_92 (fun N83 H locs eN83 hw => ?_)
              have hp := cs_bdP eN83 hp
              have hf := cs_bdE eN83 hf
              refine lv_aload_n hx hb d_Ex_find_95 rfl (lv_at hl 0 rfl) ?_
              refine gf_Ex_found hC hw is_55 wd_149 d_Ex_find_96 ?_
              refine lv_iload_n hx hb d_Ex_find_99 rfl (lv_at hl 2 rfl) ?_
              refine lv_iload_n hx hb d_Ex_find_100 rfl (lv_at hl 1 rfl) ?_
              have o84 := hp.1
              have hp := hp.2
              refine cs_iast hC hw is_61 o84 d_Ex_find_101 (fun N85 H locs eN85 hw => ?_)
              have hf := cs_bdE eN85 hf
              refine lv_aload_n hx hb d_Ex_find_102 rfl (lv_at hl 0 rfl) ?_
              refine lv_dup hx hb d_Ex_find_103 rfl ?_
              refine gf_Ex_foundCount hC hw is_55 wd_150 d_Ex_find_104 ?_
              refine lv_iconst (v := 1) hx hb d_Ex_find_107 (by decide) ?_
              refine lv_iadd hx hb d_Ex_find_108 ?_
              refine pf_Ex_foundCount hC hw is_55 wd_150 d_Ex_find_109 (fun N86 H locs eN86 hw => ?_)
              have hf := cs_bdE eN86 hf
              exact cs_vretG hC hw hr hlk hf hab0 (by first | exact hkk | exact ⟨Nat.zero_le _, Nat.zero_le _⟩) d_Ex_find_112
            · have hp := hp.2 c77
              have hf := hf.trans (if_neg c77)
              refine lv_aload_n hx hb d_Ex_find_56 rfl (lv_at hl 0 rfl) ?_
              refine lv_aload_n hx hb d_Ex_find_57 rfl (lv_at hl 0 rfl) ?_
              refine gf_Ex_found hC hw is_55 wd_149 d_Ex_find_58 ?_
              refine lv_iconst (v := 2) hx hb d_Ex_find_61 (by decide) ?_
              refine lv_aload_n hx hb d_Ex_find_62 rfl (lv_at hl 0 rfl) ?_
              refine gf_Ex_found hC hw is_55 wd_149 d_Ex_find_63 ?_
              refine cs_ialen hC hw is_61 d_Ex_find_66 ?_
              refine lv_imul hx hb d_Ex_find_67 ?_
              have o87 := hp.1
              have hp := hp.2
              have o88 := hp.1
              have hp := hp.2
              have hF61 : cs_ln F 61 = 2 * cs_ln M 61 := by rw [hf]; simp only [cs_bd_eq]; rw [cs_ln_up (by decide), cs_ln_up (by decide), cs_ln_up (by decide)]; exact cs_grow_ln _ (by omega)
              refine cs_growstep' (rest := []) hC hw hl.1 o87 o88 cw_copy wd_149 ⟨Nat.le_of_ble_eq_true rfl, Nat.le_of_ble_eq_true rfl⟩ (Nat.le_of_ble_eq_true rfl) (by rw [hF61, hL]; exact ⟨cs_gc_dbl (hL ▸ o88), cs_gs_dbl _⟩) d_Ex_find_68 d_Ex_find_71 (fun ad N89 H locs eN89 hab hw => ?_)
              have hp := cs_bdP eN89 hp
              have hf := cs_bdE eN89 hf
              have hl : lv_has ls 3 [(0, .ref (ad 55)), (1, .int y1), (2, .int y2)] := by rw [hab 55 (by decide)]; exact hl
              have hab0 := fun i h => (hab i h).trans (hab0 i h)
              have hkk : 0 + 1 ≤ cs_gc L0 (cs_ln F 61) ∧ 0 + 2 * cs_ln M 61 ≤ cs_gs L0 (cs_ln F 61) := by rw [hF61, hL]; exact ⟨cs_gc_dbl (hL ▸ o88), cs_gs_dbl _⟩
              refine lv_aload_n hx hb d_Ex_find_74 rfl (lv_at hl 0 rfl) ?_
              refine gf_Ex_found hC hw is_55 wd_149 d_Ex_find_75 ?_
              refine lv_iload_n hx hb d_Ex_find_78 rfl (lv_at hl 2 rfl) ?_
              refine lv_aload_n hx hb d_Ex_find_79 rfl (lv_at hl 0 rfl) ?_
              refine gf_Ex_found hC hw is_55 wd_149 d_Ex_find_80 ?_
              refine lv_iload_n hx hb d_Ex_find_83 rfl (lv_at hl 2 rfl) ?_
              refine lv_iconst (v := 1) hx hb d_Ex_find_84 (by decide) ?_
              refine lv_iadd hx hb d_Ex_find_85 ?_
              refine lv_aload_n hx hb d_Ex_find_86 rfl (lv_at hl 0 rfl) ?_
              refine gf_Ex_foundCount hC hw is_55 wd_150 d_Ex_find_87 ?_
              refine lv_iload_n hx hb d_Ex_find_90 rfl (lv_at hl 2 rfl) ?_
              refine lv_isub hx hb d_Ex_find_91 ?_
              have o90 := hp.1
              have hp := hp.2
              have o91 := hp.1
              have hp := hp.2
              have o92 := hp.1
              have hp := hp.2
              have o93 := hp.1
              have hp := hp.2
              have o94 := hp.1
              have hp := hp.2
              refine cs_icpy hC hw hl.1 is_61 is_61 wd_498 cs_acN cs_acS cs_acI o90 o91 o92 o93 o94 (Nat.le_of_ble_eq_true rfl) (Nat.le_of_ble_eq_true rfl) d_Ex_find_92 (fun N95 H locs eN95 hw => ?_)
              have hp := cs_bdP eN95 hp
              have hf := cs_bdE eN95 hf
              refine lv_aload_n hx hb d_Ex_find_95 rfl (lv_at hl 0 rfl) ?_
              refine gf_Ex_found hC hw is_55 wd_149 d_Ex_find_96 ?_
              refine lv_iload_n hx hb d_Ex_find_99 rfl (lv_at hl 2 rfl) ?_
              refine lv_iload_n hx hb d_Ex_find_100 rfl (lv_at hl 1 rfl) ?_
              have o96 := hp.1
              have hp := hp.2
              refine cs_iast hC hw is_61 o96 d_Ex_find_101 (fun N97 H locs eN97 hw => ?_)
              have hf := cs_bdE eN97 hf
              refine lv_aload_n hx hb d_Ex_find_102 rfl (lv_at hl 0 rfl) ?_
              refine lv_dup hx hb d_Ex_find_103 rfl ?_
              refine gf_Ex_foundCount hC hw is_55 wd_150 d_Ex_find_104 ?_
              refine lv_iconst (v := 1) hx hb d_Ex_find_107 (by decide) ?_
              refine lv_iadd hx hb d_Ex_find_108 ?_
              refine pf_Ex_foundCount hC hw is_55 wd_150 d_Ex_find_109 (fun N98 H locs eN98 hw => ?_)
              have hf := cs_bdE eN98 hf
              exact cs_vretG hC hw hr hlk hf hab0 (by first | exact hkk | exact ⟨Nat.zero_le _, Nat.zero_le _⟩) d_Ex_find_112
          · have hp := hp.1 c76
            have hf := hf.trans (if_pos c76)
            exact cs_vretG hC hw hr hlk hf hab0 (by first | exact hkk | exact ⟨Nat.zero_le _, Nat.zero_le _⟩) d_Ex_find_43
      · have hp := hp.2 c51
        have hf := hf.trans (if_neg c51)
        obtain ⟨z99, ez99⟩ : ∃ y : Int32, y = y2 + (-1) := ⟨_, rfl⟩
        have hp := cs_bdP ez99 hp
        have hf := cs_bdE ez99 hf
        refine lv_iinc (v := z99) (lv' := [(2, .int z99), (0, .ref (ad 55)), (1, .int y1)]) hx hb d_Ex_find_21 hl (k := 2) rfl (by rw [ez99]; rfl) (by decide) rfl (fun ls hl => ?_)
        refine lv_goto (tgt := 5) hx hb d_Ex_find_24 (by decide) ?_
        exact ih ad M y1 z99 _ _ ls hw (lv_sub hl [1, 2, 0] rfl) hab0 hL hp hf
set_option maxHeartbeats 4000000 in
set_option maxRecDepth 100000 in
theorem c_Ex_find (l : Launch) (D : va_G) (cA : Nat → ClassId) (ad : Nat → Nat) (M : cs_Mem) (x1 : Int32) (hp : pre_Ex_find M x1) : cs_CvG l ⟨"ClassStarter$Explorer", "find", "(I)V"⟩ prog_2_method_16_code 3 none 2 100 (cs_gc (cs_ln M 61) (cs_ln (f_Ex_find M x1) 61)) (cs_gs (cs_ln M 61) (cs_ln (f_Ex_find M x1) 61)) D cA ad M [.ref (ad 55), .int x1] (f_Ex_find M x1) := by
  refine cs_entry (by decide) (Nat.le_of_ble_eq_true rfl) (fun p e s m below meth c A ls hC hr hlk _ hw hl => ?_)
  have hx := hC.1
  have hb := hC.2.1
  have hl : lv_has ls 3 [(0, .ref (ad 55)), (1, .int x1)] := hl
  generalize hF : f_Ex_find M x1 = F
  have hf := hF.symm
  unfold f_Ex_find at hf
  unfold pre_Ex_find at hp
  have hab0 : ∀ i, i ≠ 61 → ad i = ad i := fun _ _ => rfl
  obtain ⟨L0, hL⟩ : ∃ z, cs_ln M 61 = z := ⟨_, rfl⟩
  rw [hL]
  refine lv_aload_n hx hb d_Ex_find_0 rfl (lv_at hl 0 rfl) ?_
  refine gf_Ex_foundCount hC hw is_55 wd_150 d_Ex_find_1 ?_
  refine lv_topi (fun z1 ez1 => ?_)
  have hp := cs_bdP ez1 hp
  have hf := cs_bdE ez1 hf
  refine lv_istore_n (lv' := [(2, .int z1), (0, .ref (ad 55)), (1, .int x1)]) hx hb d_Ex_find_4 rfl hl (by decide) rfl (fun ls hl => ?_)
  exact w_Ex_find_L5 hC hr hlk 4000 ad M x1 z1 _ _ ls hw (lv_sub hl [1, 2, 0] rfl) hab0 hL hp hf
theorem d_Ex_endOrder_0 : decode prog_2_method_15_code 0 = .ok (.aload_n 0, 1) := by decide +kernel
theorem d_Ex_endOrder_1 : decode prog_2_method_15_code 1 = .ok (.dup, 1) := by decide +kernel
theorem d_Ex_endOrder_2 : decode prog_2_method_15_code 2 = .ok (.getfield 31, 3) := by decide +kernel
theorem d_Ex_endOrder_5 : decode prog_2_method_15_code 5 = .ok (.iconst 1, 1) := by decide +kernel
theorem d_Ex_endOrder_6 : decode prog_2_method_15_code 6 = .ok (.iadd, 1) := by decide +kernel
theorem d_Ex_endOrder_7 : decode prog_2_method_15_code 7 = .ok (.putfield 31, 3) := by decide +kernel
theorem d_Ex_endOrder_10 : decode prog_2_method_15_code 10 = .ok (.iconst 0, 1) := by decide +kernel
theorem d_Ex_endOrder_11 : decode prog_2_method_15_code 11 = .ok (.istore_n 1, 1) := by decide +kernel
theorem d_Ex_endOrder_12 : decode prog_2_method_15_code 12 = .ok (.iconst 0, 1) := by decide +kernel
theorem d_Ex_endOrder_13 : decode prog_2_method_15_code 13 = .ok (.istore_n 2, 1) := by decide +kernel
theorem d_Ex_endOrder_14 : decode prog_2_method_15_code 14 = .ok (.iconst 0, 1) := by decide +kernel
theorem d_Ex_endOrder_15 : decode prog_2_method_15_code 15 = .ok (.istore_n 3, 1) := by decide +kernel
theorem d_Ex_endOrder_16 : decode prog_2_method_15_code 16 = .ok (.iload_n 3, 1) := by decide +kernel
theorem d_Ex_endOrder_17 : decode prog_2_method_15_code 17 = .ok (.iconst 3, 1) := by decide +kernel
theorem d_Ex_endOrder_18 : decode prog_2_method_15_code 18 = .ok (.if_icmp .ge 44, 3) := by decide +kernel
theorem d_Ex_endOrder_21 : decode prog_2_method_15_code 21 = .ok (.aload_n 0, 1) := by decide +kernel
theorem d_Ex_endOrder_22 : decode prog_2_method_15_code 22 = .ok (.getfield 23, 3) := by decide +kernel
theorem d_Ex_endOrder_25 : decode prog_2_method_15_code 25 = .ok (.iload_n 3, 1) := by decide +kernel
theorem d_Ex_endOrder_26 : decode prog_2_method_15_code 26 = .ok (.invokevirtual 84, 3) := by decide +kernel
theorem d_Ex_endOrder_29 : decode prog_2_method_15_code 29 = .ok (.istore 4, 2) := by decide +kernel
theorem d_Ex_endOrder_31 : decode prog_2_method_15_code 31 = .ok (.bipush 100, 2) := by decide +kernel
theorem d_Ex_endOrder_33 : decode prog_2_method_15_code 33 = .ok (.iload_n 1, 1) := by decide +kernel
theorem d_Ex_endOrder_34 : decode prog_2_method_15_code 34 = .ok (.imul, 1) := by decide +kernel
theorem d_Ex_endOrder_35 : decode prog_2_method_15_code 35 = .ok (.iload 4, 2) := by decide +kernel
theorem d_Ex_endOrder_37 : decode prog_2_method_15_code 37 = .ok (.iadd, 1) := by decide +kernel
theorem d_Ex_endOrder_38 : decode prog_2_method_15_code 38 = .ok (.istore_n 1, 1) := by decide +kernel
theorem d_Ex_endOrder_39 : decode prog_2_method_15_code 39 = .ok (.iload_n 2, 1) := by decide +kernel
theorem d_Ex_endOrder_40 : decode prog_2_method_15_code 40 = .ok (.ifCond .ne 10, 3) := by decide +kernel
theorem d_Ex_endOrder_43 : decode prog_2_method_15_code 43 = .ok (.iload 4, 2) := by decide +kernel
theorem d_Ex_endOrder_45 : decode prog_2_method_15_code 45 = .ok (.bipush 50, 2) := by decide +kernel
theorem d_Ex_endOrder_47 : decode prog_2_method_15_code 47 = .ok (.if_icmp .ne 7, 3) := by decide +kernel
theorem d_Ex_endOrder_50 : decode prog_2_method_15_code 50 = .ok (.iconst 1, 1) := by decide +kernel
theorem d_Ex_endOrder_51 : decode prog_2_method_15_code 51 = .ok (.goto 4, 3) := by decide +kernel
theorem d_Ex_endOrder_54 : decode prog_2_method_15_code 54 = .ok (.iconst 0, 1) := by decide +kernel
theorem d_Ex_endOrder_55 : decode prog_2_method_15_code 55 = .ok (.istore_n 2, 1) := by decide +kernel
theorem d_Ex_endOrder_56 : decode prog_2_method_15_code 56 = .ok (.iinc 3 1, 3) := by decide +kernel
theorem d_Ex_endOrder_59 : decode prog_2_method_15_code 59 = .ok (.goto (-43), 3) := by decide +kernel
theorem d_Ex_endOrder_62 : decode prog_2_method_15_code 62 = .ok (.iload_n 2, 1) := by decide +kernel
theorem d_Ex_endOrder_63 : decode prog_2_method_15_code 63 = .ok (.ifCond .eq 13, 3) := by decide +kernel
theorem d_Ex_endOrder_66 : decode prog_2_method_15_code 66 = .ok (.aload_n 0, 1) := by decide +kernel
theorem d_Ex_endOrder_67 : decode prog_2_method_15_code 67 = .ok (.dup, 1) := by decide +kernel
theorem d_Ex_endOrder_68 : decode prog_2_method_15_code 68 = .ok (.getfield 34, 3) := by decide +kernel
theorem d_Ex_endOrder_71 : decode prog_2_method_15_code 71 = .ok (.iconst 1, 1) := by decide +kernel
theorem d_Ex_endOrder_72 : decode prog_2_method_15_code 72 = .ok (.iadd, 1) := by decide +kernel
theorem d_Ex_endOrder_73 : decode prog_2_method_15_code 73 = .ok (.putfield 34, 3) := by decide +kernel
theorem d_Ex_endOrder_76 : decode prog_2_method_15_code 76 = .ok (.aload_n 0, 1) := by decide +kernel
theorem d_Ex_endOrder_77 : decode prog_2_method_15_code 77 = .ok (.iload_n 1, 1) := by decide +kernel
theorem d_Ex_endOrder_78 : decode prog_2_method_15_code 78 = .ok (.invokevirtual 87, 3) := by decide +kernel
theorem d_Ex_endOrder_81 : decode prog_2_method_15_code 81 = .ok (.return_, 1) := by decide +kernel
def f_Ex_endOrder_L16 : Nat → cs_Mem → Int32 → Int32 → Int32 → cs_Mem
  | 0, M, y1, y2, y3 => M
  | fuel + 1, M, y1, y2, y3 =>
    if 3 ≤ y3 then
      if y2 = 0 then
        cs_bd (f_Ex_find M y1) fun (u5 : cs_Mem) =>
        u5
      else
        cs_bd (cs_up M 55 (upd (M 55) 6 ((M 55 6) + 1))) fun (N6 : cs_Mem) =>
        cs_bd (f_Ex_find N6 y1) fun (u8 : cs_Mem) =>
        u8
    else
      cs_bd (f_Ma_lastResultOf M 56 y3) fun (r10 : Int32) =>
      cs_bd ((100 * y1) + r10) fun (z11 : Int32) =>
      if y2 = 0 then
        if r10 = 50 then
          cs_bd (y3 + 1) fun (z16 : Int32) =>
          f_Ex_endOrder_L16 fuel M z11 1 z16
        else
          cs_bd (y3 + 1) fun (z15 : Int32) =>
          f_Ex_endOrder_L16 fuel M z11 0 z15
      else
        cs_bd (y3 + 1) fun (z13 : Int32) =>
        f_Ex_endOrder_L16 fuel M z11 1 z13
def pre_Ex_endOrder_L16 : Nat → cs_Mem → Int32 → Int32 → Int32 → Prop
  | 0, _, _, _, _ => False
  | fuel + 1, M, y1, y2, y3 =>
    (3 ≤ y3 →
      (y2 = 0 →
        (pre_Ex_find M y1) ∧
        True
      ) ∧ (¬ (y2 = 0) →
        cs_bd (cs_up M 55 (upd (M 55) 6 ((M 55 6) + 1))) fun (N6 : cs_Mem) =>
        (pre_Ex_find N6 y1) ∧
        True
      )
    ) ∧ (¬ (3 ≤ y3) →
      (pre_Ma_lastResultOf M 56 y3) ∧
      cs_bd (f_Ma_lastResultOf M 56 y3) fun (r10 : Int32) =>
      cs_bd ((100 * y1) + r10) fun (z11 : Int32) =>
      (y2 = 0 →
        (r10 = 50 →
          cs_bd (y3 + 1) fun (z16 : Int32) =>
          pre_Ex_endOrder_L16 fuel M z11 1 z16
        ) ∧ (¬ (r10 = 50) →
          cs_bd (y3 + 1) fun (z15 : Int32) =>
          pre_Ex_endOrder_L16 fuel M z11 0 z15
        )
      ) ∧ (¬ (y2 = 0) →
        cs_bd (y3 + 1) fun (z13 : Int32) =>
        pre_Ex_endOrder_L16 fuel M z11 1 z13
      )
    )
def f_Ex_endOrder (M : cs_Mem)  : cs_Mem :=
  cs_bd (cs_up M 55 (upd (M 55) 5 ((M 55 5) + 1))) fun (N1 : cs_Mem) =>
  f_Ex_endOrder_L16 5 N1 0 0 0
def pre_Ex_endOrder (M : cs_Mem)  : Prop :=
  cs_bd (cs_up M 55 (upd (M 55) 5 ((M 55 5) + 1))) fun (N1 : cs_Mem) =>
  pre_Ex_endOrder_L16 5 N1 0 0 0
set_option maxHeartbeats 4000000 in
set_option maxRecDepth 100000 in
theorem w_Ex_endOrder_L16 {p : Program} {l : Launch} {e : Env} {s : State} {m : MethodId} {args : Array Value} {below : List Frame} {meth : Method} {c : Code} {D : va_G} {cA : Nat → ClassId} {A : Nat → Prop} {ad0 : Nat → Nat} {L0 : Nat} {F : cs_Mem} (hC : cs_Ctx p s m args c prog_2_method_15_code 5 "ClassStarter$Explorer" D cA A) (hr : meth.sig.returnType = none) (hlk : meth.locks = false) (fuel : Nat) : ∀ (ad : Nat → Nat) (M : cs_Mem) (y1 : Int32) (y2 : Int32) (y3 : Int32) (H : Heap) (locs : List Loc) (ls : Array Slot), cs_Wd D cA ad M A s H locs → lv_has ls 5 [(0, .ref (ad 55)), (1, .int y1), (2, .int y2), (3, .int y3)] → (∀ i, i ≠ 61 → ad i = ad0 i) → cs_ln M 61 = L0 → pre_Ex_endOrder_L16 fuel M y1 y2 y3 → F = f_Ex_endOrder_L16 fuel M y1 y2 y3 → W p l e ({ frames := 4, cells := cs_gc L0 (cs_ln F 61), slots := cs_gs L0 (cs_ln F 61), locals := 122 }) s m args below meth c H locs 0 0 (MQ below (cs_QvG D cA ad0 F A) args s (cs_gc L0 (cs_ln F 61)) (cs_gs L0 (cs_ln F 61)) A) (F0 m 16 ls []) := by
  have hx := hC.1
  have hb := hC.2.1
  induction fuel with
  | zero =>
    intro ad M y1 y2 y3 H locs ls hw hl  hab0 hL hp hf
    exact absurd hp (by simp [pre_Ex_endOrder_L16])
  | succ fuel ih =>
    intro ad M y1 y2 y3 H locs ls hw hl  hab0 hL hp hf
    rw [f_Ex_endOrder_L16] at hf
    rw [pre_Ex_endOrder_L16] at hp
    refine lv_iload_n hx hb d_Ex_endOrder_16 rfl (lv_at hl 3 rfl) ?_
    refine lv_iconst (v := 3) hx hb d_Ex_endOrder_17 (by decide) ?_
    refine lv_icmp_ge (tgt := 62) hx hb d_Ex_endOrder_18 (by decide) (fun c2 => ?_) (fun c2 => ?_)
    · have hp := hp.1 c2
      have hf := hf.trans (if_pos c2)
      refine lv_iload_n hx hb d_Ex_endOrder_62 rfl (lv_at hl 2 rfl) ?_
      refine lv_if_eq (tgt := 76) hx hb d_Ex_endOrder_63 (by decide) (fun c3 => ?_) (fun c3 => ?_)
      · have hp := hp.1 c3
        have hf := hf.trans (if_pos c3)
        refine lv_aload_n hx hb d_Ex_endOrder_76 rfl (lv_at hl 0 rfl) ?_
        refine lv_iload_n hx hb d_Ex_endOrder_77 rfl (lv_at hl 1 rfl) ?_
        have o4 := hp.1
        have hp := hp.2
        have hFu : F = f_Ex_find M y1 := hf.trans (cs_bd_eq _ _)
        refine cs_ret_vG hC hw (cs_runV (As := [.int y1]) (rest := []) hC hw is_55.2 (ci := 4) rfl rfl (cs_sg_is is_55) (c_Ex_find l D cA ad M y1 o4 _) (cs_rmc _ _ _ _) (cs_rms _ _ _ _) cw_Ex_87 ⟨Nat.le_of_ble_eq_true rfl, Nat.le_of_ble_eq_true rfl⟩ hl.1 rfl rfl (Nat.le_of_ble_eq_true rfl) d_Ex_endOrder_78 (by rw [hFu, ← hL]; exact ⟨Nat.le_of_eq (Nat.zero_add _), Nat.le_of_eq (Nat.zero_add _)⟩)) (fun ad u5 H locs eu5 hab hw => ?_)
        have hf := cs_bdE eu5 hf
        have hl : lv_has ls 5 [(0, .ref (ad 55)), (1, .int y1), (2, .int y2), (3, .int y3)] := by rw [hab 55 (by decide)]; exact hl
        have hab0 := fun i h => (hab i h).trans (hab0 i h)
        have hkk : 0 + cs_gc (cs_ln M 61) (cs_ln (f_Ex_find M y1) 61) ≤ cs_gc L0 (cs_ln F 61) ∧ 0 + cs_gs (cs_ln M 61) (cs_ln (f_Ex_find M y1) 61) ≤ cs_gs L0 (cs_ln F 61) := by rw [hFu, ← hL]; exact ⟨Nat.le_of_eq (Nat.zero_add _), Nat.le_of_eq (Nat.zero_add _)⟩
        exact cs_vretG hC hw hr hlk hf hab0 hkk d_Ex_endOrder_81
      · have hp := hp.2 c3
        have hf := hf.trans (if_neg c3)
        refine lv_aload_n hx hb d_Ex_endOrder_66 rfl (lv_at hl 0 rfl) ?_
        refine lv_dup hx hb d_Ex_endOrder_67 rfl ?_
        refine gf_Ex_stuckOrders hC hw is_55 wd_152 d_Ex_endOrder_68 ?_
        refine lv_iconst (v := 1) hx hb d_Ex_endOrder_71 (by decide) ?_
        refine lv_iadd hx hb d_Ex_endOrder_72 ?_
        refine pf_Ex_stuckOrders hC hw is_55 wd_152 d_Ex_endOrder_73 (fun N6 H locs eN6 hw => ?_)
        have hp := cs_bdP eN6 hp
        have hf := cs_bdE eN6 hf
        have hL : cs_ln N6 61 = L0 := by rw [eN6, cs_ln_up (by decide)]; exact hL
        refine lv_aload_n hx hb d_Ex_endOrder_76 rfl (lv_at hl 0 rfl) ?_
        refine lv_iload_n hx hb d_Ex_endOrder_77 rfl (lv_at hl 1 rfl) ?_
        have o7 := hp.1
        have hp := hp.2
        have hFu : F = f_Ex_find N6 y1 := hf.trans (cs_bd_eq _ _)
        refine cs_ret_vG hC hw (cs_runV (As := [.int y1]) (rest := []) hC hw is_55.2 (ci := 4) rfl rfl (cs_sg_is is_55) (c_Ex_find l D cA ad N6 y1 o7 _) (cs_rmc _ _ _ _) (cs_rms _ _ _ _) cw_Ex_87 ⟨Nat.le_of_ble_eq_true rfl, Nat.le_of_ble_eq_true rfl⟩ hl.1 rfl rfl (Nat.le_of_ble_eq_true rfl) d_Ex_endOrder_78 (by rw [hFu, ← hL]; exact ⟨Nat.le_of_eq (Nat.zero_add _), Nat.le_of_eq (Nat.zero_add _)⟩)) (fun ad u8 H locs eu8 hab hw => ?_)
        have hf := cs_bdE eu8 hf
        have hl : lv_has ls 5 [(0, .ref (ad 55)), (1, .int y1), (2, .int y2), (3, .int y3)] := by rw [hab 55 (by decide)]; exact hl
        have hab0 := fun i h => (hab i h).trans (hab0 i h)
        have hkk : 0 + cs_gc (cs_ln N6 61) (cs_ln (f_Ex_find N6 y1) 61) ≤ cs_gc L0 (cs_ln F 61) ∧ 0 + cs_gs (cs_ln N6 61) (cs_ln (f_Ex_find N6 y1) 61) ≤ cs_gs L0 (cs_ln F 61) := by rw [hFu, ← hL]; exact ⟨Nat.le_of_eq (Nat.zero_add _), Nat.le_of_eq (Nat.zero_add _)⟩
        exact cs_vretG hC hw hr hlk hf hab0 hkk d_Ex_endOrder_81
    · have hp := hp.2 c2
      have hf := hf.trans (if_neg c2)
      refine lv_aload_n hx hb d_Ex_endOrder_21 rfl (lv_at hl 0 rfl) ?_
      refine gf_Ex_machine hC hw is_55 wd_146 d_Ex_endOrder_22 ?_
      refine lv_iload_n hx hb d_Ex_endOrder_25 rfl (lv_at hl 3 rfl) ?_
      have o9 := hp.1
      have hp := hp.2
      refine cs_ret_p hC hw (cs_runV (As := [.int y3]) (rest := []) hC hw is_56.2 (ci := 3) rfl rfl (cs_sg_is is_56) (c_Ma_lastResultOf l D cA ad M 56 is_56 y3 o9 _) rfl rfl cw_Ex_84 ⟨Nat.le_of_ble_eq_true rfl, Nat.le_of_ble_eq_true rfl⟩ hl.1 rfl rfl (Nat.le_of_ble_eq_true rfl) d_Ex_endOrder_26 ⟨Nat.zero_le _, Nat.zero_le _⟩) (fun r10 H locs er10 hw => ?_)
      have hp := cs_bdP er10 hp
      have hf := cs_bdE er10 hf
      refine lv_istore (lv' := [(4, .int r10), (0, .ref (ad 55)), (1, .int y1), (2, .int y2), (3, .int y3)]) hx hb d_Ex_endOrder_29 hl (by decide) rfl (fun ls hl => ?_)
      refine lv_bipush (v := 100) hx hb d_Ex_endOrder_31 (by decide) ?_
      refine lv_iload_n hx hb d_Ex_endOrder_33 rfl (lv_at hl 2 rfl) ?_
      refine lv_imul hx hb d_Ex_endOrder_34 ?_
      refine lv_iload hx hb d_Ex_endOrder_35 (lv_at hl 0 rfl) ?_
      refine lv_iadd hx hb d_Ex_endOrder_37 ?_
      refine lv_topi (fun z11 ez11 => ?_)
      have hp := cs_bdP ez11 hp
      have hf := cs_bdE ez11 hf
      refine lv_istore_n (lv' := [(1, .int z11), (4, .int r10), (0, .ref (ad 55)), (2, .int y2), (3, .int y3)]) hx hb d_Ex_endOrder_38 rfl hl (by decide) rfl (fun ls hl => ?_)
      refine lv_iload_n hx hb d_Ex_endOrder_39 rfl (lv_at hl 3 rfl) ?_
      refine lv_if_ne (tgt := 50) hx hb d_Ex_endOrder_40 (by decide) (fun c12 => ?_) (fun c12 => ?_)
      · have hp := hp.2 c12
        have hf := hf.trans (if_neg c12)
        refine lv_iconst (v := 1) hx hb d_Ex_endOrder_50 (by decide) ?_
        refine lv_goto (tgt := 55) hx hb d_Ex_endOrder_51 (by decide) ?_
        refine lv_istore_n (lv' := [(2, .int 1), (1, .int z11), (4, .int r10), (0, .ref (ad 55)), (3, .int y3)]) hx hb d_Ex_endOrder_55 rfl hl (by decide) rfl (fun ls hl => ?_)
        obtain ⟨z13, ez13⟩ : ∃ y : Int32, y = y3 + 1 := ⟨_, rfl⟩
        have hp := cs_bdP ez13 hp
        have hf := cs_bdE ez13 hf
        refine lv_iinc (v := z13) (lv' := [(3, .int z13), (2, .int 1), (1, .int z11), (4, .int r10), (0, .ref (ad 55))]) hx hb d_Ex_endOrder_56 hl (k := 4) rfl (by rw [ez13]; rfl) (by decide) rfl (fun ls hl => ?_)
        refine lv_goto (tgt := 16) hx hb d_Ex_endOrder_59 (by decide) ?_
        exact ih ad M z11 1 z13 _ _ ls hw (lv_sub hl [4, 2, 1, 0] rfl) hab0 hL hp hf
      · have hp := hp.1 c12
        have hf := hf.trans (if_pos c12)
        refine lv_iload hx hb d_Ex_endOrder_43 (lv_at hl 1 rfl) ?_
        refine lv_bipush (v := 50) hx hb d_Ex_endOrder_45 (by decide) ?_
        refine lv_icmp_ne (tgt := 54) hx hb d_Ex_endOrder_47 (by decide) (fun c14 => ?_) (fun c14 => ?_)
        · have hp := hp.2 c14
          have hf := hf.trans (if_neg c14)
          refine lv_iconst (v := 0) hx hb d_Ex_endOrder_54 (by decide) ?_
          refine lv_istore_n (lv' := [(2, .int 0), (1, .int z11), (4, .int r10), (0, .ref (ad 55)), (3, .int y3)]) hx hb d_Ex_endOrder_55 rfl hl (by decide) rfl (fun ls hl => ?_)
          obtain ⟨z15, ez15⟩ : ∃ y : Int32, y = y3 + 1 := ⟨_, rfl⟩
          have hp := cs_bdP ez15 hp
          have hf := cs_bdE ez15 hf
          refine lv_iinc (v := z15) (lv' := [(3, .int z15), (2, .int 0), (1, .int z11), (4, .int r10), (0, .ref (ad 55))]) hx hb d_Ex_endOrder_56 hl (k := 4) rfl (by rw [ez15]; rfl) (by decide) rfl (fun ls hl => ?_)
          refine lv_goto (tgt := 16) hx hb d_Ex_endOrder_59 (by decide) ?_
          exact ih ad M z11 0 z15 _ _ ls hw (lv_sub hl [4, 2, 1, 0] rfl) hab0 hL hp hf
        · have hp := hp.1 c14
          have hf := hf.trans (if_pos c14)
          refine lv_iconst (v := 1) hx hb d_Ex_endOrder_50 (by decide) ?_
          refine lv_goto (tgt := 55) hx hb d_Ex_endOrder_51 (by decide) ?_
          refine lv_istore_n (lv' := [(2, .int 1), (1, .int z11), (4, .int r10), (0, .ref (ad 55)), (3, .int y3)]) hx hb d_Ex_endOrder_55 rfl hl (by decide) rfl (fun ls hl => ?_)
          obtain ⟨z16, ez16⟩ : ∃ y : Int32, y = y3 + 1 := ⟨_, rfl⟩
          have hp := cs_bdP ez16 hp
          have hf := cs_bdE ez16 hf
          refine lv_iinc (v := z16) (lv' := [(3, .int z16), (2, .int 1), (1, .int z11), (4, .int r10), (0, .ref (ad 55))]) hx hb d_Ex_endOrder_56 hl (k := 4) rfl (by rw [ez16]; rfl) (by decide) rfl (fun ls hl => ?_)
          refine lv_goto (tgt := 16) hx hb d_Ex_endOrder_59 (by decide) ?_
          exact ih ad M z11 1 z16 _ _ ls hw (lv_sub hl [4, 2, 1, 0] rfl) hab0 hL hp hf
set_option maxHeartbeats 4000000 in
set_option maxRecDepth 100000 in
theorem c_Ex_endOrder (l : Launch) (D : va_G) (cA : Nat → ClassId) (ad : Nat → Nat) (M : cs_Mem) (hp : pre_Ex_endOrder M ) : cs_CvG l ⟨"ClassStarter$Explorer", "endOrder", "()V"⟩ prog_2_method_15_code 5 none 4 122 (cs_gc (cs_ln M 61) (cs_ln (f_Ex_endOrder M ) 61)) (cs_gs (cs_ln M 61) (cs_ln (f_Ex_endOrder M ) 61)) D cA ad M [.ref (ad 55)] (f_Ex_endOrder M ) := by
  refine cs_entry (by decide) (Nat.le_of_ble_eq_true rfl) (fun p e s m below meth c A ls hC hr hlk _ hw hl => ?_)
  have hx := hC.1
  have hb := hC.2.1
  have hl : lv_has ls 5 [(0, .ref (ad 55))] := hl
  generalize hF : f_Ex_endOrder M  = F
  have hf := hF.symm
  unfold f_Ex_endOrder at hf
  unfold pre_Ex_endOrder at hp
  have hab0 : ∀ i, i ≠ 61 → ad i = ad i := fun _ _ => rfl
  obtain ⟨L0, hL⟩ : ∃ z, cs_ln M 61 = z := ⟨_, rfl⟩
  rw [hL]
  refine lv_aload_n hx hb d_Ex_endOrder_0 rfl (lv_at hl 0 rfl) ?_
  refine lv_dup hx hb d_Ex_endOrder_1 rfl ?_
  refine gf_Ex_orders hC hw is_55 wd_151 d_Ex_endOrder_2 ?_
  refine lv_iconst (v := 1) hx hb d_Ex_endOrder_5 (by decide) ?_
  refine lv_iadd hx hb d_Ex_endOrder_6 ?_
  refine pf_Ex_orders hC hw is_55 wd_151 d_Ex_endOrder_7 (fun N1 H locs eN1 hw => ?_)
  have hp := cs_bdP eN1 hp
  have hf := cs_bdE eN1 hf
  have hL : cs_ln N1 61 = L0 := by rw [eN1, cs_ln_up (by decide)]; exact hL
  refine lv_iconst (v := 0) hx hb d_Ex_endOrder_10 (by decide) ?_
  refine lv_istore_n (lv' := [(1, .int 0), (0, .ref (ad 55))]) hx hb d_Ex_endOrder_11 rfl hl (by decide) rfl (fun ls hl => ?_)
  refine lv_iconst (v := 0) hx hb d_Ex_endOrder_12 (by decide) ?_
  refine lv_istore_n (lv' := [(2, .int 0), (1, .int 0), (0, .ref (ad 55))]) hx hb d_Ex_endOrder_13 rfl hl (by decide) rfl (fun ls hl => ?_)
  refine lv_iconst (v := 0) hx hb d_Ex_endOrder_14 (by decide) ?_
  refine lv_istore_n (lv' := [(3, .int 0), (2, .int 0), (1, .int 0), (0, .ref (ad 55))]) hx hb d_Ex_endOrder_15 rfl hl (by decide) rfl (fun ls hl => ?_)
  exact w_Ex_endOrder_L16 hC hr hlk 5 ad N1 0 0 0 _ _ ls hw (lv_sub hl [3, 2, 1, 0] rfl) hab0 hL hp hf
