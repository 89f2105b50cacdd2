theorem cs_mem {w : Cond} {i : Nat} (h : lw_tbl[i]? = some w) (hg : (goodWord w || k2_isCode w) = true) : w ∈ cs_all := List.mem_filter.mpr ⟨List.mem_of_getElem? h, hg⟩
theorem wd_0 : (Cond.selects "ClassStarter$Script" ⟨"ClassStarter$Script", "write", "(IIII)V"⟩ ⟨"ClassStarter$Script", "write", "(IIII)V"⟩) ∈ cs_all := cs_mem (i := 0) (by decide +kernel) rfl
theorem wd_1 : (Cond.selects "ClassStarter" ⟨"ClassStarter", "changed", "(I)I"⟩ ⟨"ClassStarter", "changed", "(I)I"⟩) ∈ cs_all := cs_mem (i := 1) (by decide +kernel) rfl
theorem wd_2 : (Cond.selects "ClassStarter$Program" ⟨"ClassStarter$Program", "inherits", "(II)Z"⟩ ⟨"ClassStarter$Program", "inherits", "(II)Z"⟩) ∈ cs_all := cs_mem (i := 2) (by decide +kernel) rfl
theorem wd_3 : (Cond.selects "ClassStarter$Machine" ⟨"ClassStarter$Machine", "isBehindLast", "(I)Z"⟩ ⟨"ClassStarter$Machine", "isBehindLast", "(I)Z"⟩) ∈ cs_all := cs_mem (i := 3) (by decide +kernel) rfl
theorem wd_4 : (Cond.selects "ClassStarter$Machine" ⟨"ClassStarter$Machine", "failTop", "(I)V"⟩ ⟨"ClassStarter$Machine", "failTop", "(I)V"⟩) ∈ cs_all := cs_mem (i := 4) (by decide +kernel) rfl
theorem wd_5 : (Cond.selects "ClassStarter$Machine" ⟨"ClassStarter$Machine", "dropTop", "(II)V"⟩ ⟨"ClassStarter$Machine", "dropTop", "(II)V"⟩) ∈ cs_all := cs_mem (i := 5) (by decide +kernel) rfl
theorem wd_6 : (Cond.selects "ClassStarter$Machine" ⟨"ClassStarter$Machine", "come", "(II)V"⟩ ⟨"ClassStarter$Machine", "come", "(II)V"⟩) ∈ cs_all := cs_mem (i := 6) (by decide +kernel) rfl
theorem wd_7 : (Cond.selects "ClassStarter$Machine" ⟨"ClassStarter$Machine", "write", "(I)V"⟩ ⟨"ClassStarter$Machine", "write", "(I)V"⟩) ∈ cs_all := cs_mem (i := 7) (by decide +kernel) rfl
theorem wd_8 : (Cond.selects "ClassStarter$Machine" ⟨"ClassStarter$Machine", "finishTop", "(I)V"⟩ ⟨"ClassStarter$Machine", "finishTop", "(I)V"⟩) ∈ cs_all := cs_mem (i := 8) (by decide +kernel) rfl
theorem wd_9 : (Cond.selects "ClassStarter$Machine" ⟨"ClassStarter$Machine", "makeUse", "(I)V"⟩ ⟨"ClassStarter$Machine", "makeUse", "(I)V"⟩) ∈ cs_all := cs_mem (i := 9) (by decide +kernel) rfl
theorem wd_10 : (Cond.selects "ClassStarter$Machine" ⟨"ClassStarter$Machine", "use", "(II)V"⟩ ⟨"ClassStarter$Machine", "use", "(II)V"⟩) ∈ cs_all := cs_mem (i := 10) (by decide +kernel) rfl
theorem wd_11 : (Cond.selects "ClassStarter$Machine" ⟨"ClassStarter$Machine", "begin", "(II)V"⟩ ⟨"ClassStarter$Machine", "begin", "(II)V"⟩) ∈ cs_all := cs_mem (i := 11) (by decide +kernel) rfl
theorem wd_12 : (Cond.selects "ClassStarter$Machine" ⟨"ClassStarter$Machine", "perform", "(I)V"⟩ ⟨"ClassStarter$Machine", "perform", "(I)V"⟩) ∈ cs_all := cs_mem (i := 12) (by decide +kernel) rfl
theorem wd_13 : (Cond.selects "ClassStarter$Explorer" ⟨"ClassStarter$Explorer", "begin", "()V"⟩ ⟨"ClassStarter$Explorer", "begin", "()V"⟩) ∈ cs_all := cs_mem (i := 13) (by decide +kernel) rfl
theorem wd_14 : (Cond.selects "ClassStarter$Explorer" ⟨"ClassStarter$Explorer", "dropAll", "()V"⟩ ⟨"ClassStarter$Explorer", "dropAll", "()V"⟩) ∈ cs_all := cs_mem (i := 14) (by decide +kernel) rfl
theorem wd_15 : (Cond.selects "ClassStarter$Explorer" ⟨"ClassStarter$Explorer", "goDown", "(I)V"⟩ ⟨"ClassStarter$Explorer", "goDown", "(I)V"⟩) ∈ cs_all := cs_mem (i := 15) (by decide +kernel) rfl
theorem wd_16 : (Cond.selects "ClassStarter$Explorer" ⟨"ClassStarter$Explorer", "endOrder", "()V"⟩ ⟨"ClassStarter$Explorer", "endOrder", "()V"⟩) ∈ cs_all := cs_mem (i := 16) (by decide +kernel) rfl
theorem wd_17 : (Cond.selects "ClassStarter$Explorer" ⟨"ClassStarter$Explorer", "find", "(I)V"⟩ ⟨"ClassStarter$Explorer", "find", "(I)V"⟩) ∈ cs_all := cs_mem (i := 17) (by decide +kernel) rfl
theorem wd_18 : (Cond.selects "ClassStarter$Explorer" ⟨"ClassStarter$Explorer", "goUp", "()V"⟩ ⟨"ClassStarter$Explorer", "goUp", "()V"⟩) ∈ cs_all := cs_mem (i := 18) (by decide +kernel) rfl
theorem wd_19 : (Cond.selects "ClassStarter$Explorer" ⟨"ClassStarter$Explorer", "finish", "()V"⟩ ⟨"ClassStarter$Explorer", "finish", "()V"⟩) ∈ cs_all := cs_mem (i := 19) (by decide +kernel) rfl
theorem wd_20 : (Cond.selects "ClassStarterModel" ⟨"ClassStarterModel", "work", "()V"⟩ ⟨"ClassStarterModel", "work", "()V"⟩) ∈ cs_all := cs_mem (i := 20) (by decide +kernel) rfl
theorem wd_21 : (Cond.selects "ClassStarterModel" ⟨"ClassStarterModel", "start", "()V"⟩ ⟨"ClassStarterModel", "start", "()V"⟩) ∈ cs_all := cs_mem (i := 21) (by decide +kernel) rfl
theorem wd_22 : (Cond.selects "ClassStarterModel" ⟨"ClassStarterModel", "finish", "(I)V"⟩ ⟨"ClassStarterModel", "finish", "(I)V"⟩) ∈ cs_all := cs_mem (i := 22) (by decide +kernel) rfl
theorem wd_23 : (Cond.selects "ClassStarterModel" ⟨"ClassStarterModel", "stepOf", "(I)V"⟩ ⟨"ClassStarterModel", "stepOf", "(I)V"⟩) ∈ cs_all := cs_mem (i := 23) (by decide +kernel) rfl
theorem wd_24 : (Cond.selects "ClassStarterModel" ⟨"ClassStarterModel", "leave", "(II)V"⟩ ⟨"ClassStarterModel", "leave", "(II)V"⟩) ∈ cs_all := cs_mem (i := 24) (by decide +kernel) rfl
theorem wd_25 : (Cond.selects "ClassStarterModel" ⟨"ClassStarterModel", "top", "(I)I"⟩ ⟨"ClassStarterModel", "top", "(I)I"⟩) ∈ cs_all := cs_mem (i := 25) (by decide +kernel) rfl
theorem wd_26 : (Cond.selects "ClassStarterModel" ⟨"ClassStarterModel", "come", "(II)V"⟩ ⟨"ClassStarterModel", "come", "(II)V"⟩) ∈ cs_all := cs_mem (i := 26) (by decide +kernel) rfl
theorem wd_27 : (Cond.selects "ClassStarterModel" ⟨"ClassStarterModel", "actionAt", "(II)I"⟩ ⟨"ClassStarterModel", "actionAt", "(II)I"⟩) ∈ cs_all := cs_mem (i := 27) (by decide +kernel) rfl
theorem wd_28 : (Cond.selects "ClassStarterModel" ⟨"ClassStarterModel", "uses", "(I)I"⟩ ⟨"ClassStarterModel", "uses", "(I)I"⟩) ∈ cs_all := cs_mem (i := 28) (by decide +kernel) rfl
theorem wd_29 : (Cond.selects "ClassStarterModel" ⟨"ClassStarterModel", "parts", "(II)I"⟩ ⟨"ClassStarterModel", "parts", "(II)I"⟩) ∈ cs_all := cs_mem (i := 29) (by decide +kernel) rfl
theorem wd_30 : (Cond.selects "ClassStarterModel" ⟨"ClassStarterModel", "note", "(I)V"⟩ ⟨"ClassStarterModel", "note", "(I)V"⟩) ∈ cs_all := cs_mem (i := 30) (by decide +kernel) rfl
theorem wd_31 : (Cond.selects "ClassStarterModel" ⟨"ClassStarterModel", "madeUse", "(I)V"⟩ ⟨"ClassStarterModel", "madeUse", "(I)V"⟩) ∈ cs_all := cs_mem (i := 31) (by decide +kernel) rfl
theorem wd_32 : (Cond.selects "ClassStarterModel" ⟨"ClassStarterModel", "usedNow", "(I)I"⟩ ⟨"ClassStarterModel", "usedNow", "(I)I"⟩) ∈ cs_all := cs_mem (i := 32) (by decide +kernel) rfl
theorem wd_33 : (Cond.selects "ClassStarterModel" ⟨"ClassStarterModel", "useAt", "(II)I"⟩ ⟨"ClassStarterModel", "useAt", "(II)I"⟩) ∈ cs_all := cs_mem (i := 33) (by decide +kernel) rfl
theorem wd_34 : (Cond.selects "ClassStarterModel" ⟨"ClassStarterModel", "useOf", "(II)V"⟩ ⟨"ClassStarterModel", "useOf", "(II)V"⟩) ∈ cs_all := cs_mem (i := 34) (by decide +kernel) rfl
theorem wd_35 : (Cond.selects "ClassStarterModel" ⟨"ClassStarterModel", "enter", "(II)V"⟩ ⟨"ClassStarterModel", "enter", "(II)V"⟩) ∈ cs_all := cs_mem (i := 35) (by decide +kernel) rfl
theorem wd_36 : (Cond.selects "ClassStarterModel" ⟨"ClassStarterModel", "action", "(I)V"⟩ ⟨"ClassStarterModel", "action", "(I)V"⟩) ∈ cs_all := cs_mem (i := 36) (by decide +kernel) rfl
theorem wd_37 : (Cond.selects "ClassStarterModel" ⟨"ClassStarterModel", "waits", "(I)Z"⟩ ⟨"ClassStarterModel", "waits", "(I)Z"⟩) ∈ cs_all := cs_mem (i := 37) (by decide +kernel) rfl
theorem wd_38 : (Cond.selects "ClassStarterModel" ⟨"ClassStarterModel", "resultNow", "(I)I"⟩ ⟨"ClassStarterModel", "resultNow", "(I)I"⟩) ∈ cs_all := cs_mem (i := 38) (by decide +kernel) rfl
theorem wd_39 : (Cond.selects "ClassStarterModel" ⟨"ClassStarterModel", "canStep", "(I)Z"⟩ ⟨"ClassStarterModel", "canStep", "(I)Z"⟩) ∈ cs_all := cs_mem (i := 39) (by decide +kernel) rfl
theorem wd_40 : (Cond.selects "ClassStarterModel" ⟨"ClassStarterModel", "nextThread", "(I)I"⟩ ⟨"ClassStarterModel", "nextThread", "(I)I"⟩) ∈ cs_all := cs_mem (i := 40) (by decide +kernel) rfl
theorem wd_41 : (Cond.selects "ClassStarterModel" ⟨"ClassStarterModel", "noteOrder", "()V"⟩ ⟨"ClassStarterModel", "noteOrder", "()V"⟩) ∈ cs_all := cs_mem (i := 41) (by decide +kernel) rfl
theorem wd_42 : (Cond.initialized "ClassStarterLaw") ∈ cs_all := cs_mem (i := 42) (by decide +kernel) rfl
theorem wd_43 : (Cond.initialized "ClassStarter") ∈ cs_all := cs_mem (i := 43) (by decide +kernel) rfl
theorem wd_44 : (Cond.initialized "ClassStarter$Program") ∈ cs_all := cs_mem (i := 44) (by decide +kernel) rfl
theorem wd_45 : (Cond.initialized "ClassStarter$Script") ∈ cs_all := cs_mem (i := 45) (by decide +kernel) rfl
theorem wd_46 : (Cond.initialized "ClassStarter$Machine") ∈ cs_all := cs_mem (i := 46) (by decide +kernel) rfl
theorem wd_47 : (Cond.initialized "java/util/Arrays") ∈ cs_all := cs_mem (i := 47) (by decide +kernel) rfl
theorem wd_48 : (Cond.initialized "ClassStarter$Explorer") ∈ cs_all := cs_mem (i := 48) (by decide +kernel) rfl
theorem wd_49 : (Cond.initialized "ClassStarterModel") ∈ cs_all := cs_mem (i := 49) (by decide +kernel) rfl
theorem wd_50 : (Cond.initialized "java/lang/System") ∈ cs_all := cs_mem (i := 50) (by decide +kernel) rfl
theorem wd_51 : (Cond.initialized "ClassStarter$Fault") ∈ cs_all := cs_mem (i := 51) (by decide +kernel) rfl
theorem wd_52 : (Cond.initialized "java/lang/Math") ∈ cs_all := cs_mem (i := 52) (by decide +kernel) rfl
theorem wd_53 : (Cond.classLink "ClassStarterLaw" 7 "ClassStarter") ∈ cs_all := cs_mem (i := 53) (by decide +kernel) rfl
theorem wd_54 : (Cond.instantiable "ClassStarter" 3) ∈ cs_all := cs_mem (i := 54) (by decide +kernel) rfl
theorem wd_55 : (Cond.methodLink "ClassStarterLaw" 9 ⟨"ClassStarter", "<init>", "()V"⟩) ∈ cs_all := cs_mem (i := 55) (by decide +kernel) rfl
theorem wd_56 : (Cond.instanceMethod ⟨"ClassStarter", "<init>", "()V"⟩) ∈ cs_all := cs_mem (i := 56) (by decide +kernel) rfl
set_option maxRecDepth 100000 in
theorem wd_57 : (Cond.code ⟨"ClassStarter", "<init>", "()V"⟩ prog_1_method_1_code 1 (none : Option Jvm.ClassFile.FieldType)) ∈ cs_all := cs_mem (i := 57) rfl rfl
theorem wd_58 : (Cond.methodLink "ClassStarter" 3 ⟨"java/lang/Object", "<init>", "()V"⟩) ∈ cs_all := cs_mem (i := 58) (by decide +kernel) rfl
theorem wd_59 : (Cond.instanceMethod ⟨"java/lang/Object", "<init>", "()V"⟩) ∈ cs_all := cs_mem (i := 59) (by decide +kernel) rfl
set_option maxRecDepth 100000 in
theorem wd_60 : (Cond.code ⟨"java/lang/Object", "<init>", "()V"⟩ object_method_1_code 1 (none : Option Jvm.ClassFile.FieldType)) ∈ cs_all := cs_mem (i := 60) rfl rfl
theorem wd_61 : (Cond.classLink "ClassStarter" 9 "ClassStarter$Program") ∈ cs_all := cs_mem (i := 61) (by decide +kernel) rfl
theorem wd_62 : (Cond.instantiable "ClassStarter$Program" 7) ∈ cs_all := cs_mem (i := 62) (by decide +kernel) rfl
theorem wd_63 : (Cond.methodLink "ClassStarter" 11 ⟨"ClassStarter$Program", "<init>", "()V"⟩) ∈ cs_all := cs_mem (i := 63) (by decide +kernel) rfl
theorem wd_64 : (Cond.instanceMethod ⟨"ClassStarter$Program", "<init>", "()V"⟩) ∈ cs_all := cs_mem (i := 64) (by decide +kernel) rfl
set_option maxRecDepth 100000 in
theorem wd_65 : (Cond.code ⟨"ClassStarter$Program", "<init>", "()V"⟩ prog_5_method_1_code 2 (none : Option Jvm.ClassFile.FieldType)) ∈ cs_all := cs_mem (i := 65) rfl rfl
theorem wd_66 : (Cond.methodLink "ClassStarter$Program" 3 ⟨"java/lang/Object", "<init>", "()V"⟩) ∈ cs_all := cs_mem (i := 66) (by decide +kernel) rfl
theorem wd_67 : (Cond.classLink "ClassStarter$Program" 28 "ClassStarter$Script") ∈ cs_all := cs_mem (i := 67) (by decide +kernel) rfl
theorem wd_69 : (Cond.instantiable "ClassStarter$Script" 6) ∈ cs_all := cs_mem (i := 69) (by decide +kernel) rfl
theorem wd_70 : (Cond.methodLink "ClassStarter$Program" 34 ⟨"ClassStarter$Script", "<init>", "(II)V"⟩) ∈ cs_all := cs_mem (i := 70) (by decide +kernel) rfl
theorem wd_71 : (Cond.instanceMethod ⟨"ClassStarter$Script", "<init>", "(II)V"⟩) ∈ cs_all := cs_mem (i := 71) (by decide +kernel) rfl
set_option maxRecDepth 100000 in
theorem wd_72 : (Cond.code ⟨"ClassStarter$Script", "<init>", "(II)V"⟩ prog_6_method_1_code 3 (none : Option Jvm.ClassFile.FieldType)) ∈ cs_all := cs_mem (i := 72) rfl rfl
theorem wd_73 : (Cond.methodLink "ClassStarter$Script" 3 ⟨"java/lang/Object", "<init>", "()V"⟩) ∈ cs_all := cs_mem (i := 73) (by decide +kernel) rfl
theorem wd_74 : (Cond.fieldLink "ClassStarter$Script" 9 "ClassStarter$Script" "mostActions" "I") ∈ cs_all := cs_mem (i := 74) (by decide +kernel) rfl
theorem wd_75 : (Cond.fieldLink "ClassStarter$Script" 15 "ClassStarter$Script" "actions" "[I") ∈ cs_all := cs_mem (i := 75) (by decide +kernel) rfl
theorem wd_76 : (Cond.fieldLink "ClassStarter$Script" 19 "ClassStarter$Script" "firstOperands" "[I") ∈ cs_all := cs_mem (i := 76) (by decide +kernel) rfl
theorem wd_77 : (Cond.fieldLink "ClassStarter$Script" 22 "ClassStarter$Script" "secondOperands" "[I") ∈ cs_all := cs_mem (i := 77) (by decide +kernel) rfl
theorem wd_78 : (Cond.fieldLink "ClassStarter$Script" 28 "ClassStarter$Script" "usesAhead" "I") ∈ cs_all := cs_mem (i := 78) (by decide +kernel) rfl
theorem wd_79 : (Cond.fieldLink "ClassStarter$Script" 25 "ClassStarter$Script" "length" "I") ∈ cs_all := cs_mem (i := 79) (by decide +kernel) rfl
theorem wd_80 : (Cond.laysFinal "ClassStarter$Script" "ClassStarter$Script" "mostActions" "I") ∈ cs_all := cs_mem (i := 80) (by decide +kernel) rfl
theorem wd_82 : (Cond.laysFinal "ClassStarter$Script" "ClassStarter$Script" "actions" "[I") ∈ cs_all := cs_mem (i := 82) (by decide +kernel) rfl
theorem wd_84 : (Cond.laysFinal "ClassStarter$Script" "ClassStarter$Script" "firstOperands" "[I") ∈ cs_all := cs_mem (i := 84) (by decide +kernel) rfl
theorem wd_86 : (Cond.laysFinal "ClassStarter$Script" "ClassStarter$Script" "secondOperands" "[I") ∈ cs_all := cs_mem (i := 86) (by decide +kernel) rfl
theorem wd_88 : (Cond.lays "ClassStarter$Script" "ClassStarter$Script" "usesAhead" "I") ∈ cs_all := cs_mem (i := 88) (by decide +kernel) rfl
theorem wd_90 : (Cond.lays "ClassStarter$Script" "ClassStarter$Script" "length" "I") ∈ cs_all := cs_mem (i := 90) (by decide +kernel) rfl
theorem wd_93 : (Cond.arrayClass .boolean) ∈ cs_all := cs_mem (i := 93) (by decide +kernel) rfl
theorem wd_94 : (Cond.arrayClass .int) ∈ cs_all := cs_mem (i := 94) (by decide +kernel) rfl
theorem wd_95 : (Cond.fieldLink "ClassStarter$Program" 9 "ClassStarter$Program" "interfaces" "[Z") ∈ cs_all := cs_mem (i := 95) (by decide +kernel) rfl
theorem wd_96 : (Cond.fieldLink "ClassStarter$Program" 15 "ClassStarter$Program" "constants" "[Z") ∈ cs_all := cs_mem (i := 96) (by decide +kernel) rfl
theorem wd_97 : (Cond.fieldLink "ClassStarter$Program" 18 "ClassStarter$Program" "constantValues" "[I") ∈ cs_all := cs_mem (i := 97) (by decide +kernel) rfl
theorem wd_98 : (Cond.fieldLink "ClassStarter$Program" 22 "ClassStarter$Program" "inherited" "[I") ∈ cs_all := cs_mem (i := 98) (by decide +kernel) rfl
theorem wd_99 : (Cond.fieldLink "ClassStarter$Program" 25 "ClassStarter$Program" "inheritedCounts" "[I") ∈ cs_all := cs_mem (i := 99) (by decide +kernel) rfl
theorem wd_100 : (Cond.fieldLink "ClassStarter$Program" 30 "ClassStarter$Program" "scripts" "[LClassStarter$Script;") ∈ cs_all := cs_mem (i := 100) (by decide +kernel) rfl
theorem wd_101 : (Cond.fieldLink "ClassStarter$Program" 37 "ClassStarter$Program" "classCount" "I") ∈ cs_all := cs_mem (i := 101) (by decide +kernel) rfl
theorem wd_102 : (Cond.laysFinal "ClassStarter$Program" "ClassStarter$Program" "interfaces" "[Z") ∈ cs_all := cs_mem (i := 102) (by decide +kernel) rfl
theorem wd_104 : (Cond.laysFinal "ClassStarter$Program" "ClassStarter$Program" "constants" "[Z") ∈ cs_all := cs_mem (i := 104) (by decide +kernel) rfl
theorem wd_106 : (Cond.laysFinal "ClassStarter$Program" "ClassStarter$Program" "constantValues" "[I") ∈ cs_all := cs_mem (i := 106) (by decide +kernel) rfl
theorem wd_108 : (Cond.laysFinal "ClassStarter$Program" "ClassStarter$Program" "inherited" "[I") ∈ cs_all := cs_mem (i := 108) (by decide +kernel) rfl
theorem wd_110 : (Cond.laysFinal "ClassStarter$Program" "ClassStarter$Program" "inheritedCounts" "[I") ∈ cs_all := cs_mem (i := 110) (by decide +kernel) rfl
theorem wd_112 : (Cond.laysFinal "ClassStarter$Program" "ClassStarter$Program" "scripts" "[LClassStarter$Script;") ∈ cs_all := cs_mem (i := 112) (by decide +kernel) rfl
theorem wd_114 : (Cond.lays "ClassStarter$Program" "ClassStarter$Program" "classCount" "I") ∈ cs_all := cs_mem (i := 114) (by decide +kernel) rfl
theorem wd_117 : (Cond.classLink "ClassStarter" 16 "ClassStarter$Machine") ∈ cs_all := cs_mem (i := 117) (by decide +kernel) rfl
theorem wd_118 : (Cond.instantiable "ClassStarter$Machine" 3) ∈ cs_all := cs_mem (i := 118) (by decide +kernel) rfl
theorem wd_119 : (Cond.methodLink "ClassStarter" 18 ⟨"ClassStarter$Machine", "<init>", "(LClassStarter$Program;)V"⟩) ∈ cs_all := cs_mem (i := 119) (by decide +kernel) rfl
theorem wd_120 : (Cond.instanceMethod ⟨"ClassStarter$Machine", "<init>", "(LClassStarter$Program;)V"⟩) ∈ cs_all := cs_mem (i := 120) (by decide +kernel) rfl
set_option maxRecDepth 100000 in
theorem wd_121 : (Cond.code ⟨"ClassStarter$Machine", "<init>", "(LClassStarter$Program;)V"⟩ prog_4_method_1_code 2 (none : Option Jvm.ClassFile.FieldType)) ∈ cs_all := cs_mem (i := 121) rfl rfl
theorem wd_122 : (Cond.methodLink "ClassStarter$Machine" 5 ⟨"java/lang/Object", "<init>", "()V"⟩) ∈ cs_all := cs_mem (i := 122) (by decide +kernel) rfl
theorem wd_123 : (Cond.methodLink "ClassStarter$Machine" 22 ⟨"ClassStarter$Machine", "restart", "()V"⟩) ∈ cs_all := cs_mem (i := 123) (by decide +kernel) rfl
theorem wd_124 : (Cond.instanceMethod ⟨"ClassStarter$Machine", "restart", "()V"⟩) ∈ cs_all := cs_mem (i := 124) (by decide +kernel) rfl
theorem wd_125 : (Cond.selects "ClassStarter$Machine" ⟨"ClassStarter$Machine", "restart", "()V"⟩ ⟨"ClassStarter$Machine", "restart", "()V"⟩) ∈ cs_all := cs_mem (i := 125) (by decide +kernel) rfl
set_option maxRecDepth 100000 in
theorem wd_126 : (Cond.code ⟨"ClassStarter$Machine", "restart", "()V"⟩ prog_4_method_2_code 2 (none : Option Jvm.ClassFile.FieldType)) ∈ cs_all := cs_mem (i := 126) rfl rfl
theorem wd_127 : (Cond.methodLink "ClassStarter$Machine" 25 ⟨"java/util/Arrays", "fill", "([II)V"⟩) ∈ cs_all := cs_mem (i := 127) (by decide +kernel) rfl
theorem wd_128 : (Cond.static ⟨"java/util/Arrays", "fill", "([II)V"⟩) ∈ cs_all := cs_mem (i := 128) (by decide +kernel) rfl
set_option maxRecDepth 100000 in
theorem wd_129 : (Cond.code ⟨"java/util/Arrays", "fill", "([II)V"⟩ prog_12_method_103_code 4 (none : Option Jvm.ClassFile.FieldType)) ∈ cs_all := cs_mem (i := 129) rfl rfl
theorem wd_130 : (Cond.fieldLink "ClassStarter$Machine" 18 "ClassStarter$Machine" "program" "LClassStarter$Program;") ∈ cs_all := cs_mem (i := 130) (by decide +kernel) rfl
theorem wd_131 : (Cond.fieldLink "ClassStarter$Machine" 11 "ClassStarter$Machine" "cells" "[I") ∈ cs_all := cs_mem (i := 131) (by decide +kernel) rfl
theorem wd_132 : (Cond.fieldLink "ClassStarter$Machine" 15 "ClassStarter$Machine" "log" "[I") ∈ cs_all := cs_mem (i := 132) (by decide +kernel) rfl
theorem wd_133 : (Cond.laysFinal "ClassStarter$Machine" "ClassStarter$Machine" "program" "LClassStarter$Program;") ∈ cs_all := cs_mem (i := 133) (by decide +kernel) rfl
theorem wd_135 : (Cond.laysFinal "ClassStarter$Machine" "ClassStarter$Machine" "cells" "[I") ∈ cs_all := cs_mem (i := 135) (by decide +kernel) rfl
theorem wd_137 : (Cond.laysFinal "ClassStarter$Machine" "ClassStarter$Machine" "log" "[I") ∈ cs_all := cs_mem (i := 137) (by decide +kernel) rfl
theorem wd_140 : (Cond.classLink "ClassStarter" 25 "ClassStarter$Explorer") ∈ cs_all := cs_mem (i := 140) (by decide +kernel) rfl
theorem wd_141 : (Cond.instantiable "ClassStarter$Explorer" 10) ∈ cs_all := cs_mem (i := 141) (by decide +kernel) rfl
theorem wd_142 : (Cond.methodLink "ClassStarter" 27 ⟨"ClassStarter$Explorer", "<init>", "(LClassStarter$Machine;)V"⟩) ∈ cs_all := cs_mem (i := 142) (by decide +kernel) rfl
theorem wd_143 : (Cond.instanceMethod ⟨"ClassStarter$Explorer", "<init>", "(LClassStarter$Machine;)V"⟩) ∈ cs_all := cs_mem (i := 143) (by decide +kernel) rfl
set_option maxRecDepth 100000 in
theorem wd_144 : (Cond.code ⟨"ClassStarter$Explorer", "<init>", "(LClassStarter$Machine;)V"⟩ prog_2_method_1_code 2 (none : Option Jvm.ClassFile.FieldType)) ∈ cs_all := cs_mem (i := 144) rfl rfl
theorem wd_145 : (Cond.methodLink "ClassStarter$Explorer" 3 ⟨"java/lang/Object", "<init>", "()V"⟩) ∈ cs_all := cs_mem (i := 145) (by decide +kernel) rfl
theorem wd_146 : (Cond.fieldLink "ClassStarter$Explorer" 23 "ClassStarter$Explorer" "machine" "LClassStarter$Machine;") ∈ cs_all := cs_mem (i := 146) (by decide +kernel) rfl
theorem wd_147 : (Cond.fieldLink "ClassStarter$Explorer" 11 "ClassStarter$Explorer" "kept" "[I") ∈ cs_all := cs_mem (i := 147) (by decide +kernel) rfl
theorem wd_148 : (Cond.fieldLink "ClassStarter$Explorer" 17 "ClassStarter$Explorer" "untried" "[I") ∈ cs_all := cs_mem (i := 148) (by decide +kernel) rfl
theorem wd_149 : (Cond.fieldLink "ClassStarter$Explorer" 20 "ClassStarter$Explorer" "found" "[I") ∈ cs_all := cs_mem (i := 149) (by decide +kernel) rfl
theorem wd_150 : (Cond.fieldLink "ClassStarter$Explorer" 27 "ClassStarter$Explorer" "foundCount" "I") ∈ cs_all := cs_mem (i := 150) (by decide +kernel) rfl
theorem wd_151 : (Cond.fieldLink "ClassStarter$Explorer" 31 "ClassStarter$Explorer" "orders" "I") ∈ cs_all := cs_mem (i := 151) (by decide +kernel) rfl
theorem wd_152 : (Cond.fieldLink "ClassStarter$Explorer" 34 "ClassStarter$Explorer" "stuckOrders" "I") ∈ cs_all := cs_mem (i := 152) (by decide +kernel) rfl
theorem wd_153 : (Cond.fieldLink "ClassStarter$Explorer" 48 "ClassStarter$Explorer" "depth" "I") ∈ cs_all := cs_mem (i := 153) (by decide +kernel) rfl
theorem wd_154 : (Cond.fieldLink "ClassStarter$Explorer" 37 "ClassStarter$Explorer" "isKnown" "Z") ∈ cs_all := cs_mem (i := 154) (by decide +kernel) rfl
theorem wd_155 : (Cond.fieldLink "ClassStarter$Explorer" 41 "ClassStarter$Explorer" "answer" "I") ∈ cs_all := cs_mem (i := 155) (by decide +kernel) rfl
theorem wd_156 : (Cond.laysFinal "ClassStarter$Explorer" "ClassStarter$Explorer" "machine" "LClassStarter$Machine;") ∈ cs_all := cs_mem (i := 156) (by decide +kernel) rfl
theorem wd_158 : (Cond.laysFinal "ClassStarter$Explorer" "ClassStarter$Explorer" "kept" "[I") ∈ cs_all := cs_mem (i := 158) (by decide +kernel) rfl
theorem wd_160 : (Cond.laysFinal "ClassStarter$Explorer" "ClassStarter$Explorer" "untried" "[I") ∈ cs_all := cs_mem (i := 160) (by decide +kernel) rfl
theorem wd_162 : (Cond.lays "ClassStarter$Explorer" "ClassStarter$Explorer" "found" "[I") ∈ cs_all := cs_mem (i := 162) (by decide +kernel) rfl
theorem wd_164 : (Cond.lays "ClassStarter$Explorer" "ClassStarter$Explorer" "foundCount" "I") ∈ cs_all := cs_mem (i := 164) (by decide +kernel) rfl
theorem wd_166 : (Cond.lays "ClassStarter$Explorer" "ClassStarter$Explorer" "orders" "I") ∈ cs_all := cs_mem (i := 166) (by decide +kernel) rfl
theorem wd_168 : (Cond.lays "ClassStarter$Explorer" "ClassStarter$Explorer" "stuckOrders" "I") ∈ cs_all := cs_mem (i := 168) (by decide +kernel) rfl
theorem wd_170 : (Cond.lays "ClassStarter$Explorer" "ClassStarter$Explorer" "depth" "I") ∈ cs_all := cs_mem (i := 170) (by decide +kernel) rfl
theorem wd_172 : (Cond.lays "ClassStarter$Explorer" "ClassStarter$Explorer" "isKnown" "Z") ∈ cs_all := cs_mem (i := 172) (by decide +kernel) rfl
theorem wd_174 : (Cond.lays "ClassStarter$Explorer" "ClassStarter$Explorer" "answer" "I") ∈ cs_all := cs_mem (i := 174) (by decide +kernel) rfl
theorem wd_177 : (Cond.fieldLink "ClassStarter" 12 "ClassStarter" "program" "LClassStarter$Program;") ∈ cs_all := cs_mem (i := 177) (by decide +kernel) rfl
theorem wd_178 : (Cond.fieldLink "ClassStarter" 21 "ClassStarter" "machine" "LClassStarter$Machine;") ∈ cs_all := cs_mem (i := 178) (by decide +kernel) rfl
theorem wd_179 : (Cond.fieldLink "ClassStarter" 30 "ClassStarter" "explorer" "LClassStarter$Explorer;") ∈ cs_all := cs_mem (i := 179) (by decide +kernel) rfl
theorem wd_180 : (Cond.laysFinal "ClassStarter" "ClassStarter" "program" "LClassStarter$Program;") ∈ cs_all := cs_mem (i := 180) (by decide +kernel) rfl
theorem wd_182 : (Cond.laysFinal "ClassStarter" "ClassStarter" "machine" "LClassStarter$Machine;") ∈ cs_all := cs_mem (i := 182) (by decide +kernel) rfl
theorem wd_184 : (Cond.laysFinal "ClassStarter" "ClassStarter" "explorer" "LClassStarter$Explorer;") ∈ cs_all := cs_mem (i := 184) (by decide +kernel) rfl
theorem wd_187 : (Cond.methodLink "ClassStarterLaw" 13 ⟨"ClassStarter", "declare", "(IZZI)I"⟩) ∈ cs_all := cs_mem (i := 187) (by decide +kernel) rfl
theorem wd_188 : (Cond.instanceMethod ⟨"ClassStarter", "declare", "(IZZI)I"⟩) ∈ cs_all := cs_mem (i := 188) (by decide +kernel) rfl
theorem wd_189 : (Cond.selects "ClassStarter" ⟨"ClassStarter", "declare", "(IZZI)I"⟩ ⟨"ClassStarter", "declare", "(IZZI)I"⟩) ∈ cs_all := cs_mem (i := 189) (by decide +kernel) rfl
set_option maxRecDepth 100000 in
theorem wd_190 : (Cond.code ⟨"ClassStarter", "declare", "(IZZI)I"⟩ prog_1_method_2_code 5 (some .int)) ∈ cs_all := cs_mem (i := 190) rfl rfl
theorem wd_191 : (Cond.methodLink "ClassStarter" 34 ⟨"ClassStarter$Machine", "hasBegun", "()Z"⟩) ∈ cs_all := cs_mem (i := 191) (by decide +kernel) rfl
theorem wd_192 : (Cond.instanceMethod ⟨"ClassStarter$Machine", "hasBegun", "()Z"⟩) ∈ cs_all := cs_mem (i := 192) (by decide +kernel) rfl
theorem wd_193 : (Cond.selects "ClassStarter$Machine" ⟨"ClassStarter$Machine", "hasBegun", "()Z"⟩ ⟨"ClassStarter$Machine", "hasBegun", "()Z"⟩) ∈ cs_all := cs_mem (i := 193) (by decide +kernel) rfl
set_option maxRecDepth 100000 in
theorem wd_194 : (Cond.code ⟨"ClassStarter$Machine", "hasBegun", "()Z"⟩ prog_4_method_6_code 1 (some .boolean)) ∈ cs_all := cs_mem (i := 194) rfl rfl
theorem wd_195 : (Cond.methodLink "ClassStarter" 38 ⟨"ClassStarter$Program", "addClass", "(IZZI)I"⟩) ∈ cs_all := cs_mem (i := 195) (by decide +kernel) rfl
theorem wd_196 : (Cond.instanceMethod ⟨"ClassStarter$Program", "addClass", "(IZZI)I"⟩) ∈ cs_all := cs_mem (i := 196) (by decide +kernel) rfl
theorem wd_197 : (Cond.selects "ClassStarter$Program" ⟨"ClassStarter$Program", "addClass", "(IZZI)I"⟩ ⟨"ClassStarter$Program", "addClass", "(IZZI)I"⟩) ∈ cs_all := cs_mem (i := 197) (by decide +kernel) rfl
set_option maxRecDepth 100000 in
theorem wd_198 : (Cond.code ⟨"ClassStarter$Program", "addClass", "(IZZI)I"⟩ prog_5_method_6_code 6 (some .int)) ∈ cs_all := cs_mem (i := 198) rfl rfl
theorem wd_199 : (Cond.methodLink "ClassStarter$Program" 41 ⟨"ClassStarter$Program", "isDeclared", "(I)Z"⟩) ∈ cs_all := cs_mem (i := 199) (by decide +kernel) rfl
theorem wd_200 : (Cond.instanceMethod ⟨"ClassStarter$Program", "isDeclared", "(I)Z"⟩) ∈ cs_all := cs_mem (i := 200) (by decide +kernel) rfl
theorem wd_201 : (Cond.selects "ClassStarter$Program" ⟨"ClassStarter$Program", "isDeclared", "(I)Z"⟩ ⟨"ClassStarter$Program", "isDeclared", "(I)Z"⟩) ∈ cs_all := cs_mem (i := 201) (by decide +kernel) rfl
set_option maxRecDepth 100000 in
theorem wd_202 : (Cond.code ⟨"ClassStarter$Program", "isDeclared", "(I)Z"⟩ prog_5_method_3_code 2 (some .boolean)) ∈ cs_all := cs_mem (i := 202) rfl rfl
theorem wd_203 : (Cond.methodLink "ClassStarter$Program" 45 ⟨"ClassStarter$Script", "addUseAhead", "(I)V"⟩) ∈ cs_all := cs_mem (i := 203) (by decide +kernel) rfl
theorem wd_204 : (Cond.instanceMethod ⟨"ClassStarter$Script", "addUseAhead", "(I)V"⟩) ∈ cs_all := cs_mem (i := 204) (by decide +kernel) rfl
theorem wd_205 : (Cond.selects "ClassStarter$Script" ⟨"ClassStarter$Script", "addUseAhead", "(I)V"⟩ ⟨"ClassStarter$Script", "addUseAhead", "(I)V"⟩) ∈ cs_all := cs_mem (i := 205) (by decide +kernel) rfl
set_option maxRecDepth 100000 in
theorem wd_206 : (Cond.code ⟨"ClassStarter$Script", "addUseAhead", "(I)V"⟩ prog_6_method_2_code 3 (none : Option Jvm.ClassFile.FieldType)) ∈ cs_all := cs_mem (i := 206) rfl rfl
theorem wd_207 : (Cond.methodLink "ClassStarter$Script" 31 ⟨"java/lang/System", "arraycopy", "(Ljava/lang/Object;ILjava/lang/Object;II)V"⟩) ∈ cs_all := cs_mem (i := 207) (by decide +kernel) rfl
theorem wd_208 : (Cond.static ⟨"java/lang/System", "arraycopy", "(Ljava/lang/Object;ILjava/lang/Object;II)V"⟩) ∈ cs_all := cs_mem (i := 208) (by decide +kernel) rfl
theorem wd_209 : (Cond.native ⟨"java/lang/System", "arraycopy", "(Ljava/lang/Object;ILjava/lang/Object;II)V"⟩) ∈ cs_all := cs_mem (i := 209) (by decide +kernel) rfl
theorem wd_210 : (Cond.methodLink "ClassStarter$Script" 37 ⟨"ClassStarter$Script", "write", "(IIII)V"⟩) ∈ cs_all := cs_mem (i := 210) (by decide +kernel) rfl
theorem wd_212 : (Cond.instanceMethod ⟨"ClassStarter$Script", "write", "(IIII)V"⟩) ∈ cs_all := cs_mem (i := 212) (by decide +kernel) rfl
set_option maxRecDepth 100000 in
theorem wd_213 : (Cond.code ⟨"ClassStarter$Script", "write", "(IIII)V"⟩ prog_6_method_4_code 5 (none : Option Jvm.ClassFile.FieldType)) ∈ cs_all := cs_mem (i := 213) rfl rfl
theorem wd_214 : (Cond.methodLink "ClassStarter" 42 ⟨"ClassStarter", "changed", "(I)I"⟩) ∈ cs_all := cs_mem (i := 214) (by decide +kernel) rfl
theorem wd_216 : (Cond.instanceMethod ⟨"ClassStarter", "changed", "(I)I"⟩) ∈ cs_all := cs_mem (i := 216) (by decide +kernel) rfl
set_option maxRecDepth 100000 in
theorem wd_217 : (Cond.code ⟨"ClassStarter", "changed", "(I)I"⟩ prog_1_method_17_code 2 (some .int)) ∈ cs_all := cs_mem (i := 217) rfl rfl
theorem wd_218 : (Cond.methodLink "ClassStarter" 130 ⟨"ClassStarter$Explorer", "forget", "()V"⟩) ∈ cs_all := cs_mem (i := 218) (by decide +kernel) rfl
theorem wd_219 : (Cond.instanceMethod ⟨"ClassStarter$Explorer", "forget", "()V"⟩) ∈ cs_all := cs_mem (i := 219) (by decide +kernel) rfl
theorem wd_220 : (Cond.selects "ClassStarter$Explorer" ⟨"ClassStarter$Explorer", "forget", "()V"⟩ ⟨"ClassStarter$Explorer", "forget", "()V"⟩) ∈ cs_all := cs_mem (i := 220) (by decide +kernel) rfl
set_option maxRecDepth 100000 in
theorem wd_221 : (Cond.code ⟨"ClassStarter$Explorer", "forget", "()V"⟩ prog_2_method_6_code 1 (none : Option Jvm.ClassFile.FieldType)) ∈ cs_all := cs_mem (i := 221) rfl rfl
theorem wd_222 : (Cond.methodLink "ClassStarterLaw" 18 ⟨"ClassStarter", "inherit", "(IIZ)I"⟩) ∈ cs_all := cs_mem (i := 222) (by decide +kernel) rfl
theorem wd_223 : (Cond.instanceMethod ⟨"ClassStarter", "inherit", "(IIZ)I"⟩) ∈ cs_all := cs_mem (i := 223) (by decide +kernel) rfl
theorem wd_224 : (Cond.selects "ClassStarter" ⟨"ClassStarter", "inherit", "(IIZ)I"⟩ ⟨"ClassStarter", "inherit", "(IIZ)I"⟩) ∈ cs_all := cs_mem (i := 224) (by decide +kernel) rfl
set_option maxRecDepth 100000 in
theorem wd_225 : (Cond.code ⟨"ClassStarter", "inherit", "(IIZ)I"⟩ prog_1_method_3_code 4 (some .int)) ∈ cs_all := cs_mem (i := 225) rfl rfl
theorem wd_226 : (Cond.methodLink "ClassStarter" 46 ⟨"ClassStarter$Program", "addInterface", "(IIZ)I"⟩) ∈ cs_all := cs_mem (i := 226) (by decide +kernel) rfl
theorem wd_227 : (Cond.instanceMethod ⟨"ClassStarter$Program", "addInterface", "(IIZ)I"⟩) ∈ cs_all := cs_mem (i := 227) (by decide +kernel) rfl
theorem wd_228 : (Cond.selects "ClassStarter$Program" ⟨"ClassStarter$Program", "addInterface", "(IIZ)I"⟩ ⟨"ClassStarter$Program", "addInterface", "(IIZ)I"⟩) ∈ cs_all := cs_mem (i := 228) (by decide +kernel) rfl
set_option maxRecDepth 100000 in
theorem wd_229 : (Cond.code ⟨"ClassStarter$Program", "addInterface", "(IIZ)I"⟩ prog_5_method_7_code 4 (some .int)) ∈ cs_all := cs_mem (i := 229) rfl rfl
theorem wd_230 : (Cond.methodLink "ClassStarter$Program" 49 ⟨"ClassStarter$Program", "inherits", "(II)Z"⟩) ∈ cs_all := cs_mem (i := 230) (by decide +kernel) rfl
theorem wd_232 : (Cond.instanceMethod ⟨"ClassStarter$Program", "inherits", "(II)Z"⟩) ∈ cs_all := cs_mem (i := 232) (by decide +kernel) rfl
set_option maxRecDepth 100000 in
theorem wd_233 : (Cond.code ⟨"ClassStarter$Program", "inherits", "(II)Z"⟩ prog_5_method_8_code 4 (some .boolean)) ∈ cs_all := cs_mem (i := 233) rfl rfl
theorem wd_234 : (Cond.methodLink "ClassStarterLaw" 23 ⟨"ClassStarter", "act", "(IIII)I"⟩) ∈ cs_all := cs_mem (i := 234) (by decide +kernel) rfl
theorem wd_235 : (Cond.instanceMethod ⟨"ClassStarter", "act", "(IIII)I"⟩) ∈ cs_all := cs_mem (i := 235) (by decide +kernel) rfl
theorem wd_236 : (Cond.selects "ClassStarter" ⟨"ClassStarter", "act", "(IIII)I"⟩ ⟨"ClassStarter", "act", "(IIII)I"⟩) ∈ cs_all := cs_mem (i := 236) (by decide +kernel) rfl
set_option maxRecDepth 100000 in
theorem wd_237 : (Cond.code ⟨"ClassStarter", "act", "(IIII)I"⟩ prog_1_method_4_code 5 (some .int)) ∈ cs_all := cs_mem (i := 237) rfl rfl
theorem wd_238 : (Cond.methodLink "ClassStarter" 50 ⟨"ClassStarter$Program", "addAction", "(IIII)I"⟩) ∈ cs_all := cs_mem (i := 238) (by decide +kernel) rfl
theorem wd_239 : (Cond.instanceMethod ⟨"ClassStarter$Program", "addAction", "(IIII)I"⟩) ∈ cs_all := cs_mem (i := 239) (by decide +kernel) rfl
theorem wd_240 : (Cond.selects "ClassStarter$Program" ⟨"ClassStarter$Program", "addAction", "(IIII)I"⟩ ⟨"ClassStarter$Program", "addAction", "(IIII)I"⟩) ∈ cs_all := cs_mem (i := 240) (by decide +kernel) rfl
set_option maxRecDepth 100000 in
theorem wd_241 : (Cond.code ⟨"ClassStarter$Program", "addAction", "(IIII)I"⟩ prog_5_method_9_code 5 (some .int)) ∈ cs_all := cs_mem (i := 241) rfl rfl
theorem wd_242 : (Cond.methodLink "ClassStarter$Program" 53 ⟨"ClassStarter$Program", "isAction", "(III)Z"⟩) ∈ cs_all := cs_mem (i := 242) (by decide +kernel) rfl
theorem wd_243 : (Cond.static ⟨"ClassStarter$Program", "isAction", "(III)Z"⟩) ∈ cs_all := cs_mem (i := 243) (by decide +kernel) rfl
set_option maxRecDepth 100000 in
theorem wd_244 : (Cond.code ⟨"ClassStarter$Program", "isAction", "(III)Z"⟩ prog_5_method_11_code 3 (some .boolean)) ∈ cs_all := cs_mem (i := 244) rfl rfl
theorem wd_245 : (Cond.methodLink "ClassStarter$Program" 64 ⟨"ClassStarter$Program", "isBelow", "(II)Z"⟩) ∈ cs_all := cs_mem (i := 245) (by decide +kernel) rfl
theorem wd_246 : (Cond.static ⟨"ClassStarter$Program", "isBelow", "(II)Z"⟩) ∈ cs_all := cs_mem (i := 246) (by decide +kernel) rfl
set_option maxRecDepth 100000 in
theorem wd_247 : (Cond.code ⟨"ClassStarter$Program", "isBelow", "(II)Z"⟩ prog_5_method_12_code 2 (some .boolean)) ∈ cs_all := cs_mem (i := 247) rfl rfl
theorem wd_248 : (Cond.methodLink "ClassStarter$Program" 57 ⟨"ClassStarter$Script", "addLast", "(III)I"⟩) ∈ cs_all := cs_mem (i := 248) (by decide +kernel) rfl
theorem wd_249 : (Cond.instanceMethod ⟨"ClassStarter$Script", "addLast", "(III)I"⟩) ∈ cs_all := cs_mem (i := 249) (by decide +kernel) rfl
theorem wd_250 : (Cond.selects "ClassStarter$Script" ⟨"ClassStarter$Script", "addLast", "(III)I"⟩ ⟨"ClassStarter$Script", "addLast", "(III)I"⟩) ∈ cs_all := cs_mem (i := 250) (by decide +kernel) rfl
set_option maxRecDepth 100000 in
theorem wd_251 : (Cond.code ⟨"ClassStarter$Script", "addLast", "(III)I"⟩ prog_6_method_3_code 4 (some .int)) ∈ cs_all := cs_mem (i := 251) rfl rfl
theorem wd_252 : (Cond.methodLink "ClassStarterLaw" 28 ⟨"ClassStarter", "plan", "(III)I"⟩) ∈ cs_all := cs_mem (i := 252) (by decide +kernel) rfl
theorem wd_253 : (Cond.instanceMethod ⟨"ClassStarter", "plan", "(III)I"⟩) ∈ cs_all := cs_mem (i := 253) (by decide +kernel) rfl
theorem wd_254 : (Cond.selects "ClassStarter" ⟨"ClassStarter", "plan", "(III)I"⟩ ⟨"ClassStarter", "plan", "(III)I"⟩) ∈ cs_all := cs_mem (i := 254) (by decide +kernel) rfl
set_option maxRecDepth 100000 in
theorem wd_255 : (Cond.code ⟨"ClassStarter", "plan", "(III)I"⟩ prog_1_method_5_code 4 (some .int)) ∈ cs_all := cs_mem (i := 255) rfl rfl
theorem wd_256 : (Cond.methodLink "ClassStarter" 54 ⟨"ClassStarter$Program", "addPlanned", "(III)I"⟩) ∈ cs_all := cs_mem (i := 256) (by decide +kernel) rfl
theorem wd_257 : (Cond.instanceMethod ⟨"ClassStarter$Program", "addPlanned", "(III)I"⟩) ∈ cs_all := cs_mem (i := 257) (by decide +kernel) rfl
theorem wd_258 : (Cond.selects "ClassStarter$Program" ⟨"ClassStarter$Program", "addPlanned", "(III)I"⟩ ⟨"ClassStarter$Program", "addPlanned", "(III)I"⟩) ∈ cs_all := cs_mem (i := 258) (by decide +kernel) rfl
set_option maxRecDepth 100000 in
theorem wd_259 : (Cond.code ⟨"ClassStarter$Program", "addPlanned", "(III)I"⟩ prog_5_method_10_code 5 (some .int)) ∈ cs_all := cs_mem (i := 259) rfl rfl
theorem wd_261 : (Cond.static ⟨"ClassStarter", "isThread", "(I)Z"⟩) ∈ cs_all := cs_mem (i := 261) (by decide +kernel) rfl
set_option maxRecDepth 100000 in
theorem wd_262 : (Cond.code ⟨"ClassStarter", "isThread", "(I)Z"⟩ prog_1_method_18_code 1 (some .boolean)) ∈ cs_all := cs_mem (i := 262) rfl rfl
theorem wd_263 : (Cond.methodLink "ClassStarterLaw" 33 ⟨"ClassStarter", "step", "(I)I"⟩) ∈ cs_all := cs_mem (i := 263) (by decide +kernel) rfl
theorem wd_264 : (Cond.instanceMethod ⟨"ClassStarter", "step", "(I)I"⟩) ∈ cs_all := cs_mem (i := 264) (by decide +kernel) rfl
theorem wd_265 : (Cond.selects "ClassStarter" ⟨"ClassStarter", "step", "(I)I"⟩ ⟨"ClassStarter", "step", "(I)I"⟩) ∈ cs_all := cs_mem (i := 265) (by decide +kernel) rfl
set_option maxRecDepth 100000 in
theorem wd_266 : (Cond.code ⟨"ClassStarter", "step", "(I)I"⟩ prog_1_method_6_code 2 (some .int)) ∈ cs_all := cs_mem (i := 266) rfl rfl
theorem wd_267 : (Cond.methodLink "ClassStarter" 58 ⟨"ClassStarter", "isThread", "(I)Z"⟩) ∈ cs_all := cs_mem (i := 267) (by decide +kernel) rfl
theorem wd_268 : (Cond.methodLink "ClassStarter" 62 ⟨"ClassStarter$Machine", "hasEnded", "(I)Z"⟩) ∈ cs_all := cs_mem (i := 268) (by decide +kernel) rfl
theorem wd_269 : (Cond.instanceMethod ⟨"ClassStarter$Machine", "hasEnded", "(I)Z"⟩) ∈ cs_all := cs_mem (i := 269) (by decide +kernel) rfl
theorem wd_270 : (Cond.selects "ClassStarter$Machine" ⟨"ClassStarter$Machine", "hasEnded", "(I)Z"⟩ ⟨"ClassStarter$Machine", "hasEnded", "(I)Z"⟩) ∈ cs_all := cs_mem (i := 270) (by decide +kernel) rfl
set_option maxRecDepth 100000 in
theorem wd_271 : (Cond.code ⟨"ClassStarter$Machine", "hasEnded", "(I)Z"⟩ prog_4_method_13_code 2 (some .boolean)) ∈ cs_all := cs_mem (i := 271) rfl rfl
theorem wd_272 : (Cond.methodLink "ClassStarter$Machine" 43 ⟨"ClassStarter$Machine", "isInClass", "(I)Z"⟩) ∈ cs_all := cs_mem (i := 272) (by decide +kernel) rfl
theorem wd_273 : (Cond.instanceMethod ⟨"ClassStarter$Machine", "isInClass", "(I)Z"⟩) ∈ cs_all := cs_mem (i := 273) (by decide +kernel) rfl
theorem wd_274 : (Cond.selects "ClassStarter$Machine" ⟨"ClassStarter$Machine", "isInClass", "(I)Z"⟩ ⟨"ClassStarter$Machine", "isInClass", "(I)Z"⟩) ∈ cs_all := cs_mem (i := 274) (by decide +kernel) rfl
set_option maxRecDepth 100000 in
theorem wd_275 : (Cond.code ⟨"ClassStarter$Machine", "isInClass", "(I)Z"⟩ prog_4_method_12_code 2 (some .boolean)) ∈ cs_all := cs_mem (i := 275) rfl rfl
theorem wd_276 : (Cond.methodLink "ClassStarter$Machine" 47 ⟨"ClassStarter$Machine", "topFrame", "(I)I"⟩) ∈ cs_all := cs_mem (i := 276) (by decide +kernel) rfl
theorem wd_277 : (Cond.instanceMethod ⟨"ClassStarter$Machine", "topFrame", "(I)I"⟩) ∈ cs_all := cs_mem (i := 277) (by decide +kernel) rfl
theorem wd_278 : (Cond.selects "ClassStarter$Machine" ⟨"ClassStarter$Machine", "topFrame", "(I)I"⟩ ⟨"ClassStarter$Machine", "topFrame", "(I)I"⟩) ∈ cs_all := cs_mem (i := 278) (by decide +kernel) rfl
set_option maxRecDepth 100000 in
theorem wd_279 : (Cond.code ⟨"ClassStarter$Machine", "topFrame", "(I)I"⟩ prog_4_method_11_code 2 (some .int)) ∈ cs_all := cs_mem (i := 279) rfl rfl
theorem wd_280 : (Cond.methodLink "ClassStarter$Machine" 50 ⟨"ClassStarter$Machine", "isBehindLast", "(I)Z"⟩) ∈ cs_all := cs_mem (i := 280) (by decide +kernel) rfl
theorem wd_282 : (Cond.instanceMethod ⟨"ClassStarter$Machine", "isBehindLast", "(I)Z"⟩) ∈ cs_all := cs_mem (i := 282) (by decide +kernel) rfl
set_option maxRecDepth 100000 in
theorem wd_283 : (Cond.code ⟨"ClassStarter$Machine", "isBehindLast", "(I)Z"⟩ prog_4_method_14_code 2 (some .boolean)) ∈ cs_all := cs_mem (i := 283) rfl rfl
theorem wd_284 : (Cond.methodLink "ClassStarter$Machine" 53 ⟨"ClassStarter$Program", "script", "(I)LClassStarter$Script;"⟩) ∈ cs_all := cs_mem (i := 284) (by decide +kernel) rfl
theorem wd_285 : (Cond.instanceMethod ⟨"ClassStarter$Program", "script", "(I)LClassStarter$Script;"⟩) ∈ cs_all := cs_mem (i := 285) (by decide +kernel) rfl
theorem wd_286 : (Cond.selects "ClassStarter$Program" ⟨"ClassStarter$Program", "script", "(I)LClassStarter$Script;"⟩ ⟨"ClassStarter$Program", "script", "(I)LClassStarter$Script;"⟩) ∈ cs_all := cs_mem (i := 286) (by decide +kernel) rfl
set_option maxRecDepth 100000 in
theorem wd_287 : (Cond.code ⟨"ClassStarter$Program", "script", "(I)LClassStarter$Script;"⟩ prog_5_method_4_code 2 (some (.object "ClassStarter$Script"))) ∈ cs_all := cs_mem (i := 287) rfl rfl
theorem wd_288 : (Cond.methodLink "ClassStarter$Machine" 57 ⟨"ClassStarter$Script", "length", "()I"⟩) ∈ cs_all := cs_mem (i := 288) (by decide +kernel) rfl
theorem wd_289 : (Cond.instanceMethod ⟨"ClassStarter$Script", "length", "()I"⟩) ∈ cs_all := cs_mem (i := 289) (by decide +kernel) rfl
theorem wd_290 : (Cond.selects "ClassStarter$Script" ⟨"ClassStarter$Script", "length", "()I"⟩ ⟨"ClassStarter$Script", "length", "()I"⟩) ∈ cs_all := cs_mem (i := 290) (by decide +kernel) rfl
set_option maxRecDepth 100000 in
theorem wd_291 : (Cond.code ⟨"ClassStarter$Script", "length", "()I"⟩ prog_6_method_5_code 1 (some .int)) ∈ cs_all := cs_mem (i := 291) rfl rfl
theorem wd_292 : (Cond.methodLink "ClassStarter" 65 ⟨"ClassStarter$Machine", "awaited", "(I)I"⟩) ∈ cs_all := cs_mem (i := 292) (by decide +kernel) rfl
theorem wd_293 : (Cond.instanceMethod ⟨"ClassStarter$Machine", "awaited", "(I)I"⟩) ∈ cs_all := cs_mem (i := 293) (by decide +kernel) rfl
theorem wd_294 : (Cond.selects "ClassStarter$Machine" ⟨"ClassStarter$Machine", "awaited", "(I)I"⟩ ⟨"ClassStarter$Machine", "awaited", "(I)I"⟩) ∈ cs_all := cs_mem (i := 294) (by decide +kernel) rfl
set_option maxRecDepth 100000 in
theorem wd_295 : (Cond.code ⟨"ClassStarter$Machine", "awaited", "(I)I"⟩ prog_4_method_15_code 4 (some .int)) ∈ cs_all := cs_mem (i := 295) rfl rfl
theorem wd_296 : (Cond.methodLink "ClassStarter$Machine" 63 ⟨"ClassStarter$Program", "usedBy", "(II)I"⟩) ∈ cs_all := cs_mem (i := 296) (by decide +kernel) rfl
theorem wd_297 : (Cond.instanceMethod ⟨"ClassStarter$Program", "usedBy", "(II)I"⟩) ∈ cs_all := cs_mem (i := 297) (by decide +kernel) rfl
theorem wd_298 : (Cond.selects "ClassStarter$Program" ⟨"ClassStarter$Program", "usedBy", "(II)I"⟩ ⟨"ClassStarter$Program", "usedBy", "(II)I"⟩) ∈ cs_all := cs_mem (i := 298) (by decide +kernel) rfl
set_option maxRecDepth 100000 in
theorem wd_299 : (Cond.code ⟨"ClassStarter$Program", "usedBy", "(II)I"⟩ prog_5_method_13_code 5 (some .int)) ∈ cs_all := cs_mem (i := 299) rfl rfl
theorem wd_300 : (Cond.methodLink "ClassStarter$Program" 67 ⟨"ClassStarter$Script", "actionAt", "(I)I"⟩) ∈ cs_all := cs_mem (i := 300) (by decide +kernel) rfl
theorem wd_301 : (Cond.instanceMethod ⟨"ClassStarter$Script", "actionAt", "(I)I"⟩) ∈ cs_all := cs_mem (i := 301) (by decide +kernel) rfl
theorem wd_302 : (Cond.selects "ClassStarter$Script" ⟨"ClassStarter$Script", "actionAt", "(I)I"⟩ ⟨"ClassStarter$Script", "actionAt", "(I)I"⟩) ∈ cs_all := cs_mem (i := 302) (by decide +kernel) rfl
set_option maxRecDepth 100000 in
theorem wd_303 : (Cond.code ⟨"ClassStarter$Script", "actionAt", "(I)I"⟩ prog_6_method_6_code 2 (some .int)) ∈ cs_all := cs_mem (i := 303) rfl rfl
theorem wd_304 : (Cond.methodLink "ClassStarter$Program" 71 ⟨"ClassStarter$Script", "firstOperandAt", "(I)I"⟩) ∈ cs_all := cs_mem (i := 304) (by decide +kernel) rfl
theorem wd_305 : (Cond.instanceMethod ⟨"ClassStarter$Script", "firstOperandAt", "(I)I"⟩) ∈ cs_all := cs_mem (i := 305) (by decide +kernel) rfl
theorem wd_306 : (Cond.selects "ClassStarter$Script" ⟨"ClassStarter$Script", "firstOperandAt", "(I)I"⟩ ⟨"ClassStarter$Script", "firstOperandAt", "(I)I"⟩) ∈ cs_all := cs_mem (i := 306) (by decide +kernel) rfl
set_option maxRecDepth 100000 in
theorem wd_307 : (Cond.code ⟨"ClassStarter$Script", "firstOperandAt", "(I)I"⟩ prog_6_method_7_code 2 (some .int)) ∈ cs_all := cs_mem (i := 307) rfl rfl
theorem wd_308 : (Cond.methodLink "ClassStarter$Program" 74 ⟨"ClassStarter$Script", "secondOperandAt", "(I)I"⟩) ∈ cs_all := cs_mem (i := 308) (by decide +kernel) rfl
theorem wd_309 : (Cond.instanceMethod ⟨"ClassStarter$Script", "secondOperandAt", "(I)I"⟩) ∈ cs_all := cs_mem (i := 309) (by decide +kernel) rfl
theorem wd_310 : (Cond.selects "ClassStarter$Script" ⟨"ClassStarter$Script", "secondOperandAt", "(I)I"⟩ ⟨"ClassStarter$Script", "secondOperandAt", "(I)I"⟩) ∈ cs_all := cs_mem (i := 310) (by decide +kernel) rfl
set_option maxRecDepth 100000 in
theorem wd_311 : (Cond.code ⟨"ClassStarter$Script", "secondOperandAt", "(I)I"⟩ prog_6_method_8_code 2 (some .int)) ∈ cs_all := cs_mem (i := 311) rfl rfl
theorem wd_312 : (Cond.methodLink "ClassStarter$Machine" 67 ⟨"ClassStarter$Machine", "stateOf", "(I)I"⟩) ∈ cs_all := cs_mem (i := 312) (by decide +kernel) rfl
theorem wd_313 : (Cond.instanceMethod ⟨"ClassStarter$Machine", "stateOf", "(I)I"⟩) ∈ cs_all := cs_mem (i := 313) (by decide +kernel) rfl
theorem wd_314 : (Cond.selects "ClassStarter$Machine" ⟨"ClassStarter$Machine", "stateOf", "(I)I"⟩ ⟨"ClassStarter$Machine", "stateOf", "(I)I"⟩) ∈ cs_all := cs_mem (i := 314) (by decide +kernel) rfl
set_option maxRecDepth 100000 in
theorem wd_315 : (Cond.code ⟨"ClassStarter$Machine", "stateOf", "(I)I"⟩ prog_4_method_7_code 2 (some .int)) ∈ cs_all := cs_mem (i := 315) rfl rfl
theorem wd_316 : (Cond.methodLink "ClassStarter" 68 ⟨"ClassStarter$Machine", "advance", "(I)V"⟩) ∈ cs_all := cs_mem (i := 316) (by decide +kernel) rfl
theorem wd_317 : (Cond.instanceMethod ⟨"ClassStarter$Machine", "advance", "(I)V"⟩) ∈ cs_all := cs_mem (i := 317) (by decide +kernel) rfl
theorem wd_318 : (Cond.selects "ClassStarter$Machine" ⟨"ClassStarter$Machine", "advance", "(I)V"⟩ ⟨"ClassStarter$Machine", "advance", "(I)V"⟩) ∈ cs_all := cs_mem (i := 318) (by decide +kernel) rfl
set_option maxRecDepth 100000 in
theorem wd_319 : (Cond.code ⟨"ClassStarter$Machine", "advance", "(I)V"⟩ prog_4_method_19_code 4 (none : Option Jvm.ClassFile.FieldType)) ∈ cs_all := cs_mem (i := 319) rfl rfl
theorem wd_320 : (Cond.methodLink "ClassStarter$Machine" 82 ⟨"ClassStarter$Machine", "failTop", "(I)V"⟩) ∈ cs_all := cs_mem (i := 320) (by decide +kernel) rfl
theorem wd_322 : (Cond.instanceMethod ⟨"ClassStarter$Machine", "failTop", "(I)V"⟩) ∈ cs_all := cs_mem (i := 322) (by decide +kernel) rfl
set_option maxRecDepth 100000 in
theorem wd_323 : (Cond.code ⟨"ClassStarter$Machine", "failTop", "(I)V"⟩ prog_4_method_20_code 3 (none : Option Jvm.ClassFile.FieldType)) ∈ cs_all := cs_mem (i := 323) rfl rfl
theorem wd_324 : (Cond.methodLink "ClassStarter$Machine" 98 ⟨"ClassStarter$Machine", "dropTop", "(II)V"⟩) ∈ cs_all := cs_mem (i := 324) (by decide +kernel) rfl
theorem wd_326 : (Cond.instanceMethod ⟨"ClassStarter$Machine", "dropTop", "(II)V"⟩) ∈ cs_all := cs_mem (i := 326) (by decide +kernel) rfl
set_option maxRecDepth 100000 in
theorem wd_327 : (Cond.code ⟨"ClassStarter$Machine", "dropTop", "(II)V"⟩ prog_4_method_22_code 4 (none : Option Jvm.ClassFile.FieldType)) ∈ cs_all := cs_mem (i := 327) rfl rfl
theorem wd_328 : (Cond.methodLink "ClassStarter$Machine" 101 ⟨"ClassStarter$Fault", "outside", "(I)I"⟩) ∈ cs_all := cs_mem (i := 328) (by decide +kernel) rfl
theorem wd_329 : (Cond.static ⟨"ClassStarter$Fault", "outside", "(I)I"⟩) ∈ cs_all := cs_mem (i := 329) (by decide +kernel) rfl
set_option maxRecDepth 100000 in
theorem wd_330 : (Cond.code ⟨"ClassStarter$Fault", "outside", "(I)I"⟩ prog_3_method_2_code 1 (some .int)) ∈ cs_all := cs_mem (i := 330) rfl rfl
theorem wd_331 : (Cond.methodLink "ClassStarter$Fault" 9 ⟨"ClassStarter$Fault", "isException", "(I)Z"⟩) ∈ cs_all := cs_mem (i := 331) (by decide +kernel) rfl
theorem wd_332 : (Cond.static ⟨"ClassStarter$Fault", "isException", "(I)Z"⟩) ∈ cs_all := cs_mem (i := 332) (by decide +kernel) rfl
set_option maxRecDepth 100000 in
theorem wd_333 : (Cond.code ⟨"ClassStarter$Fault", "isException", "(I)Z"⟩ prog_3_method_4_code 1 (some .boolean)) ∈ cs_all := cs_mem (i := 333) rfl rfl
theorem wd_334 : (Cond.methodLink "ClassStarter$Machine" 104 ⟨"ClassStarter$Machine", "come", "(II)V"⟩) ∈ cs_all := cs_mem (i := 334) (by decide +kernel) rfl
theorem wd_336 : (Cond.instanceMethod ⟨"ClassStarter$Machine", "come", "(II)V"⟩) ∈ cs_all := cs_mem (i := 336) (by decide +kernel) rfl
set_option maxRecDepth 100000 in
theorem wd_337 : (Cond.code ⟨"ClassStarter$Machine", "come", "(II)V"⟩ prog_4_method_27_code 4 (none : Option Jvm.ClassFile.FieldType)) ∈ cs_all := cs_mem (i := 337) rfl rfl
theorem wd_338 : (Cond.methodLink "ClassStarter$Machine" 131 ⟨"ClassStarter$Script", "isGuarded", "(I)Z"⟩) ∈ cs_all := cs_mem (i := 338) (by decide +kernel) rfl
theorem wd_339 : (Cond.instanceMethod ⟨"ClassStarter$Script", "isGuarded", "(I)Z"⟩) ∈ cs_all := cs_mem (i := 339) (by decide +kernel) rfl
theorem wd_340 : (Cond.selects "ClassStarter$Script" ⟨"ClassStarter$Script", "isGuarded", "(I)Z"⟩ ⟨"ClassStarter$Script", "isGuarded", "(I)Z"⟩) ∈ cs_all := cs_mem (i := 340) (by decide +kernel) rfl
set_option maxRecDepth 100000 in
theorem wd_341 : (Cond.code ⟨"ClassStarter$Script", "isGuarded", "(I)Z"⟩ prog_6_method_9_code 2 (some .boolean)) ∈ cs_all := cs_mem (i := 341) rfl rfl
theorem wd_342 : (Cond.methodLink "ClassStarter$Machine" 134 ⟨"ClassStarter$Fault", "number", "(I)I"⟩) ∈ cs_all := cs_mem (i := 342) (by decide +kernel) rfl
theorem wd_343 : (Cond.static ⟨"ClassStarter$Fault", "number", "(I)I"⟩) ∈ cs_all := cs_mem (i := 343) (by decide +kernel) rfl
set_option maxRecDepth 100000 in
theorem wd_344 : (Cond.code ⟨"ClassStarter$Fault", "number", "(I)I"⟩ prog_3_method_3_code 1 (some .int)) ∈ cs_all := cs_mem (i := 344) rfl rfl
theorem wd_345 : (Cond.methodLink "ClassStarter$Machine" 128 ⟨"ClassStarter$Machine", "write", "(I)V"⟩) ∈ cs_all := cs_mem (i := 345) (by decide +kernel) rfl
theorem wd_347 : (Cond.instanceMethod ⟨"ClassStarter$Machine", "write", "(I)V"⟩) ∈ cs_all := cs_mem (i := 347) (by decide +kernel) rfl
set_option maxRecDepth 100000 in
theorem wd_348 : (Cond.code ⟨"ClassStarter$Machine", "write", "(I)V"⟩ prog_4_method_28_code 2 (none : Option Jvm.ClassFile.FieldType)) ∈ cs_all := cs_mem (i := 348) rfl rfl
theorem wd_349 : (Cond.methodLink "ClassStarter$Machine" 86 ⟨"ClassStarter$Machine", "finishTop", "(I)V"⟩) ∈ cs_all := cs_mem (i := 349) (by decide +kernel) rfl
theorem wd_351 : (Cond.instanceMethod ⟨"ClassStarter$Machine", "finishTop", "(I)V"⟩) ∈ cs_all := cs_mem (i := 351) (by decide +kernel) rfl
set_option maxRecDepth 100000 in
theorem wd_352 : (Cond.code ⟨"ClassStarter$Machine", "finishTop", "(I)V"⟩ prog_4_method_21_code 2 (none : Option Jvm.ClassFile.FieldType)) ∈ cs_all := cs_mem (i := 352) rfl rfl
theorem wd_353 : (Cond.methodLink "ClassStarter$Machine" 107 ⟨"ClassStarter$Machine", "makeUse", "(I)V"⟩) ∈ cs_all := cs_mem (i := 353) (by decide +kernel) rfl
theorem wd_355 : (Cond.instanceMethod ⟨"ClassStarter$Machine", "makeUse", "(I)V"⟩) ∈ cs_all := cs_mem (i := 355) (by decide +kernel) rfl
set_option maxRecDepth 100000 in
theorem wd_356 : (Cond.code ⟨"ClassStarter$Machine", "makeUse", "(I)V"⟩ prog_4_method_25_code 5 (none : Option Jvm.ClassFile.FieldType)) ∈ cs_all := cs_mem (i := 356) rfl rfl
theorem wd_357 : (Cond.methodLink "ClassStarter$Machine" 116 ⟨"ClassStarter$Script", "actionAt", "(I)I"⟩) ∈ cs_all := cs_mem (i := 357) (by decide +kernel) rfl
theorem wd_358 : (Cond.methodLink "ClassStarter$Machine" 119 ⟨"ClassStarter$Script", "secondOperandAt", "(I)I"⟩) ∈ cs_all := cs_mem (i := 358) (by decide +kernel) rfl
theorem wd_359 : (Cond.methodLink "ClassStarter$Machine" 122 ⟨"ClassStarter$Script", "firstOperandAt", "(I)I"⟩) ∈ cs_all := cs_mem (i := 359) (by decide +kernel) rfl
theorem wd_360 : (Cond.methodLink "ClassStarter$Machine" 125 ⟨"ClassStarter$Machine", "staticOf", "(II)I"⟩) ∈ cs_all := cs_mem (i := 360) (by decide +kernel) rfl
theorem wd_361 : (Cond.instanceMethod ⟨"ClassStarter$Machine", "staticOf", "(II)I"⟩) ∈ cs_all := cs_mem (i := 361) (by decide +kernel) rfl
theorem wd_362 : (Cond.selects "ClassStarter$Machine" ⟨"ClassStarter$Machine", "staticOf", "(II)I"⟩ ⟨"ClassStarter$Machine", "staticOf", "(II)I"⟩) ∈ cs_all := cs_mem (i := 362) (by decide +kernel) rfl
set_option maxRecDepth 100000 in
theorem wd_363 : (Cond.code ⟨"ClassStarter$Machine", "staticOf", "(II)I"⟩ prog_4_method_8_code 3 (some .int)) ∈ cs_all := cs_mem (i := 363) rfl rfl
theorem wd_364 : (Cond.methodLink "ClassStarter$Machine" 37 ⟨"ClassStarter$Program", "secondStatic", "(I)I"⟩) ∈ cs_all := cs_mem (i := 364) (by decide +kernel) rfl
theorem wd_365 : (Cond.instanceMethod ⟨"ClassStarter$Program", "secondStatic", "(I)I"⟩) ∈ cs_all := cs_mem (i := 365) (by decide +kernel) rfl
theorem wd_366 : (Cond.selects "ClassStarter$Program" ⟨"ClassStarter$Program", "secondStatic", "(I)I"⟩ ⟨"ClassStarter$Program", "secondStatic", "(I)I"⟩) ∈ cs_all := cs_mem (i := 366) (by decide +kernel) rfl
set_option maxRecDepth 100000 in
theorem wd_367 : (Cond.code ⟨"ClassStarter$Program", "secondStatic", "(I)I"⟩ prog_5_method_5_code 2 (some .int)) ∈ cs_all := cs_mem (i := 367) rfl rfl
theorem wd_368 : (Cond.methodLink "ClassStarter$Machine" 89 ⟨"ClassStarter$Machine", "use", "(II)V"⟩) ∈ cs_all := cs_mem (i := 368) (by decide +kernel) rfl
theorem wd_370 : (Cond.instanceMethod ⟨"ClassStarter$Machine", "use", "(II)V"⟩) ∈ cs_all := cs_mem (i := 370) (by decide +kernel) rfl
set_option maxRecDepth 100000 in
theorem wd_371 : (Cond.code ⟨"ClassStarter$Machine", "use", "(II)V"⟩ prog_4_method_23_code 3 (none : Option Jvm.ClassFile.FieldType)) ∈ cs_all := cs_mem (i := 371) rfl rfl
theorem wd_372 : (Cond.methodLink "ClassStarter$Machine" 110 ⟨"ClassStarter$Program", "isDeclared", "(I)Z"⟩) ∈ cs_all := cs_mem (i := 372) (by decide +kernel) rfl
theorem wd_373 : (Cond.methodLink "ClassStarter$Machine" 113 ⟨"ClassStarter$Machine", "begin", "(II)V"⟩) ∈ cs_all := cs_mem (i := 373) (by decide +kernel) rfl
theorem wd_375 : (Cond.instanceMethod ⟨"ClassStarter$Machine", "begin", "(II)V"⟩) ∈ cs_all := cs_mem (i := 375) (by decide +kernel) rfl
set_option maxRecDepth 100000 in
theorem wd_376 : (Cond.code ⟨"ClassStarter$Machine", "begin", "(II)V"⟩ prog_4_method_24_code 3 (none : Option Jvm.ClassFile.FieldType)) ∈ cs_all := cs_mem (i := 376) rfl rfl
theorem wd_377 : (Cond.methodLink "ClassStarter$Machine" 93 ⟨"ClassStarter$Machine", "perform", "(I)V"⟩) ∈ cs_all := cs_mem (i := 377) (by decide +kernel) rfl
theorem wd_379 : (Cond.instanceMethod ⟨"ClassStarter$Machine", "perform", "(I)V"⟩) ∈ cs_all := cs_mem (i := 379) (by decide +kernel) rfl
set_option maxRecDepth 100000 in
theorem wd_380 : (Cond.code ⟨"ClassStarter$Machine", "perform", "(I)V"⟩ prog_4_method_26_code 5 (none : Option Jvm.ClassFile.FieldType)) ∈ cs_all := cs_mem (i := 380) rfl rfl
theorem wd_381 : (Cond.methodLink "ClassStarterLaw" 38 ⟨"ClassStarter", "reset", "()I"⟩) ∈ cs_all := cs_mem (i := 381) (by decide +kernel) rfl
theorem wd_382 : (Cond.instanceMethod ⟨"ClassStarter", "reset", "()I"⟩) ∈ cs_all := cs_mem (i := 382) (by decide +kernel) rfl
theorem wd_383 : (Cond.selects "ClassStarter" ⟨"ClassStarter", "reset", "()I"⟩ ⟨"ClassStarter", "reset", "()I"⟩) ∈ cs_all := cs_mem (i := 383) (by decide +kernel) rfl
set_option maxRecDepth 100000 in
theorem wd_384 : (Cond.code ⟨"ClassStarter", "reset", "()I"⟩ prog_1_method_7_code 2 (some .int)) ∈ cs_all := cs_mem (i := 384) rfl rfl
theorem wd_385 : (Cond.methodLink "ClassStarter" 72 ⟨"ClassStarter$Machine", "steps", "()I"⟩) ∈ cs_all := cs_mem (i := 385) (by decide +kernel) rfl
theorem wd_386 : (Cond.instanceMethod ⟨"ClassStarter$Machine", "steps", "()I"⟩) ∈ cs_all := cs_mem (i := 386) (by decide +kernel) rfl
theorem wd_387 : (Cond.selects "ClassStarter$Machine" ⟨"ClassStarter$Machine", "steps", "()I"⟩ ⟨"ClassStarter$Machine", "steps", "()I"⟩) ∈ cs_all := cs_mem (i := 387) (by decide +kernel) rfl
set_option maxRecDepth 100000 in
theorem wd_388 : (Cond.code ⟨"ClassStarter$Machine", "steps", "()I"⟩ prog_4_method_5_code 1 (some .int)) ∈ cs_all := cs_mem (i := 388) rfl rfl
theorem wd_389 : (Cond.methodLink "ClassStarter" 76 ⟨"ClassStarter$Machine", "restart", "()V"⟩) ∈ cs_all := cs_mem (i := 389) (by decide +kernel) rfl
theorem wd_390 : (Cond.methodLink "ClassStarterLaw" 43 ⟨"ClassStarter", "state", "(I)I"⟩) ∈ cs_all := cs_mem (i := 390) (by decide +kernel) rfl
theorem wd_391 : (Cond.instanceMethod ⟨"ClassStarter", "state", "(I)I"⟩) ∈ cs_all := cs_mem (i := 391) (by decide +kernel) rfl
theorem wd_392 : (Cond.selects "ClassStarter" ⟨"ClassStarter", "state", "(I)I"⟩ ⟨"ClassStarter", "state", "(I)I"⟩) ∈ cs_all := cs_mem (i := 392) (by decide +kernel) rfl
set_option maxRecDepth 100000 in
theorem wd_393 : (Cond.code ⟨"ClassStarter", "state", "(I)I"⟩ prog_1_method_8_code 2 (some .int)) ∈ cs_all := cs_mem (i := 393) rfl rfl
theorem wd_394 : (Cond.methodLink "ClassStarter" 79 ⟨"ClassStarter$Program", "isDeclared", "(I)Z"⟩) ∈ cs_all := cs_mem (i := 394) (by decide +kernel) rfl
theorem wd_395 : (Cond.methodLink "ClassStarter" 82 ⟨"ClassStarter$Machine", "stateOf", "(I)I"⟩) ∈ cs_all := cs_mem (i := 395) (by decide +kernel) rfl
theorem wd_396 : (Cond.methodLink "ClassStarterLaw" 47 ⟨"ClassStarter", "statics", "(II)J"⟩) ∈ cs_all := cs_mem (i := 396) (by decide +kernel) rfl
theorem wd_397 : (Cond.instanceMethod ⟨"ClassStarter", "statics", "(II)J"⟩) ∈ cs_all := cs_mem (i := 397) (by decide +kernel) rfl
theorem wd_398 : (Cond.selects "ClassStarter" ⟨"ClassStarter", "statics", "(II)J"⟩ ⟨"ClassStarter", "statics", "(II)J"⟩) ∈ cs_all := cs_mem (i := 398) (by decide +kernel) rfl
set_option maxRecDepth 100000 in
theorem wd_399 : (Cond.code ⟨"ClassStarter", "statics", "(II)J"⟩ prog_1_method_9_code 3 (some .long)) ∈ cs_all := cs_mem (i := 399) rfl rfl
theorem wd_400 : (Cond.methodLink "ClassStarter" 85 ⟨"ClassStarter$Machine", "staticOf", "(II)I"⟩) ∈ cs_all := cs_mem (i := 400) (by decide +kernel) rfl
theorem wd_401 : (Cond.constantLong "ClassStarter" 89 1000000000000) ∈ cs_all := cs_mem (i := 401) (by decide +kernel) rfl
theorem wd_402 : (Cond.methodLink "ClassStarterLaw" 52 ⟨"ClassStarter", "result", "(I)I"⟩) ∈ cs_all := cs_mem (i := 402) (by decide +kernel) rfl
theorem wd_403 : (Cond.instanceMethod ⟨"ClassStarter", "result", "(I)I"⟩) ∈ cs_all := cs_mem (i := 403) (by decide +kernel) rfl
theorem wd_404 : (Cond.selects "ClassStarter" ⟨"ClassStarter", "result", "(I)I"⟩ ⟨"ClassStarter", "result", "(I)I"⟩) ∈ cs_all := cs_mem (i := 404) (by decide +kernel) rfl
set_option maxRecDepth 100000 in
theorem wd_405 : (Cond.code ⟨"ClassStarter", "result", "(I)I"⟩ prog_1_method_10_code 2 (some .int)) ∈ cs_all := cs_mem (i := 405) rfl rfl
theorem wd_406 : (Cond.methodLink "ClassStarter" 91 ⟨"ClassStarter$Machine", "resultOf", "(I)I"⟩) ∈ cs_all := cs_mem (i := 406) (by decide +kernel) rfl
theorem wd_407 : (Cond.instanceMethod ⟨"ClassStarter$Machine", "resultOf", "(I)I"⟩) ∈ cs_all := cs_mem (i := 407) (by decide +kernel) rfl
theorem wd_408 : (Cond.selects "ClassStarter$Machine" ⟨"ClassStarter$Machine", "resultOf", "(I)I"⟩ ⟨"ClassStarter$Machine", "resultOf", "(I)I"⟩) ∈ cs_all := cs_mem (i := 408) (by decide +kernel) rfl
set_option maxRecDepth 100000 in
theorem wd_409 : (Cond.code ⟨"ClassStarter$Machine", "resultOf", "(I)I"⟩ prog_4_method_17_code 2 (some .int)) ∈ cs_all := cs_mem (i := 409) rfl rfl
theorem wd_410 : (Cond.methodLink "ClassStarter$Machine" 70 ⟨"ClassStarter$Machine", "hasEnded", "(I)Z"⟩) ∈ cs_all := cs_mem (i := 410) (by decide +kernel) rfl
theorem wd_411 : (Cond.methodLink "ClassStarter$Machine" 76 ⟨"ClassStarter$Machine", "nextAble", "(I)I"⟩) ∈ cs_all := cs_mem (i := 411) (by decide +kernel) rfl
theorem wd_412 : (Cond.instanceMethod ⟨"ClassStarter$Machine", "nextAble", "(I)I"⟩) ∈ cs_all := cs_mem (i := 412) (by decide +kernel) rfl
theorem wd_413 : (Cond.selects "ClassStarter$Machine" ⟨"ClassStarter$Machine", "nextAble", "(I)I"⟩ ⟨"ClassStarter$Machine", "nextAble", "(I)I"⟩) ∈ cs_all := cs_mem (i := 413) (by decide +kernel) rfl
set_option maxRecDepth 100000 in
theorem wd_414 : (Cond.code ⟨"ClassStarter$Machine", "nextAble", "(I)I"⟩ prog_4_method_16_code 3 (some .int)) ∈ cs_all := cs_mem (i := 414) rfl rfl
theorem wd_415 : (Cond.methodLink "ClassStarter$Machine" 73 ⟨"ClassStarter$Machine", "awaited", "(I)I"⟩) ∈ cs_all := cs_mem (i := 415) (by decide +kernel) rfl
theorem wd_416 : (Cond.methodLink "ClassStarter$Machine" 79 ⟨"ClassStarter$Machine", "lastResultOf", "(I)I"⟩) ∈ cs_all := cs_mem (i := 416) (by decide +kernel) rfl
theorem wd_417 : (Cond.instanceMethod ⟨"ClassStarter$Machine", "lastResultOf", "(I)I"⟩) ∈ cs_all := cs_mem (i := 417) (by decide +kernel) rfl
theorem wd_418 : (Cond.selects "ClassStarter$Machine" ⟨"ClassStarter$Machine", "lastResultOf", "(I)I"⟩ ⟨"ClassStarter$Machine", "lastResultOf", "(I)I"⟩) ∈ cs_all := cs_mem (i := 418) (by decide +kernel) rfl
set_option maxRecDepth 100000 in
theorem wd_419 : (Cond.code ⟨"ClassStarter$Machine", "lastResultOf", "(I)I"⟩ prog_4_method_18_code 2 (some .int)) ∈ cs_all := cs_mem (i := 419) rfl rfl
theorem wd_420 : (Cond.methodLink "ClassStarterLaw" 56 ⟨"ClassStarter", "inside", "(I)I"⟩) ∈ cs_all := cs_mem (i := 420) (by decide +kernel) rfl
theorem wd_421 : (Cond.instanceMethod ⟨"ClassStarter", "inside", "(I)I"⟩) ∈ cs_all := cs_mem (i := 421) (by decide +kernel) rfl
theorem wd_422 : (Cond.selects "ClassStarter" ⟨"ClassStarter", "inside", "(I)I"⟩ ⟨"ClassStarter", "inside", "(I)I"⟩) ∈ cs_all := cs_mem (i := 422) (by decide +kernel) rfl
set_option maxRecDepth 100000 in
theorem wd_423 : (Cond.code ⟨"ClassStarter", "inside", "(I)I"⟩ prog_1_method_11_code 2 (some .int)) ∈ cs_all := cs_mem (i := 423) rfl rfl
theorem wd_424 : (Cond.methodLink "ClassStarter" 94 ⟨"ClassStarter$Machine", "isInClass", "(I)Z"⟩) ∈ cs_all := cs_mem (i := 424) (by decide +kernel) rfl
theorem wd_425 : (Cond.methodLink "ClassStarter" 97 ⟨"ClassStarter$Machine", "topFrame", "(I)I"⟩) ∈ cs_all := cs_mem (i := 425) (by decide +kernel) rfl
theorem wd_426 : (Cond.methodLink "ClassStarterLaw" 60 ⟨"ClassStarter", "waitsFor", "(I)I"⟩) ∈ cs_all := cs_mem (i := 426) (by decide +kernel) rfl
theorem wd_427 : (Cond.instanceMethod ⟨"ClassStarter", "waitsFor", "(I)I"⟩) ∈ cs_all := cs_mem (i := 427) (by decide +kernel) rfl
theorem wd_428 : (Cond.selects "ClassStarter" ⟨"ClassStarter", "waitsFor", "(I)I"⟩ ⟨"ClassStarter", "waitsFor", "(I)I"⟩) ∈ cs_all := cs_mem (i := 428) (by decide +kernel) rfl
set_option maxRecDepth 100000 in
theorem wd_429 : (Cond.code ⟨"ClassStarter", "waitsFor", "(I)I"⟩ prog_1_method_12_code 3 (some .int)) ∈ cs_all := cs_mem (i := 429) rfl rfl
theorem wd_430 : (Cond.methodLink "ClassStarterLaw" 64 ⟨"ClassStarter", "logged", "(I)J"⟩) ∈ cs_all := cs_mem (i := 430) (by decide +kernel) rfl
theorem wd_431 : (Cond.instanceMethod ⟨"ClassStarter", "logged", "(I)J"⟩) ∈ cs_all := cs_mem (i := 431) (by decide +kernel) rfl
theorem wd_432 : (Cond.selects "ClassStarter" ⟨"ClassStarter", "logged", "(I)J"⟩ ⟨"ClassStarter", "logged", "(I)J"⟩) ∈ cs_all := cs_mem (i := 432) (by decide +kernel) rfl
set_option maxRecDepth 100000 in
theorem wd_433 : (Cond.code ⟨"ClassStarter", "logged", "(I)J"⟩ prog_1_method_13_code 2 (some .long)) ∈ cs_all := cs_mem (i := 433) rfl rfl
theorem wd_434 : (Cond.methodLink "ClassStarter" 100 ⟨"ClassStarter$Machine", "logSize", "()I"⟩) ∈ cs_all := cs_mem (i := 434) (by decide +kernel) rfl
theorem wd_435 : (Cond.instanceMethod ⟨"ClassStarter$Machine", "logSize", "()I"⟩) ∈ cs_all := cs_mem (i := 435) (by decide +kernel) rfl
theorem wd_436 : (Cond.selects "ClassStarter$Machine" ⟨"ClassStarter$Machine", "logSize", "()I"⟩ ⟨"ClassStarter$Machine", "logSize", "()I"⟩) ∈ cs_all := cs_mem (i := 436) (by decide +kernel) rfl
set_option maxRecDepth 100000 in
theorem wd_437 : (Cond.code ⟨"ClassStarter$Machine", "logSize", "()I"⟩ prog_4_method_9_code 1 (some .int)) ∈ cs_all := cs_mem (i := 437) rfl rfl
theorem wd_438 : (Cond.methodLink "ClassStarter" 103 ⟨"ClassStarter$Machine", "logEntry", "(I)I"⟩) ∈ cs_all := cs_mem (i := 438) (by decide +kernel) rfl
theorem wd_439 : (Cond.instanceMethod ⟨"ClassStarter$Machine", "logEntry", "(I)I"⟩) ∈ cs_all := cs_mem (i := 439) (by decide +kernel) rfl
theorem wd_440 : (Cond.selects "ClassStarter$Machine" ⟨"ClassStarter$Machine", "logEntry", "(I)I"⟩ ⟨"ClassStarter$Machine", "logEntry", "(I)I"⟩) ∈ cs_all := cs_mem (i := 440) (by decide +kernel) rfl
set_option maxRecDepth 100000 in
theorem wd_441 : (Cond.code ⟨"ClassStarter$Machine", "logEntry", "(I)I"⟩ prog_4_method_10_code 2 (some .int)) ∈ cs_all := cs_mem (i := 441) rfl rfl
theorem wd_442 : (Cond.methodLink "ClassStarterLaw" 69 ⟨"ClassStarter", "explore", "()I"⟩) ∈ cs_all := cs_mem (i := 442) (by decide +kernel) rfl
theorem wd_443 : (Cond.instanceMethod ⟨"ClassStarter", "explore", "()I"⟩) ∈ cs_all := cs_mem (i := 443) (by decide +kernel) rfl
theorem wd_444 : (Cond.selects "ClassStarter" ⟨"ClassStarter", "explore", "()I"⟩ ⟨"ClassStarter", "explore", "()I"⟩) ∈ cs_all := cs_mem (i := 444) (by decide +kernel) rfl
set_option maxRecDepth 100000 in
theorem wd_445 : (Cond.code ⟨"ClassStarter", "explore", "()I"⟩ prog_1_method_14_code 1 (some .int)) ∈ cs_all := cs_mem (i := 445) rfl rfl
theorem wd_446 : (Cond.methodLink "ClassStarter" 106 ⟨"ClassStarter$Explorer", "isKnown", "()Z"⟩) ∈ cs_all := cs_mem (i := 446) (by decide +kernel) rfl
theorem wd_447 : (Cond.instanceMethod ⟨"ClassStarter$Explorer", "isKnown", "()Z"⟩) ∈ cs_all := cs_mem (i := 447) (by decide +kernel) rfl
theorem wd_448 : (Cond.selects "ClassStarter$Explorer" ⟨"ClassStarter$Explorer", "isKnown", "()Z"⟩ ⟨"ClassStarter$Explorer", "isKnown", "()Z"⟩) ∈ cs_all := cs_mem (i := 448) (by decide +kernel) rfl
set_option maxRecDepth 100000 in
theorem wd_449 : (Cond.code ⟨"ClassStarter$Explorer", "isKnown", "()Z"⟩ prog_2_method_7_code 1 (some .boolean)) ∈ cs_all := cs_mem (i := 449) rfl rfl
theorem wd_450 : (Cond.methodLink "ClassStarter" 109 ⟨"ClassStarter$Explorer", "goThrough", "()V"⟩) ∈ cs_all := cs_mem (i := 450) (by decide +kernel) rfl
theorem wd_451 : (Cond.instanceMethod ⟨"ClassStarter$Explorer", "goThrough", "()V"⟩) ∈ cs_all := cs_mem (i := 451) (by decide +kernel) rfl
theorem wd_452 : (Cond.selects "ClassStarter$Explorer" ⟨"ClassStarter$Explorer", "goThrough", "()V"⟩ ⟨"ClassStarter$Explorer", "goThrough", "()V"⟩) ∈ cs_all := cs_mem (i := 452) (by decide +kernel) rfl
set_option maxRecDepth 100000 in
theorem wd_453 : (Cond.code ⟨"ClassStarter$Explorer", "goThrough", "()V"⟩ prog_2_method_9_code 3 (none : Option Jvm.ClassFile.FieldType)) ∈ cs_all := cs_mem (i := 453) rfl rfl
theorem wd_454 : (Cond.methodLink "ClassStarter$Explorer" 44 ⟨"ClassStarter$Explorer", "begin", "()V"⟩) ∈ cs_all := cs_mem (i := 454) (by decide +kernel) rfl
theorem wd_456 : (Cond.instanceMethod ⟨"ClassStarter$Explorer", "begin", "()V"⟩) ∈ cs_all := cs_mem (i := 456) (by decide +kernel) rfl
set_option maxRecDepth 100000 in
theorem wd_457 : (Cond.code ⟨"ClassStarter$Explorer", "begin", "()V"⟩ prog_2_method_10_code 1 (none : Option Jvm.ClassFile.FieldType)) ∈ cs_all := cs_mem (i := 457) rfl rfl
theorem wd_458 : (Cond.methodLink "ClassStarter$Explorer" 71 ⟨"ClassStarter$Explorer", "dropAll", "()V"⟩) ∈ cs_all := cs_mem (i := 458) (by decide +kernel) rfl
theorem wd_460 : (Cond.instanceMethod ⟨"ClassStarter$Explorer", "dropAll", "()V"⟩) ∈ cs_all := cs_mem (i := 460) (by decide +kernel) rfl
set_option maxRecDepth 100000 in
theorem wd_461 : (Cond.code ⟨"ClassStarter$Explorer", "dropAll", "()V"⟩ prog_2_method_12_code 1 (none : Option Jvm.ClassFile.FieldType)) ∈ cs_all := cs_mem (i := 461) rfl rfl
theorem wd_462 : (Cond.methodLink "ClassStarter$Explorer" 74 ⟨"ClassStarter$Machine", "restart", "()V"⟩) ∈ cs_all := cs_mem (i := 462) (by decide +kernel) rfl
theorem wd_463 : (Cond.constant "ClassStarter$Explorer" 47 1000000) ∈ cs_all := cs_mem (i := 463) (by decide +kernel) rfl
theorem wd_464 : (Cond.methodLink "ClassStarter$Explorer" 51 ⟨"ClassStarter$Machine", "nextAble", "(I)I"⟩) ∈ cs_all := cs_mem (i := 464) (by decide +kernel) rfl
theorem wd_465 : (Cond.methodLink "ClassStarter$Explorer" 55 ⟨"ClassStarter$Explorer", "goDown", "(I)V"⟩) ∈ cs_all := cs_mem (i := 465) (by decide +kernel) rfl
theorem wd_467 : (Cond.instanceMethod ⟨"ClassStarter$Explorer", "goDown", "(I)V"⟩) ∈ cs_all := cs_mem (i := 467) (by decide +kernel) rfl
set_option maxRecDepth 100000 in
theorem wd_468 : (Cond.code ⟨"ClassStarter$Explorer", "goDown", "(I)V"⟩ prog_2_method_13_code 2 (none : Option Jvm.ClassFile.FieldType)) ∈ cs_all := cs_mem (i := 468) rfl rfl
theorem wd_469 : (Cond.methodLink "ClassStarter$Explorer" 77 ⟨"ClassStarter$Machine", "keepIn", "([II)V"⟩) ∈ cs_all := cs_mem (i := 469) (by decide +kernel) rfl
theorem wd_470 : (Cond.instanceMethod ⟨"ClassStarter$Machine", "keepIn", "([II)V"⟩) ∈ cs_all := cs_mem (i := 470) (by decide +kernel) rfl
theorem wd_471 : (Cond.selects "ClassStarter$Machine" ⟨"ClassStarter$Machine", "keepIn", "([II)V"⟩ ⟨"ClassStarter$Machine", "keepIn", "([II)V"⟩) ∈ cs_all := cs_mem (i := 471) (by decide +kernel) rfl
set_option maxRecDepth 100000 in
theorem wd_472 : (Cond.code ⟨"ClassStarter$Machine", "keepIn", "([II)V"⟩ prog_4_method_3_code 3 (none : Option Jvm.ClassFile.FieldType)) ∈ cs_all := cs_mem (i := 472) rfl rfl
theorem wd_473 : (Cond.methodLink "ClassStarter$Machine" 31 ⟨"java/lang/System", "arraycopy", "(Ljava/lang/Object;ILjava/lang/Object;II)V"⟩) ∈ cs_all := cs_mem (i := 473) (by decide +kernel) rfl
theorem wd_474 : (Cond.methodLink "ClassStarter$Explorer" 59 ⟨"ClassStarter$Machine", "advance", "(I)V"⟩) ∈ cs_all := cs_mem (i := 474) (by decide +kernel) rfl
theorem wd_475 : (Cond.methodLink "ClassStarter$Explorer" 62 ⟨"ClassStarter$Explorer", "endOrder", "()V"⟩) ∈ cs_all := cs_mem (i := 475) (by decide +kernel) rfl
theorem wd_477 : (Cond.instanceMethod ⟨"ClassStarter$Explorer", "endOrder", "()V"⟩) ∈ cs_all := cs_mem (i := 477) (by decide +kernel) rfl
set_option maxRecDepth 100000 in
theorem wd_478 : (Cond.code ⟨"ClassStarter$Explorer", "endOrder", "()V"⟩ prog_2_method_15_code 5 (none : Option Jvm.ClassFile.FieldType)) ∈ cs_all := cs_mem (i := 478) rfl rfl
theorem wd_479 : (Cond.methodLink "ClassStarter$Explorer" 84 ⟨"ClassStarter$Machine", "lastResultOf", "(I)I"⟩) ∈ cs_all := cs_mem (i := 479) (by decide +kernel) rfl
theorem wd_480 : (Cond.methodLink "ClassStarter$Explorer" 87 ⟨"ClassStarter$Explorer", "find", "(I)V"⟩) ∈ cs_all := cs_mem (i := 480) (by decide +kernel) rfl
theorem wd_482 : (Cond.instanceMethod ⟨"ClassStarter$Explorer", "find", "(I)V"⟩) ∈ cs_all := cs_mem (i := 482) (by decide +kernel) rfl
set_option maxRecDepth 100000 in
theorem wd_483 : (Cond.code ⟨"ClassStarter$Explorer", "find", "(I)V"⟩ prog_2_method_16_code 3 (none : Option Jvm.ClassFile.FieldType)) ∈ cs_all := cs_mem (i := 483) rfl rfl
theorem wd_484 : (Cond.methodLink "ClassStarter$Explorer" 90 ⟨"java/util/Arrays", "copyOf", "([II)[I"⟩) ∈ cs_all := cs_mem (i := 484) (by decide +kernel) rfl
theorem wd_485 : (Cond.static ⟨"java/util/Arrays", "copyOf", "([II)[I"⟩) ∈ cs_all := cs_mem (i := 485) (by decide +kernel) rfl
set_option maxRecDepth 100000 in
theorem wd_486 : (Cond.code ⟨"java/util/Arrays", "copyOf", "([II)[I"⟩ prog_12_method_123_code 3 (some (.array .int))) ∈ cs_all := cs_mem (i := 486) rfl rfl
theorem wd_487 : (Cond.methodLink "java/util/Arrays" 316 ⟨"[I", "clone", "()Ljava/lang/Object;"⟩) ∈ cs_all := cs_mem (i := 487) (by decide +kernel) rfl
theorem wd_489 : (Cond.native ⟨"java/lang/Object", "clone", "()Ljava/lang/Object;"⟩) ∈ cs_all := cs_mem (i := 489) (by decide +kernel) rfl
theorem wd_490 : (Cond.instanceMethod ⟨"java/lang/Object", "clone", "()Ljava/lang/Object;"⟩) ∈ cs_all := cs_mem (i := 490) (by decide +kernel) rfl
theorem wd_491 : (Cond.selects "[I" ⟨"[I", "clone", "()Ljava/lang/Object;"⟩ ⟨"java/lang/Object", "clone", "()Ljava/lang/Object;"⟩) ∈ cs_all := cs_mem (i := 491) (by decide +kernel) rfl
theorem wd_493 : (Cond.classLink "java/util/Arrays" 317 "[I") ∈ cs_all := cs_mem (i := 493) (by decide +kernel) rfl
theorem wd_494 : (Cond.methodLink "java/util/Arrays" 304 ⟨"java/lang/Math", "min", "(II)I"⟩) ∈ cs_all := cs_mem (i := 494) (by decide +kernel) rfl
theorem wd_495 : (Cond.static ⟨"java/lang/Math", "min", "(II)I"⟩) ∈ cs_all := cs_mem (i := 495) (by decide +kernel) rfl
set_option maxRecDepth 100000 in
theorem wd_496 : (Cond.code ⟨"java/lang/Math", "min", "(II)I"⟩ prog_10_method_69_code 2 (some .int)) ∈ cs_all := cs_mem (i := 496) rfl rfl
theorem wd_497 : (Cond.methodLink "java/util/Arrays" 150 ⟨"java/lang/System", "arraycopy", "(Ljava/lang/Object;ILjava/lang/Object;II)V"⟩) ∈ cs_all := cs_mem (i := 497) (by decide +kernel) rfl
theorem wd_498 : (Cond.methodLink "ClassStarter$Explorer" 96 ⟨"java/lang/System", "arraycopy", "(Ljava/lang/Object;ILjava/lang/Object;II)V"⟩) ∈ cs_all := cs_mem (i := 498) (by decide +kernel) rfl
theorem wd_499 : (Cond.methodLink "ClassStarter$Explorer" 65 ⟨"ClassStarter$Explorer", "goUp", "()V"⟩) ∈ cs_all := cs_mem (i := 499) (by decide +kernel) rfl
theorem wd_501 : (Cond.instanceMethod ⟨"ClassStarter$Explorer", "goUp", "()V"⟩) ∈ cs_all := cs_mem (i := 501) (by decide +kernel) rfl
set_option maxRecDepth 100000 in
theorem wd_502 : (Cond.code ⟨"ClassStarter$Explorer", "goUp", "()V"⟩ prog_2_method_14_code 1 (none : Option Jvm.ClassFile.FieldType)) ∈ cs_all := cs_mem (i := 502) rfl rfl
theorem wd_503 : (Cond.methodLink "ClassStarter$Explorer" 81 ⟨"ClassStarter$Machine", "bringBack", "([II)V"⟩) ∈ cs_all := cs_mem (i := 503) (by decide +kernel) rfl
theorem wd_504 : (Cond.instanceMethod ⟨"ClassStarter$Machine", "bringBack", "([II)V"⟩) ∈ cs_all := cs_mem (i := 504) (by decide +kernel) rfl
theorem wd_505 : (Cond.selects "ClassStarter$Machine" ⟨"ClassStarter$Machine", "bringBack", "([II)V"⟩ ⟨"ClassStarter$Machine", "bringBack", "([II)V"⟩) ∈ cs_all := cs_mem (i := 505) (by decide +kernel) rfl
set_option maxRecDepth 100000 in
theorem wd_506 : (Cond.code ⟨"ClassStarter$Machine", "bringBack", "([II)V"⟩ prog_4_method_4_code 3 (none : Option Jvm.ClassFile.FieldType)) ∈ cs_all := cs_mem (i := 506) rfl rfl
theorem wd_507 : (Cond.methodLink "ClassStarter$Explorer" 68 ⟨"ClassStarter$Explorer", "finish", "()V"⟩) ∈ cs_all := cs_mem (i := 507) (by decide +kernel) rfl
theorem wd_509 : (Cond.instanceMethod ⟨"ClassStarter$Explorer", "finish", "()V"⟩) ∈ cs_all := cs_mem (i := 509) (by decide +kernel) rfl
set_option maxRecDepth 100000 in
theorem wd_510 : (Cond.code ⟨"ClassStarter$Explorer", "finish", "()V"⟩ prog_2_method_11_code 1 (none : Option Jvm.ClassFile.FieldType)) ∈ cs_all := cs_mem (i := 510) rfl rfl
theorem wd_511 : (Cond.methodLink "ClassStarter" 112 ⟨"ClassStarter$Explorer", "answer", "()I"⟩) ∈ cs_all := cs_mem (i := 511) (by decide +kernel) rfl
theorem wd_512 : (Cond.instanceMethod ⟨"ClassStarter$Explorer", "answer", "()I"⟩) ∈ cs_all := cs_mem (i := 512) (by decide +kernel) rfl
theorem wd_513 : (Cond.selects "ClassStarter$Explorer" ⟨"ClassStarter$Explorer", "answer", "()I"⟩ ⟨"ClassStarter$Explorer", "answer", "()I"⟩) ∈ cs_all := cs_mem (i := 513) (by decide +kernel) rfl
set_option maxRecDepth 100000 in
theorem wd_514 : (Cond.code ⟨"ClassStarter$Explorer", "answer", "()I"⟩ prog_2_method_8_code 1 (some .int)) ∈ cs_all := cs_mem (i := 514) rfl rfl
theorem wd_515 : (Cond.methodLink "ClassStarterLaw" 73 ⟨"ClassStarter", "outcome", "(I)J"⟩) ∈ cs_all := cs_mem (i := 515) (by decide +kernel) rfl
theorem wd_516 : (Cond.instanceMethod ⟨"ClassStarter", "outcome", "(I)J"⟩) ∈ cs_all := cs_mem (i := 516) (by decide +kernel) rfl
theorem wd_517 : (Cond.selects "ClassStarter" ⟨"ClassStarter", "outcome", "(I)J"⟩ ⟨"ClassStarter", "outcome", "(I)J"⟩) ∈ cs_all := cs_mem (i := 517) (by decide +kernel) rfl
set_option maxRecDepth 100000 in
theorem wd_518 : (Cond.code ⟨"ClassStarter", "outcome", "(I)J"⟩ prog_1_method_15_code 2 (some .long)) ∈ cs_all := cs_mem (i := 518) rfl rfl
theorem wd_519 : (Cond.methodLink "ClassStarter" 115 ⟨"ClassStarter$Explorer", "foundCount", "()I"⟩) ∈ cs_all := cs_mem (i := 519) (by decide +kernel) rfl
theorem wd_520 : (Cond.instanceMethod ⟨"ClassStarter$Explorer", "foundCount", "()I"⟩) ∈ cs_all := cs_mem (i := 520) (by decide +kernel) rfl
theorem wd_521 : (Cond.selects "ClassStarter$Explorer" ⟨"ClassStarter$Explorer", "foundCount", "()I"⟩ ⟨"ClassStarter$Explorer", "foundCount", "()I"⟩) ∈ cs_all := cs_mem (i := 521) (by decide +kernel) rfl
set_option maxRecDepth 100000 in
theorem wd_522 : (Cond.code ⟨"ClassStarter$Explorer", "foundCount", "()I"⟩ prog_2_method_2_code 1 (some .int)) ∈ cs_all := cs_mem (i := 522) rfl rfl
theorem wd_523 : (Cond.methodLink "ClassStarter" 118 ⟨"ClassStarter$Explorer", "foundAt", "(I)I"⟩) ∈ cs_all := cs_mem (i := 523) (by decide +kernel) rfl
theorem wd_524 : (Cond.instanceMethod ⟨"ClassStarter$Explorer", "foundAt", "(I)I"⟩) ∈ cs_all := cs_mem (i := 524) (by decide +kernel) rfl
theorem wd_525 : (Cond.selects "ClassStarter$Explorer" ⟨"ClassStarter$Explorer", "foundAt", "(I)I"⟩ ⟨"ClassStarter$Explorer", "foundAt", "(I)I"⟩) ∈ cs_all := cs_mem (i := 525) (by decide +kernel) rfl
set_option maxRecDepth 100000 in
theorem wd_526 : (Cond.code ⟨"ClassStarter$Explorer", "foundAt", "(I)I"⟩ prog_2_method_3_code 2 (some .int)) ∈ cs_all := cs_mem (i := 526) rfl rfl
theorem wd_527 : (Cond.methodLink "ClassStarterLaw" 77 ⟨"ClassStarter", "count", "(I)I"⟩) ∈ cs_all := cs_mem (i := 527) (by decide +kernel) rfl
theorem wd_528 : (Cond.instanceMethod ⟨"ClassStarter", "count", "(I)I"⟩) ∈ cs_all := cs_mem (i := 528) (by decide +kernel) rfl
theorem wd_529 : (Cond.selects "ClassStarter" ⟨"ClassStarter", "count", "(I)I"⟩ ⟨"ClassStarter", "count", "(I)I"⟩) ∈ cs_all := cs_mem (i := 529) (by decide +kernel) rfl
set_option maxRecDepth 100000 in
theorem wd_530 : (Cond.code ⟨"ClassStarter", "count", "(I)I"⟩ prog_1_method_16_code 2 (some .int)) ∈ cs_all := cs_mem (i := 530) rfl rfl
theorem wd_531 : (Cond.methodLink "ClassStarter" 121 ⟨"ClassStarter$Program", "classCount", "()I"⟩) ∈ cs_all := cs_mem (i := 531) (by decide +kernel) rfl
theorem wd_532 : (Cond.instanceMethod ⟨"ClassStarter$Program", "classCount", "()I"⟩) ∈ cs_all := cs_mem (i := 532) (by decide +kernel) rfl
theorem wd_533 : (Cond.selects "ClassStarter$Program" ⟨"ClassStarter$Program", "classCount", "()I"⟩ ⟨"ClassStarter$Program", "classCount", "()I"⟩) ∈ cs_all := cs_mem (i := 533) (by decide +kernel) rfl
set_option maxRecDepth 100000 in
theorem wd_534 : (Cond.code ⟨"ClassStarter$Program", "classCount", "()I"⟩ prog_5_method_2_code 1 (some .int)) ∈ cs_all := cs_mem (i := 534) rfl rfl
theorem wd_535 : (Cond.methodLink "ClassStarter" 124 ⟨"ClassStarter$Explorer", "orders", "()I"⟩) ∈ cs_all := cs_mem (i := 535) (by decide +kernel) rfl
theorem wd_536 : (Cond.instanceMethod ⟨"ClassStarter$Explorer", "orders", "()I"⟩) ∈ cs_all := cs_mem (i := 536) (by decide +kernel) rfl
theorem wd_537 : (Cond.selects "ClassStarter$Explorer" ⟨"ClassStarter$Explorer", "orders", "()I"⟩ ⟨"ClassStarter$Explorer", "orders", "()I"⟩) ∈ cs_all := cs_mem (i := 537) (by decide +kernel) rfl
set_option maxRecDepth 100000 in
theorem wd_538 : (Cond.code ⟨"ClassStarter$Explorer", "orders", "()I"⟩ prog_2_method_4_code 1 (some .int)) ∈ cs_all := cs_mem (i := 538) rfl rfl
theorem wd_539 : (Cond.methodLink "ClassStarter" 127 ⟨"ClassStarter$Explorer", "stuckOrders", "()I"⟩) ∈ cs_all := cs_mem (i := 539) (by decide +kernel) rfl
theorem wd_540 : (Cond.instanceMethod ⟨"ClassStarter$Explorer", "stuckOrders", "()I"⟩) ∈ cs_all := cs_mem (i := 540) (by decide +kernel) rfl
theorem wd_541 : (Cond.selects "ClassStarter$Explorer" ⟨"ClassStarter$Explorer", "stuckOrders", "()I"⟩ ⟨"ClassStarter$Explorer", "stuckOrders", "()I"⟩) ∈ cs_all := cs_mem (i := 541) (by decide +kernel) rfl
set_option maxRecDepth 100000 in
theorem wd_542 : (Cond.code ⟨"ClassStarter$Explorer", "stuckOrders", "()I"⟩ prog_2_method_5_code 1 (some .int)) ∈ cs_all := cs_mem (i := 542) rfl rfl
theorem wd_543 : (Cond.classLink "ClassStarterLaw" 10 "ClassStarterModel") ∈ cs_all := cs_mem (i := 543) (by decide +kernel) rfl
theorem wd_544 : (Cond.instantiable "ClassStarterModel" 32) ∈ cs_all := cs_mem (i := 544) (by decide +kernel) rfl
theorem wd_545 : (Cond.methodLink "ClassStarterLaw" 12 ⟨"ClassStarterModel", "<init>", "()V"⟩) ∈ cs_all := cs_mem (i := 545) (by decide +kernel) rfl
theorem wd_546 : (Cond.instanceMethod ⟨"ClassStarterModel", "<init>", "()V"⟩) ∈ cs_all := cs_mem (i := 546) (by decide +kernel) rfl
set_option maxRecDepth 100000 in
theorem wd_547 : (Cond.code ⟨"ClassStarterModel", "<init>", "()V"⟩ prog_8_method_1_code 1 (none : Option Jvm.ClassFile.FieldType)) ∈ cs_all := cs_mem (i := 547) rfl rfl
theorem wd_548 : (Cond.methodLink "ClassStarterModel" 1 ⟨"java/lang/Object", "<init>", "()V"⟩) ∈ cs_all := cs_mem (i := 548) (by decide +kernel) rfl
theorem wd_549 : (Cond.fieldLink "ClassStarterModel" 87 "ClassStarterModel" "classes" "I") ∈ cs_all := cs_mem (i := 549) (by decide +kernel) rfl
theorem wd_550 : (Cond.fieldLink "ClassStarterModel" 7 "ClassStarterModel" "parent" "[I") ∈ cs_all := cs_mem (i := 550) (by decide +kernel) rfl
theorem wd_551 : (Cond.fieldLink "ClassStarterModel" 13 "ClassStarterModel" "constants" "[I") ∈ cs_all := cs_mem (i := 551) (by decide +kernel) rfl
theorem wd_552 : (Cond.fieldLink "ClassStarterModel" 16 "ClassStarterModel" "interfaces" "[I") ∈ cs_all := cs_mem (i := 552) (by decide +kernel) rfl
theorem wd_553 : (Cond.fieldLink "ClassStarterModel" 19 "ClassStarterModel" "actions" "[I") ∈ cs_all := cs_mem (i := 553) (by decide +kernel) rfl
theorem wd_554 : (Cond.fieldLink "ClassStarterModel" 22 "ClassStarterModel" "actionCount" "[I") ∈ cs_all := cs_mem (i := 554) (by decide +kernel) rfl
theorem wd_555 : (Cond.fieldLink "ClassStarterModel" 25 "ClassStarterModel" "isInterface" "[Z") ∈ cs_all := cs_mem (i := 555) (by decide +kernel) rfl
theorem wd_556 : (Cond.fieldLink "ClassStarterModel" 29 "ClassStarterModel" "constant" "[Z") ∈ cs_all := cs_mem (i := 556) (by decide +kernel) rfl
theorem wd_557 : (Cond.fieldLink "ClassStarterModel" 32 "ClassStarterModel" "iface" "[I") ∈ cs_all := cs_mem (i := 557) (by decide +kernel) rfl
theorem wd_558 : (Cond.fieldLink "ClassStarterModel" 35 "ClassStarterModel" "defaulted" "[Z") ∈ cs_all := cs_mem (i := 558) (by decide +kernel) rfl
theorem wd_559 : (Cond.fieldLink "ClassStarterModel" 38 "ClassStarterModel" "act" "[I") ∈ cs_all := cs_mem (i := 559) (by decide +kernel) rfl
theorem wd_560 : (Cond.fieldLink "ClassStarterModel" 41 "ClassStarterModel" "actA" "[I") ∈ cs_all := cs_mem (i := 560) (by decide +kernel) rfl
theorem wd_561 : (Cond.fieldLink "ClassStarterModel" 44 "ClassStarterModel" "actB" "[I") ∈ cs_all := cs_mem (i := 561) (by decide +kernel) rfl
theorem wd_562 : (Cond.fieldLink "ClassStarterModel" 47 "ClassStarterModel" "planCount" "[I") ∈ cs_all := cs_mem (i := 562) (by decide +kernel) rfl
theorem wd_563 : (Cond.fieldLink "ClassStarterModel" 50 "ClassStarterModel" "made" "[I") ∈ cs_all := cs_mem (i := 563) (by decide +kernel) rfl
theorem wd_564 : (Cond.fieldLink "ClassStarterModel" 164 "ClassStarterModel" "steps" "I") ∈ cs_all := cs_mem (i := 564) (by decide +kernel) rfl
theorem wd_565 : (Cond.fieldLink "ClassStarterModel" 83 "ClassStarterModel" "begun" "Z") ∈ cs_all := cs_mem (i := 565) (by decide +kernel) rfl
theorem wd_566 : (Cond.fieldLink "ClassStarterModel" 53 "ClassStarterModel" "tried" "[I") ∈ cs_all := cs_mem (i := 566) (by decide +kernel) rfl
theorem wd_567 : (Cond.fieldLink "ClassStarterModel" 56 "ClassStarterModel" "state" "[I") ∈ cs_all := cs_mem (i := 567) (by decide +kernel) rfl
theorem wd_568 : (Cond.fieldLink "ClassStarterModel" 59 "ClassStarterModel" "statics" "[I") ∈ cs_all := cs_mem (i := 568) (by decide +kernel) rfl
theorem wd_569 : (Cond.fieldLink "ClassStarterModel" 62 "ClassStarterModel" "frame" "[I") ∈ cs_all := cs_mem (i := 569) (by decide +kernel) rfl
theorem wd_570 : (Cond.fieldLink "ClassStarterModel" 65 "ClassStarterModel" "part" "[I") ∈ cs_all := cs_mem (i := 570) (by decide +kernel) rfl
theorem wd_571 : (Cond.fieldLink "ClassStarterModel" 68 "ClassStarterModel" "frames" "[I") ∈ cs_all := cs_mem (i := 571) (by decide +kernel) rfl
theorem wd_572 : (Cond.fieldLink "ClassStarterModel" 71 "ClassStarterModel" "pending" "[I") ∈ cs_all := cs_mem (i := 572) (by decide +kernel) rfl
theorem wd_573 : (Cond.fieldLink "ClassStarterModel" 74 "ClassStarterModel" "ended" "[I") ∈ cs_all := cs_mem (i := 573) (by decide +kernel) rfl
theorem wd_574 : (Cond.fieldLink "ClassStarterModel" 77 "ClassStarterModel" "log" "[I") ∈ cs_all := cs_mem (i := 574) (by decide +kernel) rfl
theorem wd_575 : (Cond.fieldLink "ClassStarterModel" 102 "ClassStarterModel" "logs" "I") ∈ cs_all := cs_mem (i := 575) (by decide +kernel) rfl
theorem wd_576 : (Cond.fieldLink "ClassStarterModel" 80 "ClassStarterModel" "outcomes" "[I") ∈ cs_all := cs_mem (i := 576) (by decide +kernel) rfl
theorem wd_577 : (Cond.fieldLink "ClassStarterModel" 187 "ClassStarterModel" "found" "I") ∈ cs_all := cs_mem (i := 577) (by decide +kernel) rfl
theorem wd_578 : (Cond.fieldLink "ClassStarterModel" 181 "ClassStarterModel" "orders" "I") ∈ cs_all := cs_mem (i := 578) (by decide +kernel) rfl
theorem wd_579 : (Cond.fieldLink "ClassStarterModel" 184 "ClassStarterModel" "stuckOrders" "I") ∈ cs_all := cs_mem (i := 579) (by decide +kernel) rfl
theorem wd_580 : (Cond.fieldLink "ClassStarterModel" 91 "ClassStarterModel" "explored" "Z") ∈ cs_all := cs_mem (i := 580) (by decide +kernel) rfl
theorem wd_581 : (Cond.lays "ClassStarterModel" "ClassStarterModel" "classes" "I") ∈ cs_all := cs_mem (i := 581) (by decide +kernel) rfl
theorem wd_583 : (Cond.laysFinal "ClassStarterModel" "ClassStarterModel" "parent" "[I") ∈ cs_all := cs_mem (i := 583) (by decide +kernel) rfl
theorem wd_585 : (Cond.laysFinal "ClassStarterModel" "ClassStarterModel" "constants" "[I") ∈ cs_all := cs_mem (i := 585) (by decide +kernel) rfl
theorem wd_587 : (Cond.laysFinal "ClassStarterModel" "ClassStarterModel" "interfaces" "[I") ∈ cs_all := cs_mem (i := 587) (by decide +kernel) rfl
theorem wd_589 : (Cond.laysFinal "ClassStarterModel" "ClassStarterModel" "actions" "[I") ∈ cs_all := cs_mem (i := 589) (by decide +kernel) rfl
theorem wd_591 : (Cond.laysFinal "ClassStarterModel" "ClassStarterModel" "actionCount" "[I") ∈ cs_all := cs_mem (i := 591) (by decide +kernel) rfl
theorem wd_593 : (Cond.laysFinal "ClassStarterModel" "ClassStarterModel" "isInterface" "[Z") ∈ cs_all := cs_mem (i := 593) (by decide +kernel) rfl
theorem wd_595 : (Cond.laysFinal "ClassStarterModel" "ClassStarterModel" "constant" "[Z") ∈ cs_all := cs_mem (i := 595) (by decide +kernel) rfl
theorem wd_597 : (Cond.laysFinal "ClassStarterModel" "ClassStarterModel" "iface" "[I") ∈ cs_all := cs_mem (i := 597) (by decide +kernel) rfl
theorem wd_599 : (Cond.laysFinal "ClassStarterModel" "ClassStarterModel" "defaulted" "[Z") ∈ cs_all := cs_mem (i := 599) (by decide +kernel) rfl
theorem wd_601 : (Cond.laysFinal "ClassStarterModel" "ClassStarterModel" "act" "[I") ∈ cs_all := cs_mem (i := 601) (by decide +kernel) rfl
theorem wd_603 : (Cond.laysFinal "ClassStarterModel" "ClassStarterModel" "actA" "[I") ∈ cs_all := cs_mem (i := 603) (by decide +kernel) rfl
theorem wd_605 : (Cond.laysFinal "ClassStarterModel" "ClassStarterModel" "actB" "[I") ∈ cs_all := cs_mem (i := 605) (by decide +kernel) rfl
theorem wd_607 : (Cond.laysFinal "ClassStarterModel" "ClassStarterModel" "planCount" "[I") ∈ cs_all := cs_mem (i := 607) (by decide +kernel) rfl
theorem wd_609 : (Cond.laysFinal "ClassStarterModel" "ClassStarterModel" "made" "[I") ∈ cs_all := cs_mem (i := 609) (by decide +kernel) rfl
theorem wd_611 : (Cond.lays "ClassStarterModel" "ClassStarterModel" "steps" "I") ∈ cs_all := cs_mem (i := 611) (by decide +kernel) rfl
theorem wd_613 : (Cond.lays "ClassStarterModel" "ClassStarterModel" "begun" "Z") ∈ cs_all := cs_mem (i := 613) (by decide +kernel) rfl
theorem wd_615 : (Cond.laysFinal "ClassStarterModel" "ClassStarterModel" "tried" "[I") ∈ cs_all := cs_mem (i := 615) (by decide +kernel) rfl
theorem wd_617 : (Cond.laysFinal "ClassStarterModel" "ClassStarterModel" "state" "[I") ∈ cs_all := cs_mem (i := 617) (by decide +kernel) rfl
theorem wd_619 : (Cond.laysFinal "ClassStarterModel" "ClassStarterModel" "statics" "[I") ∈ cs_all := cs_mem (i := 619) (by decide +kernel) rfl
theorem wd_621 : (Cond.laysFinal "ClassStarterModel" "ClassStarterModel" "frame" "[I") ∈ cs_all := cs_mem (i := 621) (by decide +kernel) rfl
theorem wd_623 : (Cond.laysFinal "ClassStarterModel" "ClassStarterModel" "part" "[I") ∈ cs_all := cs_mem (i := 623) (by decide +kernel) rfl
theorem wd_625 : (Cond.laysFinal "ClassStarterModel" "ClassStarterModel" "frames" "[I") ∈ cs_all := cs_mem (i := 625) (by decide +kernel) rfl
theorem wd_627 : (Cond.laysFinal "ClassStarterModel" "ClassStarterModel" "pending" "[I") ∈ cs_all := cs_mem (i := 627) (by decide +kernel) rfl
theorem wd_629 : (Cond.laysFinal "ClassStarterModel" "ClassStarterModel" "ended" "[I") ∈ cs_all := cs_mem (i := 629) (by decide +kernel) rfl
theorem wd_631 : (Cond.laysFinal "ClassStarterModel" "ClassStarterModel" "log" "[I") ∈ cs_all := cs_mem (i := 631) (by decide +kernel) rfl
theorem wd_633 : (Cond.lays "ClassStarterModel" "ClassStarterModel" "logs" "I") ∈ cs_all := cs_mem (i := 633) (by decide +kernel) rfl
theorem wd_635 : (Cond.laysFinal "ClassStarterModel" "ClassStarterModel" "outcomes" "[I") ∈ cs_all := cs_mem (i := 635) (by decide +kernel) rfl
theorem wd_637 : (Cond.lays "ClassStarterModel" "ClassStarterModel" "found" "I") ∈ cs_all := cs_mem (i := 637) (by decide +kernel) rfl
theorem wd_639 : (Cond.lays "ClassStarterModel" "ClassStarterModel" "orders" "I") ∈ cs_all := cs_mem (i := 639) (by decide +kernel) rfl
theorem wd_641 : (Cond.lays "ClassStarterModel" "ClassStarterModel" "stuckOrders" "I") ∈ cs_all := cs_mem (i := 641) (by decide +kernel) rfl
theorem wd_643 : (Cond.lays "ClassStarterModel" "ClassStarterModel" "explored" "Z") ∈ cs_all := cs_mem (i := 643) (by decide +kernel) rfl
theorem wd_646 : (Cond.methodLink "ClassStarterLaw" 17 ⟨"ClassStarterModel", "declare", "(IZZI)I"⟩) ∈ cs_all := cs_mem (i := 646) (by decide +kernel) rfl
theorem wd_647 : (Cond.instanceMethod ⟨"ClassStarterModel", "declare", "(IZZI)I"⟩) ∈ cs_all := cs_mem (i := 647) (by decide +kernel) rfl
theorem wd_648 : (Cond.selects "ClassStarterModel" ⟨"ClassStarterModel", "declare", "(IZZI)I"⟩ ⟨"ClassStarterModel", "declare", "(IZZI)I"⟩) ∈ cs_all := cs_mem (i := 648) (by decide +kernel) rfl
set_option maxRecDepth 100000 in
theorem wd_649 : (Cond.code ⟨"ClassStarterModel", "declare", "(IZZI)I"⟩ prog_8_method_3_code 5 (some .int)) ∈ cs_all := cs_mem (i := 649) rfl rfl
theorem wd_650 : (Cond.methodLink "ClassStarterLaw" 22 ⟨"ClassStarterModel", "inherit", "(IIZ)I"⟩) ∈ cs_all := cs_mem (i := 650) (by decide +kernel) rfl
theorem wd_651 : (Cond.instanceMethod ⟨"ClassStarterModel", "inherit", "(IIZ)I"⟩) ∈ cs_all := cs_mem (i := 651) (by decide +kernel) rfl
theorem wd_652 : (Cond.selects "ClassStarterModel" ⟨"ClassStarterModel", "inherit", "(IIZ)I"⟩ ⟨"ClassStarterModel", "inherit", "(IIZ)I"⟩) ∈ cs_all := cs_mem (i := 652) (by decide +kernel) rfl
set_option maxRecDepth 100000 in
theorem wd_653 : (Cond.code ⟨"ClassStarterModel", "inherit", "(IIZ)I"⟩ prog_8_method_4_code 6 (some .int)) ∈ cs_all := cs_mem (i := 653) rfl rfl
theorem wd_654 : (Cond.methodLink "ClassStarterModel" 94 ⟨"ClassStarterModel", "out", "(II)Z"⟩) ∈ cs_all := cs_mem (i := 654) (by decide +kernel) rfl
theorem wd_655 : (Cond.static ⟨"ClassStarterModel", "out", "(II)Z"⟩) ∈ cs_all := cs_mem (i := 655) (by decide +kernel) rfl
set_option maxRecDepth 100000 in
theorem wd_656 : (Cond.code ⟨"ClassStarterModel", "out", "(II)Z"⟩ prog_8_method_2_code 2 (some .boolean)) ∈ cs_all := cs_mem (i := 656) rfl rfl
theorem wd_657 : (Cond.methodLink "ClassStarterLaw" 27 ⟨"ClassStarterModel", "act", "(IIII)I"⟩) ∈ cs_all := cs_mem (i := 657) (by decide +kernel) rfl
theorem wd_658 : (Cond.instanceMethod ⟨"ClassStarterModel", "act", "(IIII)I"⟩) ∈ cs_all := cs_mem (i := 658) (by decide +kernel) rfl
theorem wd_659 : (Cond.selects "ClassStarterModel" ⟨"ClassStarterModel", "act", "(IIII)I"⟩ ⟨"ClassStarterModel", "act", "(IIII)I"⟩) ∈ cs_all := cs_mem (i := 659) (by decide +kernel) rfl
set_option maxRecDepth 100000 in
theorem wd_660 : (Cond.code ⟨"ClassStarterModel", "act", "(IIII)I"⟩ prog_8_method_6_code 6 (some .int)) ∈ cs_all := cs_mem (i := 660) rfl rfl
theorem wd_661 : (Cond.methodLink "ClassStarterModel" 98 ⟨"ClassStarterModel", "badOperands", "(III)Z"⟩) ∈ cs_all := cs_mem (i := 661) (by decide +kernel) rfl
theorem wd_662 : (Cond.static ⟨"ClassStarterModel", "badOperands", "(III)Z"⟩) ∈ cs_all := cs_mem (i := 662) (by decide +kernel) rfl
set_option maxRecDepth 100000 in
theorem wd_663 : (Cond.code ⟨"ClassStarterModel", "badOperands", "(III)Z"⟩ prog_8_method_5_code 3 (some .boolean)) ∈ cs_all := cs_mem (i := 663) rfl rfl
theorem wd_664 : (Cond.methodLink "ClassStarterLaw" 32 ⟨"ClassStarterModel", "plan", "(III)I"⟩) ∈ cs_all := cs_mem (i := 664) (by decide +kernel) rfl
theorem wd_665 : (Cond.instanceMethod ⟨"ClassStarterModel", "plan", "(III)I"⟩) ∈ cs_all := cs_mem (i := 665) (by decide +kernel) rfl
theorem wd_666 : (Cond.selects "ClassStarterModel" ⟨"ClassStarterModel", "plan", "(III)I"⟩ ⟨"ClassStarterModel", "plan", "(III)I"⟩) ∈ cs_all := cs_mem (i := 666) (by decide +kernel) rfl
set_option maxRecDepth 100000 in
theorem wd_667 : (Cond.code ⟨"ClassStarterModel", "plan", "(III)I"⟩ prog_8_method_7_code 5 (some .int)) ∈ cs_all := cs_mem (i := 667) rfl rfl
theorem wd_668 : (Cond.methodLink "ClassStarterLaw" 37 ⟨"ClassStarterModel", "step", "(I)I"⟩) ∈ cs_all := cs_mem (i := 668) (by decide +kernel) rfl
theorem wd_669 : (Cond.instanceMethod ⟨"ClassStarterModel", "step", "(I)I"⟩) ∈ cs_all := cs_mem (i := 669) (by decide +kernel) rfl
theorem wd_670 : (Cond.selects "ClassStarterModel" ⟨"ClassStarterModel", "step", "(I)I"⟩ ⟨"ClassStarterModel", "step", "(I)I"⟩) ∈ cs_all := cs_mem (i := 670) (by decide +kernel) rfl
set_option maxRecDepth 100000 in
theorem wd_671 : (Cond.code ⟨"ClassStarterModel", "step", "(I)I"⟩ prog_8_method_30_code 2 (some .int)) ∈ cs_all := cs_mem (i := 671) rfl rfl
theorem wd_672 : (Cond.methodLink "ClassStarterModel" 173 ⟨"ClassStarterModel", "work", "()V"⟩) ∈ cs_all := cs_mem (i := 672) (by decide +kernel) rfl
theorem wd_674 : (Cond.instanceMethod ⟨"ClassStarterModel", "work", "()V"⟩) ∈ cs_all := cs_mem (i := 674) (by decide +kernel) rfl
set_option maxRecDepth 100000 in
theorem wd_675 : (Cond.code ⟨"ClassStarterModel", "work", "()V"⟩ prog_8_method_28_code 2 (none : Option Jvm.ClassFile.FieldType)) ∈ cs_all := cs_mem (i := 675) rfl rfl
theorem wd_676 : (Cond.methodLink "ClassStarterModel" 161 ⟨"ClassStarterModel", "start", "()V"⟩) ∈ cs_all := cs_mem (i := 676) (by decide +kernel) rfl
theorem wd_678 : (Cond.instanceMethod ⟨"ClassStarterModel", "start", "()V"⟩) ∈ cs_all := cs_mem (i := 678) (by decide +kernel) rfl
set_option maxRecDepth 100000 in
theorem wd_679 : (Cond.code ⟨"ClassStarterModel", "start", "()V"⟩ prog_8_method_8_code 2 (none : Option Jvm.ClassFile.FieldType)) ∈ cs_all := cs_mem (i := 679) rfl rfl
theorem wd_680 : (Cond.methodLink "ClassStarterModel" 105 ⟨"ClassStarterModel", "finish", "(I)V"⟩) ∈ cs_all := cs_mem (i := 680) (by decide +kernel) rfl
theorem wd_682 : (Cond.instanceMethod ⟨"ClassStarterModel", "finish", "(I)V"⟩) ∈ cs_all := cs_mem (i := 682) (by decide +kernel) rfl
set_option maxRecDepth 100000 in
theorem wd_683 : (Cond.code ⟨"ClassStarterModel", "finish", "(I)V"⟩ prog_8_method_18_code 2 (none : Option Jvm.ClassFile.FieldType)) ∈ cs_all := cs_mem (i := 683) rfl rfl
theorem wd_684 : (Cond.methodLink "ClassStarterModel" 167 ⟨"ClassStarterModel", "stepOf", "(I)V"⟩) ∈ cs_all := cs_mem (i := 684) (by decide +kernel) rfl
theorem wd_686 : (Cond.instanceMethod ⟨"ClassStarterModel", "stepOf", "(I)V"⟩) ∈ cs_all := cs_mem (i := 686) (by decide +kernel) rfl
set_option maxRecDepth 100000 in
theorem wd_687 : (Cond.code ⟨"ClassStarterModel", "stepOf", "(I)V"⟩ prog_8_method_27_code 4 (none : Option Jvm.ClassFile.FieldType)) ∈ cs_all := cs_mem (i := 687) rfl rfl
theorem wd_688 : (Cond.methodLink "ClassStarterModel" 152 ⟨"ClassStarterModel", "leave", "(II)V"⟩) ∈ cs_all := cs_mem (i := 688) (by decide +kernel) rfl
theorem wd_690 : (Cond.instanceMethod ⟨"ClassStarterModel", "leave", "(II)V"⟩) ∈ cs_all := cs_mem (i := 690) (by decide +kernel) rfl
set_option maxRecDepth 100000 in
theorem wd_691 : (Cond.code ⟨"ClassStarterModel", "leave", "(II)V"⟩ prog_8_method_23_code 3 (none : Option Jvm.ClassFile.FieldType)) ∈ cs_all := cs_mem (i := 691) rfl rfl
theorem wd_692 : (Cond.methodLink "ClassStarterModel" 113 ⟨"ClassStarterModel", "top", "(I)I"⟩) ∈ cs_all := cs_mem (i := 692) (by decide +kernel) rfl
theorem wd_694 : (Cond.instanceMethod ⟨"ClassStarterModel", "top", "(I)I"⟩) ∈ cs_all := cs_mem (i := 694) (by decide +kernel) rfl
set_option maxRecDepth 100000 in
theorem wd_695 : (Cond.code ⟨"ClassStarterModel", "top", "(I)I"⟩ prog_8_method_9_code 2 (some .int)) ∈ cs_all := cs_mem (i := 695) rfl rfl
theorem wd_696 : (Cond.methodLink "ClassStarterModel" 142 ⟨"ClassStarterModel", "come", "(II)V"⟩) ∈ cs_all := cs_mem (i := 696) (by decide +kernel) rfl
theorem wd_698 : (Cond.instanceMethod ⟨"ClassStarterModel", "come", "(II)V"⟩) ∈ cs_all := cs_mem (i := 698) (by decide +kernel) rfl
set_option maxRecDepth 100000 in
theorem wd_699 : (Cond.code ⟨"ClassStarterModel", "come", "(II)V"⟩ prog_8_method_21_code 6 (none : Option Jvm.ClassFile.FieldType)) ∈ cs_all := cs_mem (i := 699) rfl rfl
theorem wd_700 : (Cond.methodLink "ClassStarterModel" 120 ⟨"ClassStarterModel", "actionAt", "(II)I"⟩) ∈ cs_all := cs_mem (i := 700) (by decide +kernel) rfl
theorem wd_702 : (Cond.instanceMethod ⟨"ClassStarterModel", "actionAt", "(II)I"⟩) ∈ cs_all := cs_mem (i := 702) (by decide +kernel) rfl
set_option maxRecDepth 100000 in
theorem wd_703 : (Cond.code ⟨"ClassStarterModel", "actionAt", "(II)I"⟩ prog_8_method_13_code 5 (some .int)) ∈ cs_all := cs_mem (i := 703) rfl rfl
theorem wd_704 : (Cond.methodLink "ClassStarterModel" 109 ⟨"ClassStarterModel", "uses", "(I)I"⟩) ∈ cs_all := cs_mem (i := 704) (by decide +kernel) rfl
theorem wd_706 : (Cond.instanceMethod ⟨"ClassStarterModel", "uses", "(I)I"⟩) ∈ cs_all := cs_mem (i := 706) (by decide +kernel) rfl
set_option maxRecDepth 100000 in
theorem wd_707 : (Cond.code ⟨"ClassStarterModel", "uses", "(I)I"⟩ prog_8_method_10_code 4 (some .int)) ∈ cs_all := cs_mem (i := 707) rfl rfl
theorem wd_708 : (Cond.methodLink "ClassStarterModel" 116 ⟨"ClassStarterModel", "parts", "(II)I"⟩) ∈ cs_all := cs_mem (i := 708) (by decide +kernel) rfl
theorem wd_710 : (Cond.instanceMethod ⟨"ClassStarterModel", "parts", "(II)I"⟩) ∈ cs_all := cs_mem (i := 710) (by decide +kernel) rfl
set_option maxRecDepth 100000 in
theorem wd_711 : (Cond.code ⟨"ClassStarterModel", "parts", "(II)I"⟩ prog_8_method_11_code 3 (some .int)) ∈ cs_all := cs_mem (i := 711) rfl rfl
theorem wd_712 : (Cond.methodLink "ClassStarterModel" 133 ⟨"ClassStarterModel", "loggedAs", "(I)I"⟩) ∈ cs_all := cs_mem (i := 712) (by decide +kernel) rfl
theorem wd_713 : (Cond.static ⟨"ClassStarterModel", "loggedAs", "(I)I"⟩) ∈ cs_all := cs_mem (i := 713) (by decide +kernel) rfl
set_option maxRecDepth 100000 in
theorem wd_714 : (Cond.code ⟨"ClassStarterModel", "loggedAs", "(I)I"⟩ prog_8_method_20_code 1 (some .int)) ∈ cs_all := cs_mem (i := 714) rfl rfl
theorem wd_715 : (Cond.methodLink "ClassStarterModel" 136 ⟨"ClassStarterModel", "note", "(I)V"⟩) ∈ cs_all := cs_mem (i := 715) (by decide +kernel) rfl
theorem wd_717 : (Cond.instanceMethod ⟨"ClassStarterModel", "note", "(I)V"⟩) ∈ cs_all := cs_mem (i := 717) (by decide +kernel) rfl
set_option maxRecDepth 100000 in
theorem wd_718 : (Cond.code ⟨"ClassStarterModel", "note", "(I)V"⟩ prog_8_method_17_code 2 (none : Option Jvm.ClassFile.FieldType)) ∈ cs_all := cs_mem (i := 718) rfl rfl
theorem wd_719 : (Cond.methodLink "ClassStarterModel" 139 ⟨"ClassStarterModel", "resultOf", "(I)I"⟩) ∈ cs_all := cs_mem (i := 719) (by decide +kernel) rfl
theorem wd_720 : (Cond.static ⟨"ClassStarterModel", "resultOf", "(I)I"⟩) ∈ cs_all := cs_mem (i := 720) (by decide +kernel) rfl
set_option maxRecDepth 100000 in
theorem wd_721 : (Cond.code ⟨"ClassStarterModel", "resultOf", "(I)I"⟩ prog_8_method_19_code 1 (some .int)) ∈ cs_all := cs_mem (i := 721) rfl rfl
theorem wd_722 : (Cond.methodLink "ClassStarterModel" 146 ⟨"ClassStarterModel", "madeUse", "(I)V"⟩) ∈ cs_all := cs_mem (i := 722) (by decide +kernel) rfl
theorem wd_724 : (Cond.instanceMethod ⟨"ClassStarterModel", "madeUse", "(I)V"⟩) ∈ cs_all := cs_mem (i := 724) (by decide +kernel) rfl
set_option maxRecDepth 100000 in
theorem wd_725 : (Cond.code ⟨"ClassStarterModel", "madeUse", "(I)V"⟩ prog_8_method_22_code 4 (none : Option Jvm.ClassFile.FieldType)) ∈ cs_all := cs_mem (i := 725) rfl rfl
theorem wd_726 : (Cond.methodLink "ClassStarterModel" 126 ⟨"ClassStarterModel", "usedNow", "(I)I"⟩) ∈ cs_all := cs_mem (i := 726) (by decide +kernel) rfl
theorem wd_728 : (Cond.instanceMethod ⟨"ClassStarterModel", "usedNow", "(I)I"⟩) ∈ cs_all := cs_mem (i := 728) (by decide +kernel) rfl
set_option maxRecDepth 100000 in
theorem wd_729 : (Cond.code ⟨"ClassStarterModel", "usedNow", "(I)I"⟩ prog_8_method_14_code 6 (some .int)) ∈ cs_all := cs_mem (i := 729) rfl rfl
theorem wd_730 : (Cond.methodLink "ClassStarterModel" 123 ⟨"ClassStarterModel", "useAt", "(II)I"⟩) ∈ cs_all := cs_mem (i := 730) (by decide +kernel) rfl
theorem wd_732 : (Cond.instanceMethod ⟨"ClassStarterModel", "useAt", "(II)I"⟩) ∈ cs_all := cs_mem (i := 732) (by decide +kernel) rfl
set_option maxRecDepth 100000 in
theorem wd_733 : (Cond.code ⟨"ClassStarterModel", "useAt", "(II)I"⟩ prog_8_method_12_code 5 (some .int)) ∈ cs_all := cs_mem (i := 733) rfl rfl
theorem wd_734 : (Cond.methodLink "ClassStarterModel" 155 ⟨"ClassStarterModel", "useOf", "(II)V"⟩) ∈ cs_all := cs_mem (i := 734) (by decide +kernel) rfl
theorem wd_736 : (Cond.instanceMethod ⟨"ClassStarterModel", "useOf", "(II)V"⟩) ∈ cs_all := cs_mem (i := 736) (by decide +kernel) rfl
set_option maxRecDepth 100000 in
theorem wd_737 : (Cond.code ⟨"ClassStarterModel", "useOf", "(II)V"⟩ prog_8_method_24_code 3 (none : Option Jvm.ClassFile.FieldType)) ∈ cs_all := cs_mem (i := 737) rfl rfl
theorem wd_738 : (Cond.methodLink "ClassStarterModel" 149 ⟨"ClassStarterModel", "enter", "(II)V"⟩) ∈ cs_all := cs_mem (i := 738) (by decide +kernel) rfl
theorem wd_740 : (Cond.instanceMethod ⟨"ClassStarterModel", "enter", "(II)V"⟩) ∈ cs_all := cs_mem (i := 740) (by decide +kernel) rfl
set_option maxRecDepth 100000 in
theorem wd_741 : (Cond.code ⟨"ClassStarterModel", "enter", "(II)V"⟩ prog_8_method_25_code 3 (none : Option Jvm.ClassFile.FieldType)) ∈ cs_all := cs_mem (i := 741) rfl rfl
theorem wd_742 : (Cond.methodLink "ClassStarterModel" 158 ⟨"ClassStarterModel", "action", "(I)V"⟩) ∈ cs_all := cs_mem (i := 742) (by decide +kernel) rfl
theorem wd_744 : (Cond.instanceMethod ⟨"ClassStarterModel", "action", "(I)V"⟩) ∈ cs_all := cs_mem (i := 744) (by decide +kernel) rfl
set_option maxRecDepth 100000 in
theorem wd_745 : (Cond.code ⟨"ClassStarterModel", "action", "(I)V"⟩ prog_8_method_26_code 4 (none : Option Jvm.ClassFile.FieldType)) ∈ cs_all := cs_mem (i := 745) rfl rfl
theorem wd_746 : (Cond.methodLink "ClassStarterModel" 129 ⟨"ClassStarterModel", "waits", "(I)Z"⟩) ∈ cs_all := cs_mem (i := 746) (by decide +kernel) rfl
theorem wd_748 : (Cond.instanceMethod ⟨"ClassStarterModel", "waits", "(I)Z"⟩) ∈ cs_all := cs_mem (i := 748) (by decide +kernel) rfl
set_option maxRecDepth 100000 in
theorem wd_749 : (Cond.code ⟨"ClassStarterModel", "waits", "(I)Z"⟩ prog_8_method_15_code 3 (some .boolean)) ∈ cs_all := cs_mem (i := 749) rfl rfl
theorem wd_750 : (Cond.methodLink "ClassStarterLaw" 42 ⟨"ClassStarterModel", "reset", "()I"⟩) ∈ cs_all := cs_mem (i := 750) (by decide +kernel) rfl
theorem wd_751 : (Cond.instanceMethod ⟨"ClassStarterModel", "reset", "()I"⟩) ∈ cs_all := cs_mem (i := 751) (by decide +kernel) rfl
theorem wd_752 : (Cond.selects "ClassStarterModel" ⟨"ClassStarterModel", "reset", "()I"⟩ ⟨"ClassStarterModel", "reset", "()I"⟩) ∈ cs_all := cs_mem (i := 752) (by decide +kernel) rfl
set_option maxRecDepth 100000 in
theorem wd_753 : (Cond.code ⟨"ClassStarterModel", "reset", "()I"⟩ prog_8_method_31_code 2 (some .int)) ∈ cs_all := cs_mem (i := 753) rfl rfl
theorem wd_754 : (Cond.methodLink "ClassStarterLaw" 46 ⟨"ClassStarterModel", "state", "(I)I"⟩) ∈ cs_all := cs_mem (i := 754) (by decide +kernel) rfl
theorem wd_755 : (Cond.instanceMethod ⟨"ClassStarterModel", "state", "(I)I"⟩) ∈ cs_all := cs_mem (i := 755) (by decide +kernel) rfl
theorem wd_756 : (Cond.selects "ClassStarterModel" ⟨"ClassStarterModel", "state", "(I)I"⟩ ⟨"ClassStarterModel", "state", "(I)I"⟩) ∈ cs_all := cs_mem (i := 756) (by decide +kernel) rfl
set_option maxRecDepth 100000 in
theorem wd_757 : (Cond.code ⟨"ClassStarterModel", "state", "(I)I"⟩ prog_8_method_32_code 2 (some .int)) ∈ cs_all := cs_mem (i := 757) rfl rfl
theorem wd_758 : (Cond.methodLink "ClassStarterLaw" 51 ⟨"ClassStarterModel", "statics", "(II)J"⟩) ∈ cs_all := cs_mem (i := 758) (by decide +kernel) rfl
theorem wd_759 : (Cond.instanceMethod ⟨"ClassStarterModel", "statics", "(II)J"⟩) ∈ cs_all := cs_mem (i := 759) (by decide +kernel) rfl
theorem wd_760 : (Cond.selects "ClassStarterModel" ⟨"ClassStarterModel", "statics", "(II)J"⟩ ⟨"ClassStarterModel", "statics", "(II)J"⟩) ∈ cs_all := cs_mem (i := 760) (by decide +kernel) rfl
set_option maxRecDepth 100000 in
theorem wd_761 : (Cond.code ⟨"ClassStarterModel", "statics", "(II)J"⟩ prog_8_method_33_code 3 (some .long)) ∈ cs_all := cs_mem (i := 761) rfl rfl
theorem wd_762 : (Cond.constantLong "ClassStarterModel" 176 1000000000000) ∈ cs_all := cs_mem (i := 762) (by decide +kernel) rfl
theorem wd_763 : (Cond.methodLink "ClassStarterLaw" 55 ⟨"ClassStarterModel", "result", "(I)I"⟩) ∈ cs_all := cs_mem (i := 763) (by decide +kernel) rfl
theorem wd_764 : (Cond.instanceMethod ⟨"ClassStarterModel", "result", "(I)I"⟩) ∈ cs_all := cs_mem (i := 764) (by decide +kernel) rfl
theorem wd_765 : (Cond.selects "ClassStarterModel" ⟨"ClassStarterModel", "result", "(I)I"⟩ ⟨"ClassStarterModel", "result", "(I)I"⟩) ∈ cs_all := cs_mem (i := 765) (by decide +kernel) rfl
set_option maxRecDepth 100000 in
theorem wd_766 : (Cond.code ⟨"ClassStarterModel", "result", "(I)I"⟩ prog_8_method_34_code 2 (some .int)) ∈ cs_all := cs_mem (i := 766) rfl rfl
theorem wd_767 : (Cond.methodLink "ClassStarterModel" 178 ⟨"ClassStarterModel", "resultNow", "(I)I"⟩) ∈ cs_all := cs_mem (i := 767) (by decide +kernel) rfl
theorem wd_769 : (Cond.instanceMethod ⟨"ClassStarterModel", "resultNow", "(I)I"⟩) ∈ cs_all := cs_mem (i := 769) (by decide +kernel) rfl
set_option maxRecDepth 100000 in
theorem wd_770 : (Cond.code ⟨"ClassStarterModel", "resultNow", "(I)I"⟩ prog_8_method_29_code 3 (some .int)) ∈ cs_all := cs_mem (i := 770) rfl rfl
theorem wd_771 : (Cond.methodLink "ClassStarterModel" 170 ⟨"ClassStarterModel", "canStep", "(I)Z"⟩) ∈ cs_all := cs_mem (i := 771) (by decide +kernel) rfl
theorem wd_773 : (Cond.instanceMethod ⟨"ClassStarterModel", "canStep", "(I)Z"⟩) ∈ cs_all := cs_mem (i := 773) (by decide +kernel) rfl
set_option maxRecDepth 100000 in
theorem wd_774 : (Cond.code ⟨"ClassStarterModel", "canStep", "(I)Z"⟩ prog_8_method_16_code 2 (some .boolean)) ∈ cs_all := cs_mem (i := 774) rfl rfl
theorem wd_775 : (Cond.methodLink "ClassStarterLaw" 59 ⟨"ClassStarterModel", "inside", "(I)I"⟩) ∈ cs_all := cs_mem (i := 775) (by decide +kernel) rfl
theorem wd_776 : (Cond.instanceMethod ⟨"ClassStarterModel", "inside", "(I)I"⟩) ∈ cs_all := cs_mem (i := 776) (by decide +kernel) rfl
theorem wd_777 : (Cond.selects "ClassStarterModel" ⟨"ClassStarterModel", "inside", "(I)I"⟩ ⟨"ClassStarterModel", "inside", "(I)I"⟩) ∈ cs_all := cs_mem (i := 777) (by decide +kernel) rfl
set_option maxRecDepth 100000 in
theorem wd_778 : (Cond.code ⟨"ClassStarterModel", "inside", "(I)I"⟩ prog_8_method_35_code 2 (some .int)) ∈ cs_all := cs_mem (i := 778) rfl rfl
theorem wd_779 : (Cond.methodLink "ClassStarterLaw" 63 ⟨"ClassStarterModel", "waitsFor", "(I)I"⟩) ∈ cs_all := cs_mem (i := 779) (by decide +kernel) rfl
theorem wd_780 : (Cond.instanceMethod ⟨"ClassStarterModel", "waitsFor", "(I)I"⟩) ∈ cs_all := cs_mem (i := 780) (by decide +kernel) rfl
theorem wd_781 : (Cond.selects "ClassStarterModel" ⟨"ClassStarterModel", "waitsFor", "(I)I"⟩ ⟨"ClassStarterModel", "waitsFor", "(I)I"⟩) ∈ cs_all := cs_mem (i := 781) (by decide +kernel) rfl
set_option maxRecDepth 100000 in
theorem wd_782 : (Cond.code ⟨"ClassStarterModel", "waitsFor", "(I)I"⟩ prog_8_method_36_code 2 (some .int)) ∈ cs_all := cs_mem (i := 782) rfl rfl
theorem wd_783 : (Cond.methodLink "ClassStarterLaw" 68 ⟨"ClassStarterModel", "logged", "(I)J"⟩) ∈ cs_all := cs_mem (i := 783) (by decide +kernel) rfl
theorem wd_784 : (Cond.instanceMethod ⟨"ClassStarterModel", "logged", "(I)J"⟩) ∈ cs_all := cs_mem (i := 784) (by decide +kernel) rfl
theorem wd_785 : (Cond.selects "ClassStarterModel" ⟨"ClassStarterModel", "logged", "(I)J"⟩ ⟨"ClassStarterModel", "logged", "(I)J"⟩) ∈ cs_all := cs_mem (i := 785) (by decide +kernel) rfl
set_option maxRecDepth 100000 in
theorem wd_786 : (Cond.code ⟨"ClassStarterModel", "logged", "(I)J"⟩ prog_8_method_37_code 2 (some .long)) ∈ cs_all := cs_mem (i := 786) rfl rfl
theorem wd_787 : (Cond.methodLink "ClassStarterLaw" 72 ⟨"ClassStarterModel", "explore", "()I"⟩) ∈ cs_all := cs_mem (i := 787) (by decide +kernel) rfl
theorem wd_788 : (Cond.instanceMethod ⟨"ClassStarterModel", "explore", "()I"⟩) ∈ cs_all := cs_mem (i := 788) (by decide +kernel) rfl
theorem wd_789 : (Cond.selects "ClassStarterModel" ⟨"ClassStarterModel", "explore", "()I"⟩ ⟨"ClassStarterModel", "explore", "()I"⟩) ∈ cs_all := cs_mem (i := 789) (by decide +kernel) rfl
set_option maxRecDepth 100000 in
theorem wd_790 : (Cond.code ⟨"ClassStarterModel", "explore", "()I"⟩ prog_8_method_40_code 5 (some .int)) ∈ cs_all := cs_mem (i := 790) rfl rfl
theorem wd_791 : (Cond.methodLink "ClassStarterModel" 190 ⟨"ClassStarterModel", "nextThread", "(I)I"⟩) ∈ cs_all := cs_mem (i := 791) (by decide +kernel) rfl
theorem wd_793 : (Cond.instanceMethod ⟨"ClassStarterModel", "nextThread", "(I)I"⟩) ∈ cs_all := cs_mem (i := 793) (by decide +kernel) rfl
set_option maxRecDepth 100000 in
theorem wd_794 : (Cond.code ⟨"ClassStarterModel", "nextThread", "(I)I"⟩ prog_8_method_39_code 3 (some .int)) ∈ cs_all := cs_mem (i := 794) rfl rfl
theorem wd_795 : (Cond.methodLink "ClassStarterModel" 193 ⟨"ClassStarterModel", "noteOrder", "()V"⟩) ∈ cs_all := cs_mem (i := 795) (by decide +kernel) rfl
theorem wd_797 : (Cond.instanceMethod ⟨"ClassStarterModel", "noteOrder", "()V"⟩) ∈ cs_all := cs_mem (i := 797) (by decide +kernel) rfl
set_option maxRecDepth 100000 in
theorem wd_798 : (Cond.code ⟨"ClassStarterModel", "noteOrder", "()V"⟩ prog_8_method_38_code 5 (none : Option Jvm.ClassFile.FieldType)) ∈ cs_all := cs_mem (i := 798) rfl rfl
theorem wd_799 : (Cond.methodLink "ClassStarterLaw" 76 ⟨"ClassStarterModel", "outcome", "(I)J"⟩) ∈ cs_all := cs_mem (i := 799) (by decide +kernel) rfl
theorem wd_800 : (Cond.instanceMethod ⟨"ClassStarterModel", "outcome", "(I)J"⟩) ∈ cs_all := cs_mem (i := 800) (by decide +kernel) rfl
theorem wd_801 : (Cond.selects "ClassStarterModel" ⟨"ClassStarterModel", "outcome", "(I)J"⟩ ⟨"ClassStarterModel", "outcome", "(I)J"⟩) ∈ cs_all := cs_mem (i := 801) (by decide +kernel) rfl
set_option maxRecDepth 100000 in
theorem wd_802 : (Cond.code ⟨"ClassStarterModel", "outcome", "(I)J"⟩ prog_8_method_41_code 2 (some .long)) ∈ cs_all := cs_mem (i := 802) rfl rfl
theorem wd_803 : (Cond.methodLink "ClassStarterLaw" 80 ⟨"ClassStarterModel", "count", "(I)I"⟩) ∈ cs_all := cs_mem (i := 803) (by decide +kernel) rfl
theorem wd_804 : (Cond.instanceMethod ⟨"ClassStarterModel", "count", "(I)I"⟩) ∈ cs_all := cs_mem (i := 804) (by decide +kernel) rfl
theorem wd_805 : (Cond.selects "ClassStarterModel" ⟨"ClassStarterModel", "count", "(I)I"⟩ ⟨"ClassStarterModel", "count", "(I)I"⟩) ∈ cs_all := cs_mem (i := 805) (by decide +kernel) rfl
set_option maxRecDepth 100000 in
theorem wd_806 : (Cond.code ⟨"ClassStarterModel", "count", "(I)I"⟩ prog_8_method_42_code 2 (some .int)) ∈ cs_all := cs_mem (i := 806) rfl rfl
theorem cs_acN : Cond.native arraycopyName ∈ cs_all := wd_209
theorem cs_acS : Cond.static arraycopyName ∈ cs_all := wd_208
theorem cs_acI : Cond.initialized "java/lang/System" ∈ cs_all := wd_50
