section
-- ===== PART A: goes FIRST, ahead of the names: the tables' words, and 'selects' of the private methods out of them =====
/-- a private method of a class that the tables say can be made, by its rows of tables_1 -/
def lw_okq (q : MethodName × Nat) : Prop := (q.1.cls ≠ "java/lang/invoke/MethodHandle" ∧ q.1.cls ≠ "java/lang/invoke/VarHandle") ∧ Cond.instantiable q.1.cls q.2 ∈ tables_1 ∧ Cond.privateMethod q.1 ∈ tables_1 ∧ Cond.instanceMethod q.1 ∈ tables_1
theorem lw_p0 : lw_okq (⟨"ClassStarter$Script", "write", "(IIII)V"⟩, 6) := ⟨⟨by decide +kernel, by decide +kernel⟩, List.mem_of_getElem? (i := 27) (by decide +kernel), List.mem_of_getElem? (i := 169) (by decide +kernel), List.mem_of_getElem? (i := 170) (by decide +kernel)⟩
theorem lw_p1 : lw_okq (⟨"ClassStarter", "changed", "(I)I"⟩, 3) := ⟨⟨by decide +kernel, by decide +kernel⟩, List.mem_of_getElem? (i := 12) (by decide +kernel), List.mem_of_getElem? (i := 173) (by decide +kernel), List.mem_of_getElem? (i := 174) (by decide +kernel)⟩
theorem lw_p2 : lw_okq (⟨"ClassStarter$Program", "inherits", "(II)Z"⟩, 7) := ⟨⟨by decide +kernel, by decide +kernel⟩, List.mem_of_getElem? (i := 20) (by decide +kernel), List.mem_of_getElem? (i := 189) (by decide +kernel), List.mem_of_getElem? (i := 190) (by decide +kernel)⟩
theorem lw_p3 : lw_okq (⟨"ClassStarter$Machine", "isBehindLast", "(I)Z"⟩, 3) := ⟨⟨by decide +kernel, by decide +kernel⟩, List.mem_of_getElem? (i := 76) (by decide +kernel), List.mem_of_getElem? (i := 239) (by decide +kernel), List.mem_of_getElem? (i := 240) (by decide +kernel)⟩
theorem lw_p4 : lw_okq (⟨"ClassStarter$Machine", "failTop", "(I)V"⟩, 3) := ⟨⟨by decide +kernel, by decide +kernel⟩, List.mem_of_getElem? (i := 76) (by decide +kernel), List.mem_of_getElem? (i := 279) (by decide +kernel), List.mem_of_getElem? (i := 280) (by decide +kernel)⟩
theorem lw_p5 : lw_okq (⟨"ClassStarter$Machine", "dropTop", "(II)V"⟩, 3) := ⟨⟨by decide +kernel, by decide +kernel⟩, List.mem_of_getElem? (i := 76) (by decide +kernel), List.mem_of_getElem? (i := 283) (by decide +kernel), List.mem_of_getElem? (i := 284) (by decide +kernel)⟩
theorem lw_p6 : lw_okq (⟨"ClassStarter$Machine", "come", "(II)V"⟩, 3) := ⟨⟨by decide +kernel, by decide +kernel⟩, List.mem_of_getElem? (i := 76) (by decide +kernel), List.mem_of_getElem? (i := 293) (by decide +kernel), List.mem_of_getElem? (i := 294) (by decide +kernel)⟩
theorem lw_p7 : lw_okq (⟨"ClassStarter$Machine", "write", "(I)V"⟩, 3) := ⟨⟨by decide +kernel, by decide +kernel⟩, List.mem_of_getElem? (i := 76) (by decide +kernel), List.mem_of_getElem? (i := 304) (by decide +kernel), List.mem_of_getElem? (i := 305) (by decide +kernel)⟩
theorem lw_p8 : lw_okq (⟨"ClassStarter$Machine", "finishTop", "(I)V"⟩, 3) := ⟨⟨by decide +kernel, by decide +kernel⟩, List.mem_of_getElem? (i := 76) (by decide +kernel), List.mem_of_getElem? (i := 308) (by decide +kernel), List.mem_of_getElem? (i := 309) (by decide +kernel)⟩
theorem lw_p9 : lw_okq (⟨"ClassStarter$Machine", "makeUse", "(I)V"⟩, 3) := ⟨⟨by decide +kernel, by decide +kernel⟩, List.mem_of_getElem? (i := 76) (by decide +kernel), List.mem_of_getElem? (i := 312) (by decide +kernel), List.mem_of_getElem? (i := 313) (by decide +kernel)⟩
theorem lw_p10 : lw_okq (⟨"ClassStarter$Machine", "use", "(II)V"⟩, 3) := ⟨⟨by decide +kernel, by decide +kernel⟩, List.mem_of_getElem? (i := 76) (by decide +kernel), List.mem_of_getElem? (i := 327) (by decide +kernel), List.mem_of_getElem? (i := 328) (by decide +kernel)⟩
theorem lw_p11 : lw_okq (⟨"ClassStarter$Machine", "begin", "(II)V"⟩, 3) := ⟨⟨by decide +kernel, by decide +kernel⟩, List.mem_of_getElem? (i := 76) (by decide +kernel), List.mem_of_getElem? (i := 332) (by decide +kernel), List.mem_of_getElem? (i := 333) (by decide +kernel)⟩
theorem lw_p12 : lw_okq (⟨"ClassStarter$Machine", "perform", "(I)V"⟩, 3) := ⟨⟨by decide +kernel, by decide +kernel⟩, List.mem_of_getElem? (i := 76) (by decide +kernel), List.mem_of_getElem? (i := 336) (by decide +kernel), List.mem_of_getElem? (i := 337) (by decide +kernel)⟩
theorem lw_p13 : lw_okq (⟨"ClassStarter$Explorer", "begin", "()V"⟩, 10) := ⟨⟨by decide +kernel, by decide +kernel⟩, List.mem_of_getElem? (i := 99) (by decide +kernel), List.mem_of_getElem? (i := 413) (by decide +kernel), List.mem_of_getElem? (i := 414) (by decide +kernel)⟩
theorem lw_p14 : lw_okq (⟨"ClassStarter$Explorer", "dropAll", "()V"⟩, 10) := ⟨⟨by decide +kernel, by decide +kernel⟩, List.mem_of_getElem? (i := 99) (by decide +kernel), List.mem_of_getElem? (i := 417) (by decide +kernel), List.mem_of_getElem? (i := 418) (by decide +kernel)⟩
theorem lw_p15 : lw_okq (⟨"ClassStarter$Explorer", "goDown", "(I)V"⟩, 10) := ⟨⟨by decide +kernel, by decide +kernel⟩, List.mem_of_getElem? (i := 99) (by decide +kernel), List.mem_of_getElem? (i := 424) (by decide +kernel), List.mem_of_getElem? (i := 425) (by decide +kernel)⟩
def lw_privs_1 : List (MethodName × Nat) := [(⟨"ClassStarter$Script", "write", "(IIII)V"⟩, 6), (⟨"ClassStarter", "changed", "(I)I"⟩, 3), (⟨"ClassStarter$Program", "inherits", "(II)Z"⟩, 7), (⟨"ClassStarter$Machine", "isBehindLast", "(I)Z"⟩, 3), (⟨"ClassStarter$Machine", "failTop", "(I)V"⟩, 3), (⟨"ClassStarter$Machine", "dropTop", "(II)V"⟩, 3), (⟨"ClassStarter$Machine", "come", "(II)V"⟩, 3), (⟨"ClassStarter$Machine", "write", "(I)V"⟩, 3), (⟨"ClassStarter$Machine", "finishTop", "(I)V"⟩, 3), (⟨"ClassStarter$Machine", "makeUse", "(I)V"⟩, 3), (⟨"ClassStarter$Machine", "use", "(II)V"⟩, 3), (⟨"ClassStarter$Machine", "begin", "(II)V"⟩, 3), (⟨"ClassStarter$Machine", "perform", "(I)V"⟩, 3), (⟨"ClassStarter$Explorer", "begin", "()V"⟩, 10), (⟨"ClassStarter$Explorer", "dropAll", "()V"⟩, 10), (⟨"ClassStarter$Explorer", "goDown", "(I)V"⟩, 10)]
theorem lw_r1 : ∀ q ∈ lw_privs_1, lw_okq q := List.forall_mem_cons.mpr ⟨lw_p0, List.forall_mem_cons.mpr ⟨lw_p1, List.forall_mem_cons.mpr ⟨lw_p2, List.forall_mem_cons.mpr ⟨lw_p3, List.forall_mem_cons.mpr ⟨lw_p4, List.forall_mem_cons.mpr ⟨lw_p5, List.forall_mem_cons.mpr ⟨lw_p6, List.forall_mem_cons.mpr ⟨lw_p7, List.forall_mem_cons.mpr ⟨lw_p8, List.forall_mem_cons.mpr ⟨lw_p9, List.forall_mem_cons.mpr ⟨lw_p10, List.forall_mem_cons.mpr ⟨lw_p11, List.forall_mem_cons.mpr ⟨lw_p12, List.forall_mem_cons.mpr ⟨lw_p13, List.forall_mem_cons.mpr ⟨lw_p14, List.forall_mem_cons.mpr ⟨lw_p15, fun _ h => absurd h List.not_mem_nil⟩⟩⟩⟩⟩⟩⟩⟩⟩⟩⟩⟩⟩⟩⟩⟩
theorem lw_p16 : lw_okq (⟨"ClassStarter$Explorer", "endOrder", "()V"⟩, 10) := ⟨⟨by decide +kernel, by decide +kernel⟩, List.mem_of_getElem? (i := 99) (by decide +kernel), List.mem_of_getElem? (i := 434) (by decide +kernel), List.mem_of_getElem? (i := 435) (by decide +kernel)⟩
theorem lw_p17 : lw_okq (⟨"ClassStarter$Explorer", "find", "(I)V"⟩, 10) := ⟨⟨by decide +kernel, by decide +kernel⟩, List.mem_of_getElem? (i := 99) (by decide +kernel), List.mem_of_getElem? (i := 439) (by decide +kernel), List.mem_of_getElem? (i := 440) (by decide +kernel)⟩
theorem lw_p18 : lw_okq (⟨"ClassStarter$Explorer", "goUp", "()V"⟩, 10) := ⟨⟨by decide +kernel, by decide +kernel⟩, List.mem_of_getElem? (i := 99) (by decide +kernel), List.mem_of_getElem? (i := 458) (by decide +kernel), List.mem_of_getElem? (i := 459) (by decide +kernel)⟩
theorem lw_p19 : lw_okq (⟨"ClassStarter$Explorer", "finish", "()V"⟩, 10) := ⟨⟨by decide +kernel, by decide +kernel⟩, List.mem_of_getElem? (i := 99) (by decide +kernel), List.mem_of_getElem? (i := 466) (by decide +kernel), List.mem_of_getElem? (i := 467) (by decide +kernel)⟩
theorem lw_p20 : lw_okq (⟨"ClassStarterModel", "work", "()V"⟩, 32) := ⟨⟨by decide +kernel, by decide +kernel⟩, List.mem_of_getElem? (i := 502) (by decide +kernel), List.mem_of_getElem? (i := 631) (by decide +kernel), List.mem_of_getElem? (i := 632) (by decide +kernel)⟩
theorem lw_p21 : lw_okq (⟨"ClassStarterModel", "start", "()V"⟩, 32) := ⟨⟨by decide +kernel, by decide +kernel⟩, List.mem_of_getElem? (i := 502) (by decide +kernel), List.mem_of_getElem? (i := 635) (by decide +kernel), List.mem_of_getElem? (i := 636) (by decide +kernel)⟩
theorem lw_p22 : lw_okq (⟨"ClassStarterModel", "finish", "(I)V"⟩, 32) := ⟨⟨by decide +kernel, by decide +kernel⟩, List.mem_of_getElem? (i := 502) (by decide +kernel), List.mem_of_getElem? (i := 639) (by decide +kernel), List.mem_of_getElem? (i := 640) (by decide +kernel)⟩
theorem lw_p23 : lw_okq (⟨"ClassStarterModel", "stepOf", "(I)V"⟩, 32) := ⟨⟨by decide +kernel, by decide +kernel⟩, List.mem_of_getElem? (i := 502) (by decide +kernel), List.mem_of_getElem? (i := 643) (by decide +kernel), List.mem_of_getElem? (i := 644) (by decide +kernel)⟩
theorem lw_p24 : lw_okq (⟨"ClassStarterModel", "leave", "(II)V"⟩, 32) := ⟨⟨by decide +kernel, by decide +kernel⟩, List.mem_of_getElem? (i := 502) (by decide +kernel), List.mem_of_getElem? (i := 647) (by decide +kernel), List.mem_of_getElem? (i := 648) (by decide +kernel)⟩
theorem lw_p25 : lw_okq (⟨"ClassStarterModel", "top", "(I)I"⟩, 32) := ⟨⟨by decide +kernel, by decide +kernel⟩, List.mem_of_getElem? (i := 502) (by decide +kernel), List.mem_of_getElem? (i := 651) (by decide +kernel), List.mem_of_getElem? (i := 652) (by decide +kernel)⟩
theorem lw_p26 : lw_okq (⟨"ClassStarterModel", "come", "(II)V"⟩, 32) := ⟨⟨by decide +kernel, by decide +kernel⟩, List.mem_of_getElem? (i := 502) (by decide +kernel), List.mem_of_getElem? (i := 655) (by decide +kernel), List.mem_of_getElem? (i := 656) (by decide +kernel)⟩
theorem lw_p27 : lw_okq (⟨"ClassStarterModel", "actionAt", "(II)I"⟩, 32) := ⟨⟨by decide +kernel, by decide +kernel⟩, List.mem_of_getElem? (i := 502) (by decide +kernel), List.mem_of_getElem? (i := 659) (by decide +kernel), List.mem_of_getElem? (i := 660) (by decide +kernel)⟩
theorem lw_p28 : lw_okq (⟨"ClassStarterModel", "uses", "(I)I"⟩, 32) := ⟨⟨by decide +kernel, by decide +kernel⟩, List.mem_of_getElem? (i := 502) (by decide +kernel), List.mem_of_getElem? (i := 663) (by decide +kernel), List.mem_of_getElem? (i := 664) (by decide +kernel)⟩
theorem lw_p29 : lw_okq (⟨"ClassStarterModel", "parts", "(II)I"⟩, 32) := ⟨⟨by decide +kernel, by decide +kernel⟩, List.mem_of_getElem? (i := 502) (by decide +kernel), List.mem_of_getElem? (i := 667) (by decide +kernel), List.mem_of_getElem? (i := 668) (by decide +kernel)⟩
theorem lw_p30 : lw_okq (⟨"ClassStarterModel", "note", "(I)V"⟩, 32) := ⟨⟨by decide +kernel, by decide +kernel⟩, List.mem_of_getElem? (i := 502) (by decide +kernel), List.mem_of_getElem? (i := 674) (by decide +kernel), List.mem_of_getElem? (i := 675) (by decide +kernel)⟩
theorem lw_p31 : lw_okq (⟨"ClassStarterModel", "madeUse", "(I)V"⟩, 32) := ⟨⟨by decide +kernel, by decide +kernel⟩, List.mem_of_getElem? (i := 502) (by decide +kernel), List.mem_of_getElem? (i := 681) (by decide +kernel), List.mem_of_getElem? (i := 682) (by decide +kernel)⟩
def lw_privs_2 : List (MethodName × Nat) := [(⟨"ClassStarter$Explorer", "endOrder", "()V"⟩, 10), (⟨"ClassStarter$Explorer", "find", "(I)V"⟩, 10), (⟨"ClassStarter$Explorer", "goUp", "()V"⟩, 10), (⟨"ClassStarter$Explorer", "finish", "()V"⟩, 10), (⟨"ClassStarterModel", "work", "()V"⟩, 32), (⟨"ClassStarterModel", "start", "()V"⟩, 32), (⟨"ClassStarterModel", "finish", "(I)V"⟩, 32), (⟨"ClassStarterModel", "stepOf", "(I)V"⟩, 32), (⟨"ClassStarterModel", "leave", "(II)V"⟩, 32), (⟨"ClassStarterModel", "top", "(I)I"⟩, 32), (⟨"ClassStarterModel", "come", "(II)V"⟩, 32), (⟨"ClassStarterModel", "actionAt", "(II)I"⟩, 32), (⟨"ClassStarterModel", "uses", "(I)I"⟩, 32), (⟨"ClassStarterModel", "parts", "(II)I"⟩, 32), (⟨"ClassStarterModel", "note", "(I)V"⟩, 32), (⟨"ClassStarterModel", "madeUse", "(I)V"⟩, 32)]
theorem lw_r2 : ∀ q ∈ lw_privs_2, lw_okq q := List.forall_mem_cons.mpr ⟨lw_p16, List.forall_mem_cons.mpr ⟨lw_p17, List.forall_mem_cons.mpr ⟨lw_p18, List.forall_mem_cons.mpr ⟨lw_p19, List.forall_mem_cons.mpr ⟨lw_p20, List.forall_mem_cons.mpr ⟨lw_p21, List.forall_mem_cons.mpr ⟨lw_p22, List.forall_mem_cons.mpr ⟨lw_p23, List.forall_mem_cons.mpr ⟨lw_p24, List.forall_mem_cons.mpr ⟨lw_p25, List.forall_mem_cons.mpr ⟨lw_p26, List.forall_mem_cons.mpr ⟨lw_p27, List.forall_mem_cons.mpr ⟨lw_p28, List.forall_mem_cons.mpr ⟨lw_p29, List.forall_mem_cons.mpr ⟨lw_p30, List.forall_mem_cons.mpr ⟨lw_p31, fun _ h => absurd h List.not_mem_nil⟩⟩⟩⟩⟩⟩⟩⟩⟩⟩⟩⟩⟩⟩⟩⟩
theorem lw_p32 : lw_okq (⟨"ClassStarterModel", "usedNow", "(I)I"⟩, 32) := ⟨⟨by decide +kernel, by decide +kernel⟩, List.mem_of_getElem? (i := 502) (by decide +kernel), List.mem_of_getElem? (i := 685) (by decide +kernel), List.mem_of_getElem? (i := 686) (by decide +kernel)⟩
theorem lw_p33 : lw_okq (⟨"ClassStarterModel", "useAt", "(II)I"⟩, 32) := ⟨⟨by decide +kernel, by decide +kernel⟩, List.mem_of_getElem? (i := 502) (by decide +kernel), List.mem_of_getElem? (i := 689) (by decide +kernel), List.mem_of_getElem? (i := 690) (by decide +kernel)⟩
theorem lw_p34 : lw_okq (⟨"ClassStarterModel", "useOf", "(II)V"⟩, 32) := ⟨⟨by decide +kernel, by decide +kernel⟩, List.mem_of_getElem? (i := 502) (by decide +kernel), List.mem_of_getElem? (i := 693) (by decide +kernel), List.mem_of_getElem? (i := 694) (by decide +kernel)⟩
theorem lw_p35 : lw_okq (⟨"ClassStarterModel", "enter", "(II)V"⟩, 32) := ⟨⟨by decide +kernel, by decide +kernel⟩, List.mem_of_getElem? (i := 502) (by decide +kernel), List.mem_of_getElem? (i := 697) (by decide +kernel), List.mem_of_getElem? (i := 698) (by decide +kernel)⟩
theorem lw_p36 : lw_okq (⟨"ClassStarterModel", "action", "(I)V"⟩, 32) := ⟨⟨by decide +kernel, by decide +kernel⟩, List.mem_of_getElem? (i := 502) (by decide +kernel), List.mem_of_getElem? (i := 701) (by decide +kernel), List.mem_of_getElem? (i := 702) (by decide +kernel)⟩
theorem lw_p37 : lw_okq (⟨"ClassStarterModel", "waits", "(I)Z"⟩, 32) := ⟨⟨by decide +kernel, by decide +kernel⟩, List.mem_of_getElem? (i := 502) (by decide +kernel), List.mem_of_getElem? (i := 705) (by decide +kernel), List.mem_of_getElem? (i := 706) (by decide +kernel)⟩
theorem lw_p38 : lw_okq (⟨"ClassStarterModel", "resultNow", "(I)I"⟩, 32) := ⟨⟨by decide +kernel, by decide +kernel⟩, List.mem_of_getElem? (i := 502) (by decide +kernel), List.mem_of_getElem? (i := 726) (by decide +kernel), List.mem_of_getElem? (i := 727) (by decide +kernel)⟩
theorem lw_p39 : lw_okq (⟨"ClassStarterModel", "canStep", "(I)Z"⟩, 32) := ⟨⟨by decide +kernel, by decide +kernel⟩, List.mem_of_getElem? (i := 502) (by decide +kernel), List.mem_of_getElem? (i := 730) (by decide +kernel), List.mem_of_getElem? (i := 731) (by decide +kernel)⟩
theorem lw_p40 : lw_okq (⟨"ClassStarterModel", "nextThread", "(I)I"⟩, 32) := ⟨⟨by decide +kernel, by decide +kernel⟩, List.mem_of_getElem? (i := 502) (by decide +kernel), List.mem_of_getElem? (i := 750) (by decide +kernel), List.mem_of_getElem? (i := 751) (by decide +kernel)⟩
theorem lw_p41 : lw_okq (⟨"ClassStarterModel", "noteOrder", "()V"⟩, 32) := ⟨⟨by decide +kernel, by decide +kernel⟩, List.mem_of_getElem? (i := 502) (by decide +kernel), List.mem_of_getElem? (i := 754) (by decide +kernel), List.mem_of_getElem? (i := 755) (by decide +kernel)⟩
def lw_privs_3 : List (MethodName × Nat) := [(⟨"ClassStarterModel", "usedNow", "(I)I"⟩, 32), (⟨"ClassStarterModel", "useAt", "(II)I"⟩, 32), (⟨"ClassStarterModel", "useOf", "(II)V"⟩, 32), (⟨"ClassStarterModel", "enter", "(II)V"⟩, 32), (⟨"ClassStarterModel", "action", "(I)V"⟩, 32), (⟨"ClassStarterModel", "waits", "(I)Z"⟩, 32), (⟨"ClassStarterModel", "resultNow", "(I)I"⟩, 32), (⟨"ClassStarterModel", "canStep", "(I)Z"⟩, 32), (⟨"ClassStarterModel", "nextThread", "(I)I"⟩, 32), (⟨"ClassStarterModel", "noteOrder", "()V"⟩, 32)]
theorem lw_r3 : ∀ q ∈ lw_privs_3, lw_okq q := List.forall_mem_cons.mpr ⟨lw_p32, List.forall_mem_cons.mpr ⟨lw_p33, List.forall_mem_cons.mpr ⟨lw_p34, List.forall_mem_cons.mpr ⟨lw_p35, List.forall_mem_cons.mpr ⟨lw_p36, List.forall_mem_cons.mpr ⟨lw_p37, List.forall_mem_cons.mpr ⟨lw_p38, List.forall_mem_cons.mpr ⟨lw_p39, List.forall_mem_cons.mpr ⟨lw_p40, List.forall_mem_cons.mpr ⟨lw_p41, fun _ h => absurd h List.not_mem_nil⟩⟩⟩⟩⟩⟩⟩⟩⟩⟩
def lw_privs : List (MethodName × Nat) := lw_privs_1 ++ (lw_privs_2 ++ (lw_privs_3))
def lw_tbl : List Cond := k2_sels lw_privs ++ tables_1
theorem lw_privs_ok : ∀ q ∈ lw_privs, lw_okq q := by
  show ∀ q ∈ lw_privs_1 ++ (lw_privs_2 ++ (lw_privs_3)), lw_okq q
  exact List.forall_mem_append.mpr ⟨lw_r1, List.forall_mem_append.mpr ⟨lw_r2, lw_r3⟩⟩
end
section
abbrev cs_Mem : Type := Nat → Nat → Int32
def cs_up (M : cs_Mem) (j : Nat) (g : Nat → Int32) : cs_Mem := fun i => if i = j then g else M i
def cs_bd {α : Type} {β : Sort _} (v : α) (k : α → β) : β := k v
def cs_n : Nat := 87
def cs_kdL : List Nat := [0, 1, 21, 21, 20, 20, 20, 22, 2, 20, 20, 20, 2, 20, 20, 20, 2, 20, 20, 20, 2, 20, 20, 20, 2, 20, 20, 20, 2, 20, 20, 20, 2, 20, 20, 20, 2, 20, 20, 20, 2, 20, 20, 20, 2, 20, 20, 20, 2, 20, 20, 20, 3, 20, 20, 4, 3, 20, 20, 20, 20, 20, 5, 20, 20, 20, 20, 20, 21, 21, 20, 21, 20, 20, 20, 20, 20, 20, 20, 20, 20, 20, 20, 20, 20, 20, 20]
def cs_kd (j : Nat) : Nat := cs_kdL.getD j 99
def cs_lnL : List Nat := [0, 0, 8, 8, 8, 16, 8, 11, 0, 8, 8, 8, 0, 8, 8, 8, 0, 8, 8, 8, 0, 8, 8, 8, 0, 8, 8, 8, 0, 8, 8, 8, 0, 8, 8, 8, 0, 8, 8, 8, 0, 3, 3, 3, 0, 3, 3, 3, 0, 3, 3, 3, 0, 43, 49, 0, 0, 43, 49, 3827, 90, 0, 0, 8, 8, 8, 8, 8, 8, 8, 16, 16, 55, 55, 55, 3, 513, 400, 8, 16, 27, 27, 3, 3, 3, 600, 3001]
def cs_ln (M : cs_Mem) (j : Nat) : Nat := if j = 61 then (M 1000 0).toNatClampNeg else cs_lnL.getD j 0
theorem cs_ln_up {M : cs_Mem} {j i : Nat} {g : Nat → Int32} (h : j < cs_n) : cs_ln (cs_up M j g) i = cs_ln M i := by
  have h1 : 1000 ≠ j := by
    unfold cs_n at h
    omega
  simp [cs_ln, cs_up, h1]
def cs_cell (k : Nat) (cA : Nat → ClassId) (ad : Nat → Nat) (n : Nat) (row : Nat → Int32) (j : Nat) : va_E := match k with
  | 0 => .inr (0, [.ref (ad 1), .ref (ad 52), .ref (ad 55)])
  | 1 => .inr (1, [.ref (ad 2), .ref (ad 3), .ref (ad 4), .ref (ad 5), .ref (ad 6), .ref (ad 7), .int (row 6)])
  | 2 => .inr (2, [.int (row 0), .ref (ad (j + 1)), .ref (ad (j + 2)), .ref (ad (j + 3)), .int (row 4), .int (row 5)])
  | 3 => .inr (3, [.ref (ad 1), .ref (ad (j + 1)), .ref (ad (j + 2))])
  | 4 => .inr (4, [.ref (ad 56), .ref (ad 59), .ref (ad 60), .ref (ad 61), .int (row 4), .int (row 5), .int (row 6), .int (row 7), .int (row 8), .int (row 9)])
  | 5 => .inr (5, [.int (row 0), .ref (ad 63), .ref (ad 64), .ref (ad 65), .ref (ad 66), .ref (ad 67), .ref (ad 68), .ref (ad 69), .ref (ad 70), .ref (ad 71), .ref (ad 72), .ref (ad 73), .ref (ad 74), .ref (ad 75), .ref (ad 76), .int (row 15), .int (row 16), .ref (ad 77), .ref (ad 78), .ref (ad 79), .ref (ad 80), .ref (ad 81), .ref (ad 82), .ref (ad 83), .ref (ad 84), .ref (ad 85), .int (row 26), .ref (ad 86), .int (row 28), .int (row 29), .int (row 30), .int (row 31)])
  | 20 => .inl (cA 0, n, .inl row)
  | 21 => .inl (cA 1, n, .inl row)
  | 22 => .inl (cA 2, 11, .inr (.inr (.inr (.inr (fun i => some (ad (8 + 4 * i)))))))
  | _ => .inl (cA 0, 0, .inl row)
def cs_tys (cA : Nat → ClassId) : List (ClassId × FieldType) := [(cA 0, .int), (cA 1, .boolean), (cA 2, .object "ClassStarter$Script")]
def cs_T0 : u_T := fun k => match k with
  | 0 => ("ClassStarter", "program", "LClassStarter$Program;", true)
  | 1 => ("ClassStarter", "machine", "LClassStarter$Machine;", true)
  | _ => ("ClassStarter", "explorer", "LClassStarter$Explorer;", true)
def cs_t0 : Nat → FieldType := fun k => match k with
  | 0 => .object "ClassStarter$Program"
  | 1 => .object "ClassStarter$Machine"
  | _ => .object "ClassStarter$Explorer"
def cs_T1 : u_T := fun k => match k with
  | 0 => ("ClassStarter$Program", "interfaces", "[Z", true)
  | 1 => ("ClassStarter$Program", "constants", "[Z", true)
  | 2 => ("ClassStarter$Program", "constantValues", "[I", true)
  | 3 => ("ClassStarter$Program", "inherited", "[I", true)
  | 4 => ("ClassStarter$Program", "inheritedCounts", "[I", true)
  | 5 => ("ClassStarter$Program", "scripts", "[LClassStarter$Script;", true)
  | _ => ("ClassStarter$Program", "classCount", "I", false)
def cs_t1 : Nat → FieldType := fun k => match k with
  | 0 => .array .boolean
  | 1 => .array .boolean
  | 2 => .array .int
  | 3 => .array .int
  | 4 => .array .int
  | 5 => .array (.object "ClassStarter$Script")
  | _ => .int
def cs_T2 : u_T := fun k => match k with
  | 0 => ("ClassStarter$Script", "mostActions", "I", true)
  | 1 => ("ClassStarter$Script", "actions", "[I", true)
  | 2 => ("ClassStarter$Script", "firstOperands", "[I", true)
  | 3 => ("ClassStarter$Script", "secondOperands", "[I", true)
  | 4 => ("ClassStarter$Script", "usesAhead", "I", false)
  | _ => ("ClassStarter$Script", "length", "I", false)
def cs_t2 : Nat → FieldType := fun k => match k with
  | 0 => .int
  | 1 => .array .int
  | 2 => .array .int
  | 3 => .array .int
  | 4 => .int
  | _ => .int
def cs_T3 : u_T := fun k => match k with
  | 0 => ("ClassStarter$Machine", "program", "LClassStarter$Program;", true)
  | 1 => ("ClassStarter$Machine", "cells", "[I", true)
  | _ => ("ClassStarter$Machine", "log", "[I", true)
def cs_t3 : Nat → FieldType := fun k => match k with
  | 0 => .object "ClassStarter$Program"
  | 1 => .array .int
  | _ => .array .int
def cs_T4 : u_T := fun k => match k with
  | 0 => ("ClassStarter$Explorer", "machine", "LClassStarter$Machine;", true)
  | 1 => ("ClassStarter$Explorer", "kept", "[I", true)
  | 2 => ("ClassStarter$Explorer", "untried", "[I", true)
  | 3 => ("ClassStarter$Explorer", "found", "[I", false)
  | 4 => ("ClassStarter$Explorer", "foundCount", "I", false)
  | 5 => ("ClassStarter$Explorer", "orders", "I", false)
  | 6 => ("ClassStarter$Explorer", "stuckOrders", "I", false)
  | 7 => ("ClassStarter$Explorer", "depth", "I", false)
  | 8 => ("ClassStarter$Explorer", "isKnown", "Z", false)
  | _ => ("ClassStarter$Explorer", "answer", "I", false)
def cs_t4 : Nat → FieldType := fun k => match k with
  | 0 => .object "ClassStarter$Machine"
  | 1 => .array .int
  | 2 => .array .int
  | 3 => .array .int
  | 4 => .int
  | 5 => .int
  | 6 => .int
  | 7 => .int
  | 8 => .boolean
  | _ => .int
def cs_T5 : u_T := fun k => match k with
  | 0 => ("ClassStarterModel", "classes", "I", false)
  | 1 => ("ClassStarterModel", "parent", "[I", true)
  | 2 => ("ClassStarterModel", "constants", "[I", true)
  | 3 => ("ClassStarterModel", "interfaces", "[I", true)
  | 4 => ("ClassStarterModel", "actions", "[I", true)
  | 5 => ("ClassStarterModel", "actionCount", "[I", true)
  | 6 => ("ClassStarterModel", "isInterface", "[Z", true)
  | 7 => ("ClassStarterModel", "constant", "[Z", true)
  | 8 => ("ClassStarterModel", "iface", "[I", true)
  | 9 => ("ClassStarterModel", "defaulted", "[Z", true)
  | 10 => ("ClassStarterModel", "act", "[I", true)
  | 11 => ("ClassStarterModel", "actA", "[I", true)
  | 12 => ("ClassStarterModel", "actB", "[I", true)
  | 13 => ("ClassStarterModel", "planCount", "[I", true)
  | 14 => ("ClassStarterModel", "made", "[I", true)
  | 15 => ("ClassStarterModel", "steps", "I", false)
  | 16 => ("ClassStarterModel", "begun", "Z", false)
  | 17 => ("ClassStarterModel", "tried", "[I", true)
  | 18 => ("ClassStarterModel", "state", "[I", true)
  | 19 => ("ClassStarterModel", "statics", "[I", true)
  | 20 => ("ClassStarterModel", "frame", "[I", true)
  | 21 => ("ClassStarterModel", "part", "[I", true)
  | 22 => ("ClassStarterModel", "frames", "[I", true)
  | 23 => ("ClassStarterModel", "pending", "[I", true)
  | 24 => ("ClassStarterModel", "ended", "[I", true)
  | 25 => ("ClassStarterModel", "log", "[I", true)
  | 26 => ("ClassStarterModel", "logs", "I", false)
  | 27 => ("ClassStarterModel", "outcomes", "[I", true)
  | 28 => ("ClassStarterModel", "found", "I", false)
  | 29 => ("ClassStarterModel", "orders", "I", false)
  | 30 => ("ClassStarterModel", "stuckOrders", "I", false)
  | _ => ("ClassStarterModel", "explored", "Z", false)
def cs_t5 : Nat → FieldType := fun k => match k with
  | 0 => .int
  | 1 => .array .int
  | 2 => .array .int
  | 3 => .array .int
  | 4 => .array .int
  | 5 => .array .int
  | 6 => .array .boolean
  | 7 => .array .boolean
  | 8 => .array .int
  | 9 => .array .boolean
  | 10 => .array .int
  | 11 => .array .int
  | 12 => .array .int
  | 13 => .array .int
  | 14 => .array .int
  | 15 => .int
  | 16 => .boolean
  | 17 => .array .int
  | 18 => .array .int
  | 19 => .array .int
  | 20 => .array .int
  | 21 => .array .int
  | 22 => .array .int
  | 23 => .array .int
  | 24 => .array .int
  | 25 => .array .int
  | 26 => .int
  | 27 => .array .int
  | 28 => .int
  | 29 => .int
  | 30 => .int
  | _ => .boolean
def cs_cl : List vw_C := [("ClassStarter", cs_T0, 3), ("ClassStarter$Program", cs_T1, 7), ("ClassStarter$Script", cs_T2, 6), ("ClassStarter$Machine", cs_T3, 3), ("ClassStarter$Explorer", cs_T4, 10), ("ClassStarterModel", cs_T5, 32)]
def cs_all : List Cond := lw_tbl.filter (fun w => goodWord w || k2_isCode w)
end
section
theorem cs_mem {w : Cond} {i : Nat} (h : lw_tbl[i]? = some w) (hg : (goodWord w || k2_isCode w) = true) : w ∈ cs_all := List.mem_filter.mpr ⟨List.mem_of_getElem? h, hg⟩
theorem wd_0 : (Cond.selects "ClassStarter$Script" ⟨"ClassStarter$Script", "write", "(IIII)V"⟩ ⟨"ClassStarter$Script", "write", "(IIII)V"⟩) ∈ cs_all := cs_mem (i := 0) (by decide +kernel) rfl
theorem wd_1 : (Cond.selects "ClassStarter" ⟨"ClassStarter", "changed", "(I)I"⟩ ⟨"ClassStarter", "changed", "(I)I"⟩) ∈ cs_all := cs_mem (i := 1) (by decide +kernel) rfl
theorem wd_2 : (Cond.selects "ClassStarter$Program" ⟨"ClassStarter$Program", "inherits", "(II)Z"⟩ ⟨"ClassStarter$Program", "inherits", "(II)Z"⟩) ∈ cs_all := cs_mem (i := 2) (by decide +kernel) rfl
theorem wd_3 : (Cond.selects "ClassStarter$Machine" ⟨"ClassStarter$Machine", "isBehindLast", "(I)Z"⟩ ⟨"ClassStarter$Machine", "isBehindLast", "(I)Z"⟩) ∈ cs_all := cs_mem (i := 3) (by decide +kernel) rfl
theorem wd_4 : (Cond.selects "ClassStarter$Machine" ⟨"ClassStarter$Machine", "failTop", "(I)V"⟩ ⟨"ClassStarter$Machine", "failTop", "(I)V"⟩) ∈ cs_all := cs_mem (i := 4) (by decide +kernel) rfl
theorem wd_5 : (Cond.selects "ClassStarter$Machine" ⟨"ClassStarter$Machine", "dropTop", "(II)V"⟩ ⟨"ClassStarter$Machine", "dropTop", "(II)V"⟩) ∈ cs_all := cs_mem (i := 5) (by decide +kernel) rfl
theorem wd_6 : (Cond.selects "ClassStarter$Machine" ⟨"ClassStarter$Machine", "come", "(II)V"⟩ ⟨"ClassStarter$Machine", "come", "(II)V"⟩) ∈ cs_all := cs_mem (i := 6) (by decide +kernel) rfl
theorem wd_7 : (Cond.selects "ClassStarter$Machine" ⟨"ClassStarter$Machine", "write", "(I)V"⟩ ⟨"ClassStarter$Machine", "write", "(I)V"⟩) ∈ cs_all := cs_mem (i := 7) (by decide +kernel) rfl
theorem wd_8 : (Cond.selects "ClassStarter$Machine" ⟨"ClassStarter$Machine", "finishTop", "(I)V"⟩ ⟨"ClassStarter$Machine", "finishTop", "(I)V"⟩) ∈ cs_all := cs_mem (i := 8) (by decide +kernel) rfl
theorem wd_9 : (Cond.selects "ClassStarter$Machine" ⟨"ClassStarter$Machine", "makeUse", "(I)V"⟩ ⟨"ClassStarter$Machine", "makeUse", "(I)V"⟩) ∈ cs_all := cs_mem (i := 9) (by decide +kernel) rfl
theorem wd_10 : (Cond.selects "ClassStarter$Machine" ⟨"ClassStarter$Machine", "use", "(II)V"⟩ ⟨"ClassStarter$Machine", "use", "(II)V"⟩) ∈ cs_all := cs_mem (i := 10) (by decide +kernel) rfl
theorem wd_11 : (Cond.selects "ClassStarter$Machine" ⟨"ClassStarter$Machine", "begin", "(II)V"⟩ ⟨"ClassStarter$Machine", "begin", "(II)V"⟩) ∈ cs_all := cs_mem (i := 11) (by decide +kernel) rfl
theorem wd_12 : (Cond.selects "ClassStarter$Machine" ⟨"ClassStarter$Machine", "perform", "(I)V"⟩ ⟨"ClassStarter$Machine", "perform", "(I)V"⟩) ∈ cs_all := cs_mem (i := 12) (by decide +kernel) rfl
theorem wd_13 : (Cond.selects "ClassStarter$Explorer" ⟨"ClassStarter$Explorer", "begin", "()V"⟩ ⟨"ClassStarter$Explorer", "begin", "()V"⟩) ∈ cs_all := cs_mem (i := 13) (by decide +kernel) rfl
theorem wd_14 : (Cond.selects "ClassStarter$Explorer" ⟨"ClassStarter$Explorer", "dropAll", "()V"⟩ ⟨"ClassStarter$Explorer", "dropAll", "()V"⟩) ∈ cs_all := cs_mem (i := 14) (by decide +kernel) rfl
theorem wd_15 : (Cond.selects "ClassStarter$Explorer" ⟨"ClassStarter$Explorer", "goDown", "(I)V"⟩ ⟨"ClassStarter$Explorer", "goDown", "(I)V"⟩) ∈ cs_all := cs_mem (i := 15) (by decide +kernel) rfl
theorem wd_18 : (Cond.selects "ClassStarter$Explorer" ⟨"ClassStarter$Explorer", "goUp", "()V"⟩ ⟨"ClassStarter$Explorer", "goUp", "()V"⟩) ∈ cs_all := cs_mem (i := 18) (by decide +kernel) rfl
theorem wd_19 : (Cond.selects "ClassStarter$Explorer" ⟨"ClassStarter$Explorer", "finish", "()V"⟩ ⟨"ClassStarter$Explorer", "finish", "()V"⟩) ∈ cs_all := cs_mem (i := 19) (by decide +kernel) rfl
theorem wd_20 : (Cond.selects "ClassStarterModel" ⟨"ClassStarterModel", "work", "()V"⟩ ⟨"ClassStarterModel", "work", "()V"⟩) ∈ cs_all := cs_mem (i := 20) (by decide +kernel) rfl
theorem wd_21 : (Cond.selects "ClassStarterModel" ⟨"ClassStarterModel", "start", "()V"⟩ ⟨"ClassStarterModel", "start", "()V"⟩) ∈ cs_all := cs_mem (i := 21) (by decide +kernel) rfl
theorem wd_22 : (Cond.selects "ClassStarterModel" ⟨"ClassStarterModel", "finish", "(I)V"⟩ ⟨"ClassStarterModel", "finish", "(I)V"⟩) ∈ cs_all := cs_mem (i := 22) (by decide +kernel) rfl
theorem wd_23 : (Cond.selects "ClassStarterModel" ⟨"ClassStarterModel", "stepOf", "(I)V"⟩ ⟨"ClassStarterModel", "stepOf", "(I)V"⟩) ∈ cs_all := cs_mem (i := 23) (by decide +kernel) rfl
theorem wd_24 : (Cond.selects "ClassStarterModel" ⟨"ClassStarterModel", "leave", "(II)V"⟩ ⟨"ClassStarterModel", "leave", "(II)V"⟩) ∈ cs_all := cs_mem (i := 24) (by decide +kernel) rfl
theorem wd_25 : (Cond.selects "ClassStarterModel" ⟨"ClassStarterModel", "top", "(I)I"⟩ ⟨"ClassStarterModel", "top", "(I)I"⟩) ∈ cs_all := cs_mem (i := 25) (by decide +kernel) rfl
theorem wd_26 : (Cond.selects "ClassStarterModel" ⟨"ClassStarterModel", "come", "(II)V"⟩ ⟨"ClassStarterModel", "come", "(II)V"⟩) ∈ cs_all := cs_mem (i := 26) (by decide +kernel) rfl
theorem wd_27 : (Cond.selects "ClassStarterModel" ⟨"ClassStarterModel", "actionAt", "(II)I"⟩ ⟨"ClassStarterModel", "actionAt", "(II)I"⟩) ∈ cs_all := cs_mem (i := 27) (by decide +kernel) rfl
theorem wd_28 : (Cond.selects "ClassStarterModel" ⟨"ClassStarterModel", "uses", "(I)I"⟩ ⟨"ClassStarterModel", "uses", "(I)I"⟩) ∈ cs_all := cs_mem (i := 28) (by decide +kernel) rfl
theorem wd_29 : (Cond.selects "ClassStarterModel" ⟨"ClassStarterModel", "parts", "(II)I"⟩ ⟨"ClassStarterModel", "parts", "(II)I"⟩) ∈ cs_all := cs_mem (i := 29) (by decide +kernel) rfl
theorem wd_30 : (Cond.selects "ClassStarterModel" ⟨"ClassStarterModel", "note", "(I)V"⟩ ⟨"ClassStarterModel", "note", "(I)V"⟩) ∈ cs_all := cs_mem (i := 30) (by decide +kernel) rfl
theorem wd_31 : (Cond.selects "ClassStarterModel" ⟨"ClassStarterModel", "madeUse", "(I)V"⟩ ⟨"ClassStarterModel", "madeUse", "(I)V"⟩) ∈ cs_all := cs_mem (i := 31) (by decide +kernel) rfl
theorem wd_32 : (Cond.selects "ClassStarterModel" ⟨"ClassStarterModel", "usedNow", "(I)I"⟩ ⟨"ClassStarterModel", "usedNow", "(I)I"⟩) ∈ cs_all := cs_mem (i := 32) (by decide +kernel) rfl
theorem wd_33 : (Cond.selects "ClassStarterModel" ⟨"ClassStarterModel", "useAt", "(II)I"⟩ ⟨"ClassStarterModel", "useAt", "(II)I"⟩) ∈ cs_all := cs_mem (i := 33) (by decide +kernel) rfl
theorem wd_34 : (Cond.selects "ClassStarterModel" ⟨"ClassStarterModel", "useOf", "(II)V"⟩ ⟨"ClassStarterModel", "useOf", "(II)V"⟩) ∈ cs_all := cs_mem (i := 34) (by decide +kernel) rfl
theorem wd_35 : (Cond.selects "ClassStarterModel" ⟨"ClassStarterModel", "enter", "(II)V"⟩ ⟨"ClassStarterModel", "enter", "(II)V"⟩) ∈ cs_all := cs_mem (i := 35) (by decide +kernel) rfl
theorem wd_36 : (Cond.selects "ClassStarterModel" ⟨"ClassStarterModel", "action", "(I)V"⟩ ⟨"ClassStarterModel", "action", "(I)V"⟩) ∈ cs_all := cs_mem (i := 36) (by decide +kernel) rfl
theorem wd_37 : (Cond.selects "ClassStarterModel" ⟨"ClassStarterModel", "waits", "(I)Z"⟩ ⟨"ClassStarterModel", "waits", "(I)Z"⟩) ∈ cs_all := cs_mem (i := 37) (by decide +kernel) rfl
theorem wd_38 : (Cond.selects "ClassStarterModel" ⟨"ClassStarterModel", "resultNow", "(I)I"⟩ ⟨"ClassStarterModel", "resultNow", "(I)I"⟩) ∈ cs_all := cs_mem (i := 38) (by decide +kernel) rfl
theorem wd_39 : (Cond.selects "ClassStarterModel" ⟨"ClassStarterModel", "canStep", "(I)Z"⟩ ⟨"ClassStarterModel", "canStep", "(I)Z"⟩) ∈ cs_all := cs_mem (i := 39) (by decide +kernel) rfl
theorem wd_40 : (Cond.selects "ClassStarterModel" ⟨"ClassStarterModel", "nextThread", "(I)I"⟩ ⟨"ClassStarterModel", "nextThread", "(I)I"⟩) ∈ cs_all := cs_mem (i := 40) (by decide +kernel) rfl
theorem wd_41 : (Cond.selects "ClassStarterModel" ⟨"ClassStarterModel", "noteOrder", "()V"⟩ ⟨"ClassStarterModel", "noteOrder", "()V"⟩) ∈ cs_all := cs_mem (i := 41) (by decide +kernel) rfl
theorem wd_43 : (Cond.initialized "ClassStarter") ∈ cs_all := cs_mem (i := 43) (by decide +kernel) rfl
theorem wd_44 : (Cond.initialized "ClassStarter$Program") ∈ cs_all := cs_mem (i := 44) (by decide +kernel) rfl
theorem wd_45 : (Cond.initialized "ClassStarter$Script") ∈ cs_all := cs_mem (i := 45) (by decide +kernel) rfl
theorem wd_46 : (Cond.initialized "ClassStarter$Machine") ∈ cs_all := cs_mem (i := 46) (by decide +kernel) rfl
theorem wd_47 : (Cond.initialized "java/util/Arrays") ∈ cs_all := cs_mem (i := 47) (by decide +kernel) rfl
theorem wd_48 : (Cond.initialized "ClassStarter$Explorer") ∈ cs_all := cs_mem (i := 48) (by decide +kernel) rfl
theorem wd_49 : (Cond.initialized "ClassStarterModel") ∈ cs_all := cs_mem (i := 49) (by decide +kernel) rfl
theorem wd_50 : (Cond.initialized "java/lang/System") ∈ cs_all := cs_mem (i := 50) (by decide +kernel) rfl
theorem wd_51 : (Cond.initialized "ClassStarter$Fault") ∈ cs_all := cs_mem (i := 51) (by decide +kernel) rfl
theorem wd_74 : (Cond.fieldLink "ClassStarter$Script" 9 "ClassStarter$Script" "mostActions" "I") ∈ cs_all := cs_mem (i := 74) (by decide +kernel) rfl
theorem wd_75 : (Cond.fieldLink "ClassStarter$Script" 15 "ClassStarter$Script" "actions" "[I") ∈ cs_all := cs_mem (i := 75) (by decide +kernel) rfl
theorem wd_76 : (Cond.fieldLink "ClassStarter$Script" 19 "ClassStarter$Script" "firstOperands" "[I") ∈ cs_all := cs_mem (i := 76) (by decide +kernel) rfl
theorem wd_77 : (Cond.fieldLink "ClassStarter$Script" 22 "ClassStarter$Script" "secondOperands" "[I") ∈ cs_all := cs_mem (i := 77) (by decide +kernel) rfl
theorem wd_78 : (Cond.fieldLink "ClassStarter$Script" 28 "ClassStarter$Script" "usesAhead" "I") ∈ cs_all := cs_mem (i := 78) (by decide +kernel) rfl
theorem wd_79 : (Cond.fieldLink "ClassStarter$Script" 25 "ClassStarter$Script" "length" "I") ∈ cs_all := cs_mem (i := 79) (by decide +kernel) rfl
theorem wd_95 : (Cond.fieldLink "ClassStarter$Program" 9 "ClassStarter$Program" "interfaces" "[Z") ∈ cs_all := cs_mem (i := 95) (by decide +kernel) rfl
theorem wd_96 : (Cond.fieldLink "ClassStarter$Program" 15 "ClassStarter$Program" "constants" "[Z") ∈ cs_all := cs_mem (i := 96) (by decide +kernel) rfl
theorem wd_97 : (Cond.fieldLink "ClassStarter$Program" 18 "ClassStarter$Program" "constantValues" "[I") ∈ cs_all := cs_mem (i := 97) (by decide +kernel) rfl
theorem wd_98 : (Cond.fieldLink "ClassStarter$Program" 22 "ClassStarter$Program" "inherited" "[I") ∈ cs_all := cs_mem (i := 98) (by decide +kernel) rfl
theorem wd_99 : (Cond.fieldLink "ClassStarter$Program" 25 "ClassStarter$Program" "inheritedCounts" "[I") ∈ cs_all := cs_mem (i := 99) (by decide +kernel) rfl
theorem wd_100 : (Cond.fieldLink "ClassStarter$Program" 30 "ClassStarter$Program" "scripts" "[LClassStarter$Script;") ∈ cs_all := cs_mem (i := 100) (by decide +kernel) rfl
theorem wd_101 : (Cond.fieldLink "ClassStarter$Program" 37 "ClassStarter$Program" "classCount" "I") ∈ cs_all := cs_mem (i := 101) (by decide +kernel) rfl
theorem wd_124 : (Cond.instanceMethod ⟨"ClassStarter$Machine", "restart", "()V"⟩) ∈ cs_all := cs_mem (i := 124) (by decide +kernel) rfl
theorem wd_125 : (Cond.selects "ClassStarter$Machine" ⟨"ClassStarter$Machine", "restart", "()V"⟩ ⟨"ClassStarter$Machine", "restart", "()V"⟩) ∈ cs_all := cs_mem (i := 125) (by decide +kernel) rfl
set_option maxRecDepth 100000 in
theorem wd_126 : (Cond.code ⟨"ClassStarter$Machine", "restart", "()V"⟩ prog_4_method_2_code 2 (none : Option Jvm.ClassFile.FieldType)) ∈ cs_all := cs_mem (i := 126) rfl rfl
theorem wd_127 : (Cond.methodLink "ClassStarter$Machine" 25 ⟨"java/util/Arrays", "fill", "([II)V"⟩) ∈ cs_all := cs_mem (i := 127) (by decide +kernel) rfl
theorem wd_128 : (Cond.static ⟨"java/util/Arrays", "fill", "([II)V"⟩) ∈ cs_all := cs_mem (i := 128) (by decide +kernel) rfl
set_option maxRecDepth 100000 in
theorem wd_129 : (Cond.code ⟨"java/util/Arrays", "fill", "([II)V"⟩ prog_12_method_103_code 4 (none : Option Jvm.ClassFile.FieldType)) ∈ cs_all := cs_mem (i := 129) rfl rfl
theorem wd_130 : (Cond.fieldLink "ClassStarter$Machine" 18 "ClassStarter$Machine" "program" "LClassStarter$Program;") ∈ cs_all := cs_mem (i := 130) (by decide +kernel) rfl
theorem wd_131 : (Cond.fieldLink "ClassStarter$Machine" 11 "ClassStarter$Machine" "cells" "[I") ∈ cs_all := cs_mem (i := 131) (by decide +kernel) rfl
theorem wd_132 : (Cond.fieldLink "ClassStarter$Machine" 15 "ClassStarter$Machine" "log" "[I") ∈ cs_all := cs_mem (i := 132) (by decide +kernel) rfl
theorem wd_146 : (Cond.fieldLink "ClassStarter$Explorer" 23 "ClassStarter$Explorer" "machine" "LClassStarter$Machine;") ∈ cs_all := cs_mem (i := 146) (by decide +kernel) rfl
theorem wd_147 : (Cond.fieldLink "ClassStarter$Explorer" 11 "ClassStarter$Explorer" "kept" "[I") ∈ cs_all := cs_mem (i := 147) (by decide +kernel) rfl
theorem wd_148 : (Cond.fieldLink "ClassStarter$Explorer" 17 "ClassStarter$Explorer" "untried" "[I") ∈ cs_all := cs_mem (i := 148) (by decide +kernel) rfl
theorem wd_149 : (Cond.fieldLink "ClassStarter$Explorer" 20 "ClassStarter$Explorer" "found" "[I") ∈ cs_all := cs_mem (i := 149) (by decide +kernel) rfl
theorem wd_150 : (Cond.fieldLink "ClassStarter$Explorer" 27 "ClassStarter$Explorer" "foundCount" "I") ∈ cs_all := cs_mem (i := 150) (by decide +kernel) rfl
theorem wd_151 : (Cond.fieldLink "ClassStarter$Explorer" 31 "ClassStarter$Explorer" "orders" "I") ∈ cs_all := cs_mem (i := 151) (by decide +kernel) rfl
theorem wd_152 : (Cond.fieldLink "ClassStarter$Explorer" 34 "ClassStarter$Explorer" "stuckOrders" "I") ∈ cs_all := cs_mem (i := 152) (by decide +kernel) rfl
theorem wd_153 : (Cond.fieldLink "ClassStarter$Explorer" 48 "ClassStarter$Explorer" "depth" "I") ∈ cs_all := cs_mem (i := 153) (by decide +kernel) rfl
theorem wd_154 : (Cond.fieldLink "ClassStarter$Explorer" 37 "ClassStarter$Explorer" "isKnown" "Z") ∈ cs_all := cs_mem (i := 154) (by decide +kernel) rfl
theorem wd_155 : (Cond.fieldLink "ClassStarter$Explorer" 41 "ClassStarter$Explorer" "answer" "I") ∈ cs_all := cs_mem (i := 155) (by decide +kernel) rfl
theorem wd_177 : (Cond.fieldLink "ClassStarter" 12 "ClassStarter" "program" "LClassStarter$Program;") ∈ cs_all := cs_mem (i := 177) (by decide +kernel) rfl
theorem wd_178 : (Cond.fieldLink "ClassStarter" 21 "ClassStarter" "machine" "LClassStarter$Machine;") ∈ cs_all := cs_mem (i := 178) (by decide +kernel) rfl
theorem wd_179 : (Cond.fieldLink "ClassStarter" 30 "ClassStarter" "explorer" "LClassStarter$Explorer;") ∈ cs_all := cs_mem (i := 179) (by decide +kernel) rfl
theorem wd_191 : (Cond.methodLink "ClassStarter" 34 ⟨"ClassStarter$Machine", "hasBegun", "()Z"⟩) ∈ cs_all := cs_mem (i := 191) (by decide +kernel) rfl
theorem wd_192 : (Cond.instanceMethod ⟨"ClassStarter$Machine", "hasBegun", "()Z"⟩) ∈ cs_all := cs_mem (i := 192) (by decide +kernel) rfl
theorem wd_193 : (Cond.selects "ClassStarter$Machine" ⟨"ClassStarter$Machine", "hasBegun", "()Z"⟩ ⟨"ClassStarter$Machine", "hasBegun", "()Z"⟩) ∈ cs_all := cs_mem (i := 193) (by decide +kernel) rfl
set_option maxRecDepth 100000 in
theorem wd_194 : (Cond.code ⟨"ClassStarter$Machine", "hasBegun", "()Z"⟩ prog_4_method_6_code 1 (some .boolean)) ∈ cs_all := cs_mem (i := 194) rfl rfl
theorem wd_195 : (Cond.methodLink "ClassStarter" 38 ⟨"ClassStarter$Program", "addClass", "(IZZI)I"⟩) ∈ cs_all := cs_mem (i := 195) (by decide +kernel) rfl
theorem wd_196 : (Cond.instanceMethod ⟨"ClassStarter$Program", "addClass", "(IZZI)I"⟩) ∈ cs_all := cs_mem (i := 196) (by decide +kernel) rfl
theorem wd_197 : (Cond.selects "ClassStarter$Program" ⟨"ClassStarter$Program", "addClass", "(IZZI)I"⟩ ⟨"ClassStarter$Program", "addClass", "(IZZI)I"⟩) ∈ cs_all := cs_mem (i := 197) (by decide +kernel) rfl
set_option maxRecDepth 100000 in
theorem wd_198 : (Cond.code ⟨"ClassStarter$Program", "addClass", "(IZZI)I"⟩ prog_5_method_6_code 6 (some .int)) ∈ cs_all := cs_mem (i := 198) rfl rfl
theorem wd_199 : (Cond.methodLink "ClassStarter$Program" 41 ⟨"ClassStarter$Program", "isDeclared", "(I)Z"⟩) ∈ cs_all := cs_mem (i := 199) (by decide +kernel) rfl
theorem wd_200 : (Cond.instanceMethod ⟨"ClassStarter$Program", "isDeclared", "(I)Z"⟩) ∈ cs_all := cs_mem (i := 200) (by decide +kernel) rfl
theorem wd_201 : (Cond.selects "ClassStarter$Program" ⟨"ClassStarter$Program", "isDeclared", "(I)Z"⟩ ⟨"ClassStarter$Program", "isDeclared", "(I)Z"⟩) ∈ cs_all := cs_mem (i := 201) (by decide +kernel) rfl
set_option maxRecDepth 100000 in
theorem wd_202 : (Cond.code ⟨"ClassStarter$Program", "isDeclared", "(I)Z"⟩ prog_5_method_3_code 2 (some .boolean)) ∈ cs_all := cs_mem (i := 202) rfl rfl
theorem wd_203 : (Cond.methodLink "ClassStarter$Program" 45 ⟨"ClassStarter$Script", "addUseAhead", "(I)V"⟩) ∈ cs_all := cs_mem (i := 203) (by decide +kernel) rfl
theorem wd_204 : (Cond.instanceMethod ⟨"ClassStarter$Script", "addUseAhead", "(I)V"⟩) ∈ cs_all := cs_mem (i := 204) (by decide +kernel) rfl
theorem wd_205 : (Cond.selects "ClassStarter$Script" ⟨"ClassStarter$Script", "addUseAhead", "(I)V"⟩ ⟨"ClassStarter$Script", "addUseAhead", "(I)V"⟩) ∈ cs_all := cs_mem (i := 205) (by decide +kernel) rfl
set_option maxRecDepth 100000 in
theorem wd_206 : (Cond.code ⟨"ClassStarter$Script", "addUseAhead", "(I)V"⟩ prog_6_method_2_code 3 (none : Option Jvm.ClassFile.FieldType)) ∈ cs_all := cs_mem (i := 206) rfl rfl
theorem wd_207 : (Cond.methodLink "ClassStarter$Script" 31 ⟨"java/lang/System", "arraycopy", "(Ljava/lang/Object;ILjava/lang/Object;II)V"⟩) ∈ cs_all := cs_mem (i := 207) (by decide +kernel) rfl
theorem wd_208 : (Cond.static ⟨"java/lang/System", "arraycopy", "(Ljava/lang/Object;ILjava/lang/Object;II)V"⟩) ∈ cs_all := cs_mem (i := 208) (by decide +kernel) rfl
theorem wd_209 : (Cond.native ⟨"java/lang/System", "arraycopy", "(Ljava/lang/Object;ILjava/lang/Object;II)V"⟩) ∈ cs_all := cs_mem (i := 209) (by decide +kernel) rfl
theorem wd_210 : (Cond.methodLink "ClassStarter$Script" 37 ⟨"ClassStarter$Script", "write", "(IIII)V"⟩) ∈ cs_all := cs_mem (i := 210) (by decide +kernel) rfl
theorem wd_212 : (Cond.instanceMethod ⟨"ClassStarter$Script", "write", "(IIII)V"⟩) ∈ cs_all := cs_mem (i := 212) (by decide +kernel) rfl
set_option maxRecDepth 100000 in
theorem wd_213 : (Cond.code ⟨"ClassStarter$Script", "write", "(IIII)V"⟩ prog_6_method_4_code 5 (none : Option Jvm.ClassFile.FieldType)) ∈ cs_all := cs_mem (i := 213) rfl rfl
theorem wd_214 : (Cond.methodLink "ClassStarter" 42 ⟨"ClassStarter", "changed", "(I)I"⟩) ∈ cs_all := cs_mem (i := 214) (by decide +kernel) rfl
theorem wd_216 : (Cond.instanceMethod ⟨"ClassStarter", "changed", "(I)I"⟩) ∈ cs_all := cs_mem (i := 216) (by decide +kernel) rfl
set_option maxRecDepth 100000 in
theorem wd_217 : (Cond.code ⟨"ClassStarter", "changed", "(I)I"⟩ prog_1_method_17_code 2 (some .int)) ∈ cs_all := cs_mem (i := 217) rfl rfl
theorem wd_218 : (Cond.methodLink "ClassStarter" 130 ⟨"ClassStarter$Explorer", "forget", "()V"⟩) ∈ cs_all := cs_mem (i := 218) (by decide +kernel) rfl
theorem wd_219 : (Cond.instanceMethod ⟨"ClassStarter$Explorer", "forget", "()V"⟩) ∈ cs_all := cs_mem (i := 219) (by decide +kernel) rfl
theorem wd_220 : (Cond.selects "ClassStarter$Explorer" ⟨"ClassStarter$Explorer", "forget", "()V"⟩ ⟨"ClassStarter$Explorer", "forget", "()V"⟩) ∈ cs_all := cs_mem (i := 220) (by decide +kernel) rfl
set_option maxRecDepth 100000 in
theorem wd_221 : (Cond.code ⟨"ClassStarter$Explorer", "forget", "()V"⟩ prog_2_method_6_code 1 (none : Option Jvm.ClassFile.FieldType)) ∈ cs_all := cs_mem (i := 221) rfl rfl
theorem wd_226 : (Cond.methodLink "ClassStarter" 46 ⟨"ClassStarter$Program", "addInterface", "(IIZ)I"⟩) ∈ cs_all := cs_mem (i := 226) (by decide +kernel) rfl
theorem wd_227 : (Cond.instanceMethod ⟨"ClassStarter$Program", "addInterface", "(IIZ)I"⟩) ∈ cs_all := cs_mem (i := 227) (by decide +kernel) rfl
theorem wd_228 : (Cond.selects "ClassStarter$Program" ⟨"ClassStarter$Program", "addInterface", "(IIZ)I"⟩ ⟨"ClassStarter$Program", "addInterface", "(IIZ)I"⟩) ∈ cs_all := cs_mem (i := 228) (by decide +kernel) rfl
set_option maxRecDepth 100000 in
theorem wd_229 : (Cond.code ⟨"ClassStarter$Program", "addInterface", "(IIZ)I"⟩ prog_5_method_7_code 4 (some .int)) ∈ cs_all := cs_mem (i := 229) rfl rfl
theorem wd_230 : (Cond.methodLink "ClassStarter$Program" 49 ⟨"ClassStarter$Program", "inherits", "(II)Z"⟩) ∈ cs_all := cs_mem (i := 230) (by decide +kernel) rfl
theorem wd_232 : (Cond.instanceMethod ⟨"ClassStarter$Program", "inherits", "(II)Z"⟩) ∈ cs_all := cs_mem (i := 232) (by decide +kernel) rfl
set_option maxRecDepth 100000 in
theorem wd_233 : (Cond.code ⟨"ClassStarter$Program", "inherits", "(II)Z"⟩ prog_5_method_8_code 4 (some .boolean)) ∈ cs_all := cs_mem (i := 233) rfl rfl
theorem wd_238 : (Cond.methodLink "ClassStarter" 50 ⟨"ClassStarter$Program", "addAction", "(IIII)I"⟩) ∈ cs_all := cs_mem (i := 238) (by decide +kernel) rfl
theorem wd_239 : (Cond.instanceMethod ⟨"ClassStarter$Program", "addAction", "(IIII)I"⟩) ∈ cs_all := cs_mem (i := 239) (by decide +kernel) rfl
theorem wd_240 : (Cond.selects "ClassStarter$Program" ⟨"ClassStarter$Program", "addAction", "(IIII)I"⟩ ⟨"ClassStarter$Program", "addAction", "(IIII)I"⟩) ∈ cs_all := cs_mem (i := 240) (by decide +kernel) rfl
set_option maxRecDepth 100000 in
theorem wd_241 : (Cond.code ⟨"ClassStarter$Program", "addAction", "(IIII)I"⟩ prog_5_method_9_code 5 (some .int)) ∈ cs_all := cs_mem (i := 241) rfl rfl
theorem wd_242 : (Cond.methodLink "ClassStarter$Program" 53 ⟨"ClassStarter$Program", "isAction", "(III)Z"⟩) ∈ cs_all := cs_mem (i := 242) (by decide +kernel) rfl
theorem wd_243 : (Cond.static ⟨"ClassStarter$Program", "isAction", "(III)Z"⟩) ∈ cs_all := cs_mem (i := 243) (by decide +kernel) rfl
set_option maxRecDepth 100000 in
theorem wd_244 : (Cond.code ⟨"ClassStarter$Program", "isAction", "(III)Z"⟩ prog_5_method_11_code 3 (some .boolean)) ∈ cs_all := cs_mem (i := 244) rfl rfl
theorem wd_245 : (Cond.methodLink "ClassStarter$Program" 64 ⟨"ClassStarter$Program", "isBelow", "(II)Z"⟩) ∈ cs_all := cs_mem (i := 245) (by decide +kernel) rfl
theorem wd_246 : (Cond.static ⟨"ClassStarter$Program", "isBelow", "(II)Z"⟩) ∈ cs_all := cs_mem (i := 246) (by decide +kernel) rfl
set_option maxRecDepth 100000 in
theorem wd_247 : (Cond.code ⟨"ClassStarter$Program", "isBelow", "(II)Z"⟩ prog_5_method_12_code 2 (some .boolean)) ∈ cs_all := cs_mem (i := 247) rfl rfl
theorem wd_248 : (Cond.methodLink "ClassStarter$Program" 57 ⟨"ClassStarter$Script", "addLast", "(III)I"⟩) ∈ cs_all := cs_mem (i := 248) (by decide +kernel) rfl
theorem wd_249 : (Cond.instanceMethod ⟨"ClassStarter$Script", "addLast", "(III)I"⟩) ∈ cs_all := cs_mem (i := 249) (by decide +kernel) rfl
theorem wd_250 : (Cond.selects "ClassStarter$Script" ⟨"ClassStarter$Script", "addLast", "(III)I"⟩ ⟨"ClassStarter$Script", "addLast", "(III)I"⟩) ∈ cs_all := cs_mem (i := 250) (by decide +kernel) rfl
set_option maxRecDepth 100000 in
theorem wd_251 : (Cond.code ⟨"ClassStarter$Script", "addLast", "(III)I"⟩ prog_6_method_3_code 4 (some .int)) ∈ cs_all := cs_mem (i := 251) rfl rfl
theorem wd_256 : (Cond.methodLink "ClassStarter" 54 ⟨"ClassStarter$Program", "addPlanned", "(III)I"⟩) ∈ cs_all := cs_mem (i := 256) (by decide +kernel) rfl
theorem wd_257 : (Cond.instanceMethod ⟨"ClassStarter$Program", "addPlanned", "(III)I"⟩) ∈ cs_all := cs_mem (i := 257) (by decide +kernel) rfl
theorem wd_258 : (Cond.selects "ClassStarter$Program" ⟨"ClassStarter$Program", "addPlanned", "(III)I"⟩ ⟨"ClassStarter$Program", "addPlanned", "(III)I"⟩) ∈ cs_all := cs_mem (i := 258) (by decide +kernel) rfl
set_option maxRecDepth 100000 in
theorem wd_259 : (Cond.code ⟨"ClassStarter$Program", "addPlanned", "(III)I"⟩ prog_5_method_10_code 5 (some .int)) ∈ cs_all := cs_mem (i := 259) rfl rfl
theorem wd_261 : (Cond.static ⟨"ClassStarter", "isThread", "(I)Z"⟩) ∈ cs_all := cs_mem (i := 261) (by decide +kernel) rfl
set_option maxRecDepth 100000 in
theorem wd_262 : (Cond.code ⟨"ClassStarter", "isThread", "(I)Z"⟩ prog_1_method_18_code 1 (some .boolean)) ∈ cs_all := cs_mem (i := 262) rfl rfl
theorem wd_267 : (Cond.methodLink "ClassStarter" 58 ⟨"ClassStarter", "isThread", "(I)Z"⟩) ∈ cs_all := cs_mem (i := 267) (by decide +kernel) rfl
theorem wd_268 : (Cond.methodLink "ClassStarter" 62 ⟨"ClassStarter$Machine", "hasEnded", "(I)Z"⟩) ∈ cs_all := cs_mem (i := 268) (by decide +kernel) rfl
theorem wd_269 : (Cond.instanceMethod ⟨"ClassStarter$Machine", "hasEnded", "(I)Z"⟩) ∈ cs_all := cs_mem (i := 269) (by decide +kernel) rfl
theorem wd_270 : (Cond.selects "ClassStarter$Machine" ⟨"ClassStarter$Machine", "hasEnded", "(I)Z"⟩ ⟨"ClassStarter$Machine", "hasEnded", "(I)Z"⟩) ∈ cs_all := cs_mem (i := 270) (by decide +kernel) rfl
set_option maxRecDepth 100000 in
theorem wd_271 : (Cond.code ⟨"ClassStarter$Machine", "hasEnded", "(I)Z"⟩ prog_4_method_13_code 2 (some .boolean)) ∈ cs_all := cs_mem (i := 271) rfl rfl
theorem wd_272 : (Cond.methodLink "ClassStarter$Machine" 43 ⟨"ClassStarter$Machine", "isInClass", "(I)Z"⟩) ∈ cs_all := cs_mem (i := 272) (by decide +kernel) rfl
theorem wd_273 : (Cond.instanceMethod ⟨"ClassStarter$Machine", "isInClass", "(I)Z"⟩) ∈ cs_all := cs_mem (i := 273) (by decide +kernel) rfl
theorem wd_274 : (Cond.selects "ClassStarter$Machine" ⟨"ClassStarter$Machine", "isInClass", "(I)Z"⟩ ⟨"ClassStarter$Machine", "isInClass", "(I)Z"⟩) ∈ cs_all := cs_mem (i := 274) (by decide +kernel) rfl
set_option maxRecDepth 100000 in
theorem wd_275 : (Cond.code ⟨"ClassStarter$Machine", "isInClass", "(I)Z"⟩ prog_4_method_12_code 2 (some .boolean)) ∈ cs_all := cs_mem (i := 275) rfl rfl
theorem wd_276 : (Cond.methodLink "ClassStarter$Machine" 47 ⟨"ClassStarter$Machine", "topFrame", "(I)I"⟩) ∈ cs_all := cs_mem (i := 276) (by decide +kernel) rfl
theorem wd_277 : (Cond.instanceMethod ⟨"ClassStarter$Machine", "topFrame", "(I)I"⟩) ∈ cs_all := cs_mem (i := 277) (by decide +kernel) rfl
theorem wd_278 : (Cond.selects "ClassStarter$Machine" ⟨"ClassStarter$Machine", "topFrame", "(I)I"⟩ ⟨"ClassStarter$Machine", "topFrame", "(I)I"⟩) ∈ cs_all := cs_mem (i := 278) (by decide +kernel) rfl
set_option maxRecDepth 100000 in
theorem wd_279 : (Cond.code ⟨"ClassStarter$Machine", "topFrame", "(I)I"⟩ prog_4_method_11_code 2 (some .int)) ∈ cs_all := cs_mem (i := 279) rfl rfl
theorem wd_280 : (Cond.methodLink "ClassStarter$Machine" 50 ⟨"ClassStarter$Machine", "isBehindLast", "(I)Z"⟩) ∈ cs_all := cs_mem (i := 280) (by decide +kernel) rfl
theorem wd_282 : (Cond.instanceMethod ⟨"ClassStarter$Machine", "isBehindLast", "(I)Z"⟩) ∈ cs_all := cs_mem (i := 282) (by decide +kernel) rfl
set_option maxRecDepth 100000 in
theorem wd_283 : (Cond.code ⟨"ClassStarter$Machine", "isBehindLast", "(I)Z"⟩ prog_4_method_14_code 2 (some .boolean)) ∈ cs_all := cs_mem (i := 283) rfl rfl
theorem wd_284 : (Cond.methodLink "ClassStarter$Machine" 53 ⟨"ClassStarter$Program", "script", "(I)LClassStarter$Script;"⟩) ∈ cs_all := cs_mem (i := 284) (by decide +kernel) rfl
theorem wd_285 : (Cond.instanceMethod ⟨"ClassStarter$Program", "script", "(I)LClassStarter$Script;"⟩) ∈ cs_all := cs_mem (i := 285) (by decide +kernel) rfl
theorem wd_286 : (Cond.selects "ClassStarter$Program" ⟨"ClassStarter$Program", "script", "(I)LClassStarter$Script;"⟩ ⟨"ClassStarter$Program", "script", "(I)LClassStarter$Script;"⟩) ∈ cs_all := cs_mem (i := 286) (by decide +kernel) rfl
set_option maxRecDepth 100000 in
theorem wd_287 : (Cond.code ⟨"ClassStarter$Program", "script", "(I)LClassStarter$Script;"⟩ prog_5_method_4_code 2 (some (.object "ClassStarter$Script"))) ∈ cs_all := cs_mem (i := 287) rfl rfl
theorem wd_288 : (Cond.methodLink "ClassStarter$Machine" 57 ⟨"ClassStarter$Script", "length", "()I"⟩) ∈ cs_all := cs_mem (i := 288) (by decide +kernel) rfl
theorem wd_289 : (Cond.instanceMethod ⟨"ClassStarter$Script", "length", "()I"⟩) ∈ cs_all := cs_mem (i := 289) (by decide +kernel) rfl
theorem wd_290 : (Cond.selects "ClassStarter$Script" ⟨"ClassStarter$Script", "length", "()I"⟩ ⟨"ClassStarter$Script", "length", "()I"⟩) ∈ cs_all := cs_mem (i := 290) (by decide +kernel) rfl
set_option maxRecDepth 100000 in
theorem wd_291 : (Cond.code ⟨"ClassStarter$Script", "length", "()I"⟩ prog_6_method_5_code 1 (some .int)) ∈ cs_all := cs_mem (i := 291) rfl rfl
theorem wd_292 : (Cond.methodLink "ClassStarter" 65 ⟨"ClassStarter$Machine", "awaited", "(I)I"⟩) ∈ cs_all := cs_mem (i := 292) (by decide +kernel) rfl
theorem wd_293 : (Cond.instanceMethod ⟨"ClassStarter$Machine", "awaited", "(I)I"⟩) ∈ cs_all := cs_mem (i := 293) (by decide +kernel) rfl
theorem wd_294 : (Cond.selects "ClassStarter$Machine" ⟨"ClassStarter$Machine", "awaited", "(I)I"⟩ ⟨"ClassStarter$Machine", "awaited", "(I)I"⟩) ∈ cs_all := cs_mem (i := 294) (by decide +kernel) rfl
set_option maxRecDepth 100000 in
theorem wd_295 : (Cond.code ⟨"ClassStarter$Machine", "awaited", "(I)I"⟩ prog_4_method_15_code 4 (some .int)) ∈ cs_all := cs_mem (i := 295) rfl rfl
theorem wd_296 : (Cond.methodLink "ClassStarter$Machine" 63 ⟨"ClassStarter$Program", "usedBy", "(II)I"⟩) ∈ cs_all := cs_mem (i := 296) (by decide +kernel) rfl
theorem wd_297 : (Cond.instanceMethod ⟨"ClassStarter$Program", "usedBy", "(II)I"⟩) ∈ cs_all := cs_mem (i := 297) (by decide +kernel) rfl
theorem wd_298 : (Cond.selects "ClassStarter$Program" ⟨"ClassStarter$Program", "usedBy", "(II)I"⟩ ⟨"ClassStarter$Program", "usedBy", "(II)I"⟩) ∈ cs_all := cs_mem (i := 298) (by decide +kernel) rfl
set_option maxRecDepth 100000 in
theorem wd_299 : (Cond.code ⟨"ClassStarter$Program", "usedBy", "(II)I"⟩ prog_5_method_13_code 5 (some .int)) ∈ cs_all := cs_mem (i := 299) rfl rfl
theorem wd_300 : (Cond.methodLink "ClassStarter$Program" 67 ⟨"ClassStarter$Script", "actionAt", "(I)I"⟩) ∈ cs_all := cs_mem (i := 300) (by decide +kernel) rfl
theorem wd_301 : (Cond.instanceMethod ⟨"ClassStarter$Script", "actionAt", "(I)I"⟩) ∈ cs_all := cs_mem (i := 301) (by decide +kernel) rfl
theorem wd_302 : (Cond.selects "ClassStarter$Script" ⟨"ClassStarter$Script", "actionAt", "(I)I"⟩ ⟨"ClassStarter$Script", "actionAt", "(I)I"⟩) ∈ cs_all := cs_mem (i := 302) (by decide +kernel) rfl
set_option maxRecDepth 100000 in
theorem wd_303 : (Cond.code ⟨"ClassStarter$Script", "actionAt", "(I)I"⟩ prog_6_method_6_code 2 (some .int)) ∈ cs_all := cs_mem (i := 303) rfl rfl
theorem wd_304 : (Cond.methodLink "ClassStarter$Program" 71 ⟨"ClassStarter$Script", "firstOperandAt", "(I)I"⟩) ∈ cs_all := cs_mem (i := 304) (by decide +kernel) rfl
theorem wd_305 : (Cond.instanceMethod ⟨"ClassStarter$Script", "firstOperandAt", "(I)I"⟩) ∈ cs_all := cs_mem (i := 305) (by decide +kernel) rfl
theorem wd_306 : (Cond.selects "ClassStarter$Script" ⟨"ClassStarter$Script", "firstOperandAt", "(I)I"⟩ ⟨"ClassStarter$Script", "firstOperandAt", "(I)I"⟩) ∈ cs_all := cs_mem (i := 306) (by decide +kernel) rfl
set_option maxRecDepth 100000 in
theorem wd_307 : (Cond.code ⟨"ClassStarter$Script", "firstOperandAt", "(I)I"⟩ prog_6_method_7_code 2 (some .int)) ∈ cs_all := cs_mem (i := 307) rfl rfl
theorem wd_308 : (Cond.methodLink "ClassStarter$Program" 74 ⟨"ClassStarter$Script", "secondOperandAt", "(I)I"⟩) ∈ cs_all := cs_mem (i := 308) (by decide +kernel) rfl
theorem wd_309 : (Cond.instanceMethod ⟨"ClassStarter$Script", "secondOperandAt", "(I)I"⟩) ∈ cs_all := cs_mem (i := 309) (by decide +kernel) rfl
theorem wd_310 : (Cond.selects "ClassStarter$Script" ⟨"ClassStarter$Script", "secondOperandAt", "(I)I"⟩ ⟨"ClassStarter$Script", "secondOperandAt", "(I)I"⟩) ∈ cs_all := cs_mem (i := 310) (by decide +kernel) rfl
set_option maxRecDepth 100000 in
theorem wd_311 : (Cond.code ⟨"ClassStarter$Script", "secondOperandAt", "(I)I"⟩ prog_6_method_8_code 2 (some .int)) ∈ cs_all := cs_mem (i := 311) rfl rfl
theorem wd_312 : (Cond.methodLink "ClassStarter$Machine" 67 ⟨"ClassStarter$Machine", "stateOf", "(I)I"⟩) ∈ cs_all := cs_mem (i := 312) (by decide +kernel) rfl
theorem wd_313 : (Cond.instanceMethod ⟨"ClassStarter$Machine", "stateOf", "(I)I"⟩) ∈ cs_all := cs_mem (i := 313) (by decide +kernel) rfl
theorem wd_314 : (Cond.selects "ClassStarter$Machine" ⟨"ClassStarter$Machine", "stateOf", "(I)I"⟩ ⟨"ClassStarter$Machine", "stateOf", "(I)I"⟩) ∈ cs_all := cs_mem (i := 314) (by decide +kernel) rfl
set_option maxRecDepth 100000 in
theorem wd_315 : (Cond.code ⟨"ClassStarter$Machine", "stateOf", "(I)I"⟩ prog_4_method_7_code 2 (some .int)) ∈ cs_all := cs_mem (i := 315) rfl rfl
theorem wd_316 : (Cond.methodLink "ClassStarter" 68 ⟨"ClassStarter$Machine", "advance", "(I)V"⟩) ∈ cs_all := cs_mem (i := 316) (by decide +kernel) rfl
theorem wd_317 : (Cond.instanceMethod ⟨"ClassStarter$Machine", "advance", "(I)V"⟩) ∈ cs_all := cs_mem (i := 317) (by decide +kernel) rfl
theorem wd_318 : (Cond.selects "ClassStarter$Machine" ⟨"ClassStarter$Machine", "advance", "(I)V"⟩ ⟨"ClassStarter$Machine", "advance", "(I)V"⟩) ∈ cs_all := cs_mem (i := 318) (by decide +kernel) rfl
set_option maxRecDepth 100000 in
theorem wd_319 : (Cond.code ⟨"ClassStarter$Machine", "advance", "(I)V"⟩ prog_4_method_19_code 4 (none : Option Jvm.ClassFile.FieldType)) ∈ cs_all := cs_mem (i := 319) rfl rfl
theorem wd_320 : (Cond.methodLink "ClassStarter$Machine" 82 ⟨"ClassStarter$Machine", "failTop", "(I)V"⟩) ∈ cs_all := cs_mem (i := 320) (by decide +kernel) rfl
theorem wd_322 : (Cond.instanceMethod ⟨"ClassStarter$Machine", "failTop", "(I)V"⟩) ∈ cs_all := cs_mem (i := 322) (by decide +kernel) rfl
set_option maxRecDepth 100000 in
theorem wd_323 : (Cond.code ⟨"ClassStarter$Machine", "failTop", "(I)V"⟩ prog_4_method_20_code 3 (none : Option Jvm.ClassFile.FieldType)) ∈ cs_all := cs_mem (i := 323) rfl rfl
theorem wd_324 : (Cond.methodLink "ClassStarter$Machine" 98 ⟨"ClassStarter$Machine", "dropTop", "(II)V"⟩) ∈ cs_all := cs_mem (i := 324) (by decide +kernel) rfl
theorem wd_326 : (Cond.instanceMethod ⟨"ClassStarter$Machine", "dropTop", "(II)V"⟩) ∈ cs_all := cs_mem (i := 326) (by decide +kernel) rfl
set_option maxRecDepth 100000 in
theorem wd_327 : (Cond.code ⟨"ClassStarter$Machine", "dropTop", "(II)V"⟩ prog_4_method_22_code 4 (none : Option Jvm.ClassFile.FieldType)) ∈ cs_all := cs_mem (i := 327) rfl rfl
theorem wd_328 : (Cond.methodLink "ClassStarter$Machine" 101 ⟨"ClassStarter$Fault", "outside", "(I)I"⟩) ∈ cs_all := cs_mem (i := 328) (by decide +kernel) rfl
theorem wd_329 : (Cond.static ⟨"ClassStarter$Fault", "outside", "(I)I"⟩) ∈ cs_all := cs_mem (i := 329) (by decide +kernel) rfl
set_option maxRecDepth 100000 in
theorem wd_330 : (Cond.code ⟨"ClassStarter$Fault", "outside", "(I)I"⟩ prog_3_method_2_code 1 (some .int)) ∈ cs_all := cs_mem (i := 330) rfl rfl
theorem wd_331 : (Cond.methodLink "ClassStarter$Fault" 9 ⟨"ClassStarter$Fault", "isException", "(I)Z"⟩) ∈ cs_all := cs_mem (i := 331) (by decide +kernel) rfl
theorem wd_332 : (Cond.static ⟨"ClassStarter$Fault", "isException", "(I)Z"⟩) ∈ cs_all := cs_mem (i := 332) (by decide +kernel) rfl
set_option maxRecDepth 100000 in
theorem wd_333 : (Cond.code ⟨"ClassStarter$Fault", "isException", "(I)Z"⟩ prog_3_method_4_code 1 (some .boolean)) ∈ cs_all := cs_mem (i := 333) rfl rfl
theorem wd_334 : (Cond.methodLink "ClassStarter$Machine" 104 ⟨"ClassStarter$Machine", "come", "(II)V"⟩) ∈ cs_all := cs_mem (i := 334) (by decide +kernel) rfl
theorem wd_336 : (Cond.instanceMethod ⟨"ClassStarter$Machine", "come", "(II)V"⟩) ∈ cs_all := cs_mem (i := 336) (by decide +kernel) rfl
set_option maxRecDepth 100000 in
theorem wd_337 : (Cond.code ⟨"ClassStarter$Machine", "come", "(II)V"⟩ prog_4_method_27_code 4 (none : Option Jvm.ClassFile.FieldType)) ∈ cs_all := cs_mem (i := 337) rfl rfl
theorem wd_338 : (Cond.methodLink "ClassStarter$Machine" 131 ⟨"ClassStarter$Script", "isGuarded", "(I)Z"⟩) ∈ cs_all := cs_mem (i := 338) (by decide +kernel) rfl
theorem wd_339 : (Cond.instanceMethod ⟨"ClassStarter$Script", "isGuarded", "(I)Z"⟩) ∈ cs_all := cs_mem (i := 339) (by decide +kernel) rfl
theorem wd_340 : (Cond.selects "ClassStarter$Script" ⟨"ClassStarter$Script", "isGuarded", "(I)Z"⟩ ⟨"ClassStarter$Script", "isGuarded", "(I)Z"⟩) ∈ cs_all := cs_mem (i := 340) (by decide +kernel) rfl
set_option maxRecDepth 100000 in
theorem wd_341 : (Cond.code ⟨"ClassStarter$Script", "isGuarded", "(I)Z"⟩ prog_6_method_9_code 2 (some .boolean)) ∈ cs_all := cs_mem (i := 341) rfl rfl
theorem wd_342 : (Cond.methodLink "ClassStarter$Machine" 134 ⟨"ClassStarter$Fault", "number", "(I)I"⟩) ∈ cs_all := cs_mem (i := 342) (by decide +kernel) rfl
theorem wd_343 : (Cond.static ⟨"ClassStarter$Fault", "number", "(I)I"⟩) ∈ cs_all := cs_mem (i := 343) (by decide +kernel) rfl
set_option maxRecDepth 100000 in
theorem wd_344 : (Cond.code ⟨"ClassStarter$Fault", "number", "(I)I"⟩ prog_3_method_3_code 1 (some .int)) ∈ cs_all := cs_mem (i := 344) rfl rfl
theorem wd_345 : (Cond.methodLink "ClassStarter$Machine" 128 ⟨"ClassStarter$Machine", "write", "(I)V"⟩) ∈ cs_all := cs_mem (i := 345) (by decide +kernel) rfl
theorem wd_347 : (Cond.instanceMethod ⟨"ClassStarter$Machine", "write", "(I)V"⟩) ∈ cs_all := cs_mem (i := 347) (by decide +kernel) rfl
set_option maxRecDepth 100000 in
theorem wd_348 : (Cond.code ⟨"ClassStarter$Machine", "write", "(I)V"⟩ prog_4_method_28_code 2 (none : Option Jvm.ClassFile.FieldType)) ∈ cs_all := cs_mem (i := 348) rfl rfl
theorem wd_349 : (Cond.methodLink "ClassStarter$Machine" 86 ⟨"ClassStarter$Machine", "finishTop", "(I)V"⟩) ∈ cs_all := cs_mem (i := 349) (by decide +kernel) rfl
theorem wd_351 : (Cond.instanceMethod ⟨"ClassStarter$Machine", "finishTop", "(I)V"⟩) ∈ cs_all := cs_mem (i := 351) (by decide +kernel) rfl
set_option maxRecDepth 100000 in
theorem wd_352 : (Cond.code ⟨"ClassStarter$Machine", "finishTop", "(I)V"⟩ prog_4_method_21_code 2 (none : Option Jvm.ClassFile.FieldType)) ∈ cs_all := cs_mem (i := 352) rfl rfl
theorem wd_353 : (Cond.methodLink "ClassStarter$Machine" 107 ⟨"ClassStarter$Machine", "makeUse", "(I)V"⟩) ∈ cs_all := cs_mem (i := 353) (by decide +kernel) rfl
theorem wd_355 : (Cond.instanceMethod ⟨"ClassStarter$Machine", "makeUse", "(I)V"⟩) ∈ cs_all := cs_mem (i := 355) (by decide +kernel) rfl
set_option maxRecDepth 100000 in
theorem wd_356 : (Cond.code ⟨"ClassStarter$Machine", "makeUse", "(I)V"⟩ prog_4_method_25_code 5 (none : Option Jvm.ClassFile.FieldType)) ∈ cs_all := cs_mem (i := 356) rfl rfl
theorem wd_357 : (Cond.methodLink "ClassStarter$Machine" 116 ⟨"ClassStarter$Script", "actionAt", "(I)I"⟩) ∈ cs_all := cs_mem (i := 357) (by decide +kernel) rfl
theorem wd_358 : (Cond.methodLink "ClassStarter$Machine" 119 ⟨"ClassStarter$Script", "secondOperandAt", "(I)I"⟩) ∈ cs_all := cs_mem (i := 358) (by decide +kernel) rfl
theorem wd_359 : (Cond.methodLink "ClassStarter$Machine" 122 ⟨"ClassStarter$Script", "firstOperandAt", "(I)I"⟩) ∈ cs_all := cs_mem (i := 359) (by decide +kernel) rfl
theorem wd_360 : (Cond.methodLink "ClassStarter$Machine" 125 ⟨"ClassStarter$Machine", "staticOf", "(II)I"⟩) ∈ cs_all := cs_mem (i := 360) (by decide +kernel) rfl
theorem wd_361 : (Cond.instanceMethod ⟨"ClassStarter$Machine", "staticOf", "(II)I"⟩) ∈ cs_all := cs_mem (i := 361) (by decide +kernel) rfl
theorem wd_362 : (Cond.selects "ClassStarter$Machine" ⟨"ClassStarter$Machine", "staticOf", "(II)I"⟩ ⟨"ClassStarter$Machine", "staticOf", "(II)I"⟩) ∈ cs_all := cs_mem (i := 362) (by decide +kernel) rfl
set_option maxRecDepth 100000 in
theorem wd_363 : (Cond.code ⟨"ClassStarter$Machine", "staticOf", "(II)I"⟩ prog_4_method_8_code 3 (some .int)) ∈ cs_all := cs_mem (i := 363) rfl rfl
theorem wd_364 : (Cond.methodLink "ClassStarter$Machine" 37 ⟨"ClassStarter$Program", "secondStatic", "(I)I"⟩) ∈ cs_all := cs_mem (i := 364) (by decide +kernel) rfl
theorem wd_365 : (Cond.instanceMethod ⟨"ClassStarter$Program", "secondStatic", "(I)I"⟩) ∈ cs_all := cs_mem (i := 365) (by decide +kernel) rfl
theorem wd_366 : (Cond.selects "ClassStarter$Program" ⟨"ClassStarter$Program", "secondStatic", "(I)I"⟩ ⟨"ClassStarter$Program", "secondStatic", "(I)I"⟩) ∈ cs_all := cs_mem (i := 366) (by decide +kernel) rfl
set_option maxRecDepth 100000 in
theorem wd_367 : (Cond.code ⟨"ClassStarter$Program", "secondStatic", "(I)I"⟩ prog_5_method_5_code 2 (some .int)) ∈ cs_all := cs_mem (i := 367) rfl rfl
theorem wd_368 : (Cond.methodLink "ClassStarter$Machine" 89 ⟨"ClassStarter$Machine", "use", "(II)V"⟩) ∈ cs_all := cs_mem (i := 368) (by decide +kernel) rfl
theorem wd_370 : (Cond.instanceMethod ⟨"ClassStarter$Machine", "use", "(II)V"⟩) ∈ cs_all := cs_mem (i := 370) (by decide +kernel) rfl
set_option maxRecDepth 100000 in
theorem wd_371 : (Cond.code ⟨"ClassStarter$Machine", "use", "(II)V"⟩ prog_4_method_23_code 3 (none : Option Jvm.ClassFile.FieldType)) ∈ cs_all := cs_mem (i := 371) rfl rfl
theorem wd_372 : (Cond.methodLink "ClassStarter$Machine" 110 ⟨"ClassStarter$Program", "isDeclared", "(I)Z"⟩) ∈ cs_all := cs_mem (i := 372) (by decide +kernel) rfl
theorem wd_373 : (Cond.methodLink "ClassStarter$Machine" 113 ⟨"ClassStarter$Machine", "begin", "(II)V"⟩) ∈ cs_all := cs_mem (i := 373) (by decide +kernel) rfl
theorem wd_375 : (Cond.instanceMethod ⟨"ClassStarter$Machine", "begin", "(II)V"⟩) ∈ cs_all := cs_mem (i := 375) (by decide +kernel) rfl
set_option maxRecDepth 100000 in
theorem wd_376 : (Cond.code ⟨"ClassStarter$Machine", "begin", "(II)V"⟩ prog_4_method_24_code 3 (none : Option Jvm.ClassFile.FieldType)) ∈ cs_all := cs_mem (i := 376) rfl rfl
theorem wd_377 : (Cond.methodLink "ClassStarter$Machine" 93 ⟨"ClassStarter$Machine", "perform", "(I)V"⟩) ∈ cs_all := cs_mem (i := 377) (by decide +kernel) rfl
theorem wd_379 : (Cond.instanceMethod ⟨"ClassStarter$Machine", "perform", "(I)V"⟩) ∈ cs_all := cs_mem (i := 379) (by decide +kernel) rfl
set_option maxRecDepth 100000 in
theorem wd_380 : (Cond.code ⟨"ClassStarter$Machine", "perform", "(I)V"⟩ prog_4_method_26_code 5 (none : Option Jvm.ClassFile.FieldType)) ∈ cs_all := cs_mem (i := 380) rfl rfl
theorem wd_385 : (Cond.methodLink "ClassStarter" 72 ⟨"ClassStarter$Machine", "steps", "()I"⟩) ∈ cs_all := cs_mem (i := 385) (by decide +kernel) rfl
theorem wd_386 : (Cond.instanceMethod ⟨"ClassStarter$Machine", "steps", "()I"⟩) ∈ cs_all := cs_mem (i := 386) (by decide +kernel) rfl
theorem wd_387 : (Cond.selects "ClassStarter$Machine" ⟨"ClassStarter$Machine", "steps", "()I"⟩ ⟨"ClassStarter$Machine", "steps", "()I"⟩) ∈ cs_all := cs_mem (i := 387) (by decide +kernel) rfl
set_option maxRecDepth 100000 in
theorem wd_388 : (Cond.code ⟨"ClassStarter$Machine", "steps", "()I"⟩ prog_4_method_5_code 1 (some .int)) ∈ cs_all := cs_mem (i := 388) rfl rfl
theorem wd_389 : (Cond.methodLink "ClassStarter" 76 ⟨"ClassStarter$Machine", "restart", "()V"⟩) ∈ cs_all := cs_mem (i := 389) (by decide +kernel) rfl
theorem wd_394 : (Cond.methodLink "ClassStarter" 79 ⟨"ClassStarter$Program", "isDeclared", "(I)Z"⟩) ∈ cs_all := cs_mem (i := 394) (by decide +kernel) rfl
theorem wd_395 : (Cond.methodLink "ClassStarter" 82 ⟨"ClassStarter$Machine", "stateOf", "(I)I"⟩) ∈ cs_all := cs_mem (i := 395) (by decide +kernel) rfl
theorem wd_400 : (Cond.methodLink "ClassStarter" 85 ⟨"ClassStarter$Machine", "staticOf", "(II)I"⟩) ∈ cs_all := cs_mem (i := 400) (by decide +kernel) rfl
theorem wd_401 : (Cond.constantLong "ClassStarter" 89 1000000000000) ∈ cs_all := cs_mem (i := 401) (by decide +kernel) rfl
theorem wd_406 : (Cond.methodLink "ClassStarter" 91 ⟨"ClassStarter$Machine", "resultOf", "(I)I"⟩) ∈ cs_all := cs_mem (i := 406) (by decide +kernel) rfl
theorem wd_407 : (Cond.instanceMethod ⟨"ClassStarter$Machine", "resultOf", "(I)I"⟩) ∈ cs_all := cs_mem (i := 407) (by decide +kernel) rfl
theorem wd_408 : (Cond.selects "ClassStarter$Machine" ⟨"ClassStarter$Machine", "resultOf", "(I)I"⟩ ⟨"ClassStarter$Machine", "resultOf", "(I)I"⟩) ∈ cs_all := cs_mem (i := 408) (by decide +kernel) rfl
set_option maxRecDepth 100000 in
theorem wd_409 : (Cond.code ⟨"ClassStarter$Machine", "resultOf", "(I)I"⟩ prog_4_method_17_code 2 (some .int)) ∈ cs_all := cs_mem (i := 409) rfl rfl
theorem wd_410 : (Cond.methodLink "ClassStarter$Machine" 70 ⟨"ClassStarter$Machine", "hasEnded", "(I)Z"⟩) ∈ cs_all := cs_mem (i := 410) (by decide +kernel) rfl
theorem wd_411 : (Cond.methodLink "ClassStarter$Machine" 76 ⟨"ClassStarter$Machine", "nextAble", "(I)I"⟩) ∈ cs_all := cs_mem (i := 411) (by decide +kernel) rfl
theorem wd_412 : (Cond.instanceMethod ⟨"ClassStarter$Machine", "nextAble", "(I)I"⟩) ∈ cs_all := cs_mem (i := 412) (by decide +kernel) rfl
theorem wd_413 : (Cond.selects "ClassStarter$Machine" ⟨"ClassStarter$Machine", "nextAble", "(I)I"⟩ ⟨"ClassStarter$Machine", "nextAble", "(I)I"⟩) ∈ cs_all := cs_mem (i := 413) (by decide +kernel) rfl
set_option maxRecDepth 100000 in
theorem wd_414 : (Cond.code ⟨"ClassStarter$Machine", "nextAble", "(I)I"⟩ prog_4_method_16_code 3 (some .int)) ∈ cs_all := cs_mem (i := 414) rfl rfl
theorem wd_415 : (Cond.methodLink "ClassStarter$Machine" 73 ⟨"ClassStarter$Machine", "awaited", "(I)I"⟩) ∈ cs_all := cs_mem (i := 415) (by decide +kernel) rfl
theorem wd_416 : (Cond.methodLink "ClassStarter$Machine" 79 ⟨"ClassStarter$Machine", "lastResultOf", "(I)I"⟩) ∈ cs_all := cs_mem (i := 416) (by decide +kernel) rfl
theorem wd_417 : (Cond.instanceMethod ⟨"ClassStarter$Machine", "lastResultOf", "(I)I"⟩) ∈ cs_all := cs_mem (i := 417) (by decide +kernel) rfl
theorem wd_418 : (Cond.selects "ClassStarter$Machine" ⟨"ClassStarter$Machine", "lastResultOf", "(I)I"⟩ ⟨"ClassStarter$Machine", "lastResultOf", "(I)I"⟩) ∈ cs_all := cs_mem (i := 418) (by decide +kernel) rfl
set_option maxRecDepth 100000 in
theorem wd_419 : (Cond.code ⟨"ClassStarter$Machine", "lastResultOf", "(I)I"⟩ prog_4_method_18_code 2 (some .int)) ∈ cs_all := cs_mem (i := 419) rfl rfl
theorem wd_424 : (Cond.methodLink "ClassStarter" 94 ⟨"ClassStarter$Machine", "isInClass", "(I)Z"⟩) ∈ cs_all := cs_mem (i := 424) (by decide +kernel) rfl
theorem wd_425 : (Cond.methodLink "ClassStarter" 97 ⟨"ClassStarter$Machine", "topFrame", "(I)I"⟩) ∈ cs_all := cs_mem (i := 425) (by decide +kernel) rfl
theorem wd_434 : (Cond.methodLink "ClassStarter" 100 ⟨"ClassStarter$Machine", "logSize", "()I"⟩) ∈ cs_all := cs_mem (i := 434) (by decide +kernel) rfl
theorem wd_435 : (Cond.instanceMethod ⟨"ClassStarter$Machine", "logSize", "()I"⟩) ∈ cs_all := cs_mem (i := 435) (by decide +kernel) rfl
theorem wd_436 : (Cond.selects "ClassStarter$Machine" ⟨"ClassStarter$Machine", "logSize", "()I"⟩ ⟨"ClassStarter$Machine", "logSize", "()I"⟩) ∈ cs_all := cs_mem (i := 436) (by decide +kernel) rfl
set_option maxRecDepth 100000 in
theorem wd_437 : (Cond.code ⟨"ClassStarter$Machine", "logSize", "()I"⟩ prog_4_method_9_code 1 (some .int)) ∈ cs_all := cs_mem (i := 437) rfl rfl
theorem wd_438 : (Cond.methodLink "ClassStarter" 103 ⟨"ClassStarter$Machine", "logEntry", "(I)I"⟩) ∈ cs_all := cs_mem (i := 438) (by decide +kernel) rfl
theorem wd_439 : (Cond.instanceMethod ⟨"ClassStarter$Machine", "logEntry", "(I)I"⟩) ∈ cs_all := cs_mem (i := 439) (by decide +kernel) rfl
theorem wd_440 : (Cond.selects "ClassStarter$Machine" ⟨"ClassStarter$Machine", "logEntry", "(I)I"⟩ ⟨"ClassStarter$Machine", "logEntry", "(I)I"⟩) ∈ cs_all := cs_mem (i := 440) (by decide +kernel) rfl
set_option maxRecDepth 100000 in
theorem wd_441 : (Cond.code ⟨"ClassStarter$Machine", "logEntry", "(I)I"⟩ prog_4_method_10_code 2 (some .int)) ∈ cs_all := cs_mem (i := 441) rfl rfl
theorem wd_446 : (Cond.methodLink "ClassStarter" 106 ⟨"ClassStarter$Explorer", "isKnown", "()Z"⟩) ∈ cs_all := cs_mem (i := 446) (by decide +kernel) rfl
theorem wd_447 : (Cond.instanceMethod ⟨"ClassStarter$Explorer", "isKnown", "()Z"⟩) ∈ cs_all := cs_mem (i := 447) (by decide +kernel) rfl
theorem wd_448 : (Cond.selects "ClassStarter$Explorer" ⟨"ClassStarter$Explorer", "isKnown", "()Z"⟩ ⟨"ClassStarter$Explorer", "isKnown", "()Z"⟩) ∈ cs_all := cs_mem (i := 448) (by decide +kernel) rfl
set_option maxRecDepth 100000 in
theorem wd_449 : (Cond.code ⟨"ClassStarter$Explorer", "isKnown", "()Z"⟩ prog_2_method_7_code 1 (some .boolean)) ∈ cs_all := cs_mem (i := 449) rfl rfl
theorem wd_454 : (Cond.methodLink "ClassStarter$Explorer" 44 ⟨"ClassStarter$Explorer", "begin", "()V"⟩) ∈ cs_all := cs_mem (i := 454) (by decide +kernel) rfl
theorem wd_456 : (Cond.instanceMethod ⟨"ClassStarter$Explorer", "begin", "()V"⟩) ∈ cs_all := cs_mem (i := 456) (by decide +kernel) rfl
set_option maxRecDepth 100000 in
theorem wd_457 : (Cond.code ⟨"ClassStarter$Explorer", "begin", "()V"⟩ prog_2_method_10_code 1 (none : Option Jvm.ClassFile.FieldType)) ∈ cs_all := cs_mem (i := 457) rfl rfl
theorem wd_458 : (Cond.methodLink "ClassStarter$Explorer" 71 ⟨"ClassStarter$Explorer", "dropAll", "()V"⟩) ∈ cs_all := cs_mem (i := 458) (by decide +kernel) rfl
theorem wd_460 : (Cond.instanceMethod ⟨"ClassStarter$Explorer", "dropAll", "()V"⟩) ∈ cs_all := cs_mem (i := 460) (by decide +kernel) rfl
set_option maxRecDepth 100000 in
theorem wd_461 : (Cond.code ⟨"ClassStarter$Explorer", "dropAll", "()V"⟩ prog_2_method_12_code 1 (none : Option Jvm.ClassFile.FieldType)) ∈ cs_all := cs_mem (i := 461) rfl rfl
theorem wd_462 : (Cond.methodLink "ClassStarter$Explorer" 74 ⟨"ClassStarter$Machine", "restart", "()V"⟩) ∈ cs_all := cs_mem (i := 462) (by decide +kernel) rfl
theorem wd_463 : (Cond.constant "ClassStarter$Explorer" 47 1000000) ∈ cs_all := cs_mem (i := 463) (by decide +kernel) rfl
theorem wd_464 : (Cond.methodLink "ClassStarter$Explorer" 51 ⟨"ClassStarter$Machine", "nextAble", "(I)I"⟩) ∈ cs_all := cs_mem (i := 464) (by decide +kernel) rfl
theorem wd_465 : (Cond.methodLink "ClassStarter$Explorer" 55 ⟨"ClassStarter$Explorer", "goDown", "(I)V"⟩) ∈ cs_all := cs_mem (i := 465) (by decide +kernel) rfl
theorem wd_467 : (Cond.instanceMethod ⟨"ClassStarter$Explorer", "goDown", "(I)V"⟩) ∈ cs_all := cs_mem (i := 467) (by decide +kernel) rfl
set_option maxRecDepth 100000 in
theorem wd_468 : (Cond.code ⟨"ClassStarter$Explorer", "goDown", "(I)V"⟩ prog_2_method_13_code 2 (none : Option Jvm.ClassFile.FieldType)) ∈ cs_all := cs_mem (i := 468) rfl rfl
theorem wd_469 : (Cond.methodLink "ClassStarter$Explorer" 77 ⟨"ClassStarter$Machine", "keepIn", "([II)V"⟩) ∈ cs_all := cs_mem (i := 469) (by decide +kernel) rfl
theorem wd_470 : (Cond.instanceMethod ⟨"ClassStarter$Machine", "keepIn", "([II)V"⟩) ∈ cs_all := cs_mem (i := 470) (by decide +kernel) rfl
theorem wd_471 : (Cond.selects "ClassStarter$Machine" ⟨"ClassStarter$Machine", "keepIn", "([II)V"⟩ ⟨"ClassStarter$Machine", "keepIn", "([II)V"⟩) ∈ cs_all := cs_mem (i := 471) (by decide +kernel) rfl
set_option maxRecDepth 100000 in
theorem wd_472 : (Cond.code ⟨"ClassStarter$Machine", "keepIn", "([II)V"⟩ prog_4_method_3_code 3 (none : Option Jvm.ClassFile.FieldType)) ∈ cs_all := cs_mem (i := 472) rfl rfl
theorem wd_473 : (Cond.methodLink "ClassStarter$Machine" 31 ⟨"java/lang/System", "arraycopy", "(Ljava/lang/Object;ILjava/lang/Object;II)V"⟩) ∈ cs_all := cs_mem (i := 473) (by decide +kernel) rfl
theorem wd_474 : (Cond.methodLink "ClassStarter$Explorer" 59 ⟨"ClassStarter$Machine", "advance", "(I)V"⟩) ∈ cs_all := cs_mem (i := 474) (by decide +kernel) rfl
theorem wd_499 : (Cond.methodLink "ClassStarter$Explorer" 65 ⟨"ClassStarter$Explorer", "goUp", "()V"⟩) ∈ cs_all := cs_mem (i := 499) (by decide +kernel) rfl
theorem wd_501 : (Cond.instanceMethod ⟨"ClassStarter$Explorer", "goUp", "()V"⟩) ∈ cs_all := cs_mem (i := 501) (by decide +kernel) rfl
set_option maxRecDepth 100000 in
theorem wd_502 : (Cond.code ⟨"ClassStarter$Explorer", "goUp", "()V"⟩ prog_2_method_14_code 1 (none : Option Jvm.ClassFile.FieldType)) ∈ cs_all := cs_mem (i := 502) rfl rfl
theorem wd_503 : (Cond.methodLink "ClassStarter$Explorer" 81 ⟨"ClassStarter$Machine", "bringBack", "([II)V"⟩) ∈ cs_all := cs_mem (i := 503) (by decide +kernel) rfl
theorem wd_504 : (Cond.instanceMethod ⟨"ClassStarter$Machine", "bringBack", "([II)V"⟩) ∈ cs_all := cs_mem (i := 504) (by decide +kernel) rfl
theorem wd_505 : (Cond.selects "ClassStarter$Machine" ⟨"ClassStarter$Machine", "bringBack", "([II)V"⟩ ⟨"ClassStarter$Machine", "bringBack", "([II)V"⟩) ∈ cs_all := cs_mem (i := 505) (by decide +kernel) rfl
set_option maxRecDepth 100000 in
theorem wd_506 : (Cond.code ⟨"ClassStarter$Machine", "bringBack", "([II)V"⟩ prog_4_method_4_code 3 (none : Option Jvm.ClassFile.FieldType)) ∈ cs_all := cs_mem (i := 506) rfl rfl
theorem wd_507 : (Cond.methodLink "ClassStarter$Explorer" 68 ⟨"ClassStarter$Explorer", "finish", "()V"⟩) ∈ cs_all := cs_mem (i := 507) (by decide +kernel) rfl
theorem wd_509 : (Cond.instanceMethod ⟨"ClassStarter$Explorer", "finish", "()V"⟩) ∈ cs_all := cs_mem (i := 509) (by decide +kernel) rfl
set_option maxRecDepth 100000 in
theorem wd_510 : (Cond.code ⟨"ClassStarter$Explorer", "finish", "()V"⟩ prog_2_method_11_code 1 (none : Option Jvm.ClassFile.FieldType)) ∈ cs_all := cs_mem (i := 510) rfl rfl
theorem wd_511 : (Cond.methodLink "ClassStarter" 112 ⟨"ClassStarter$Explorer", "answer", "()I"⟩) ∈ cs_all := cs_mem (i := 511) (by decide +kernel) rfl
theorem wd_512 : (Cond.instanceMethod ⟨"ClassStarter$Explorer", "answer", "()I"⟩) ∈ cs_all := cs_mem (i := 512) (by decide +kernel) rfl
theorem wd_513 : (Cond.selects "ClassStarter$Explorer" ⟨"ClassStarter$Explorer", "answer", "()I"⟩ ⟨"ClassStarter$Explorer", "answer", "()I"⟩) ∈ cs_all := cs_mem (i := 513) (by decide +kernel) rfl
set_option maxRecDepth 100000 in
theorem wd_514 : (Cond.code ⟨"ClassStarter$Explorer", "answer", "()I"⟩ prog_2_method_8_code 1 (some .int)) ∈ cs_all := cs_mem (i := 514) rfl rfl
theorem wd_519 : (Cond.methodLink "ClassStarter" 115 ⟨"ClassStarter$Explorer", "foundCount", "()I"⟩) ∈ cs_all := cs_mem (i := 519) (by decide +kernel) rfl
theorem wd_520 : (Cond.instanceMethod ⟨"ClassStarter$Explorer", "foundCount", "()I"⟩) ∈ cs_all := cs_mem (i := 520) (by decide +kernel) rfl
theorem wd_521 : (Cond.selects "ClassStarter$Explorer" ⟨"ClassStarter$Explorer", "foundCount", "()I"⟩ ⟨"ClassStarter$Explorer", "foundCount", "()I"⟩) ∈ cs_all := cs_mem (i := 521) (by decide +kernel) rfl
set_option maxRecDepth 100000 in
theorem wd_522 : (Cond.code ⟨"ClassStarter$Explorer", "foundCount", "()I"⟩ prog_2_method_2_code 1 (some .int)) ∈ cs_all := cs_mem (i := 522) rfl rfl
theorem wd_523 : (Cond.methodLink "ClassStarter" 118 ⟨"ClassStarter$Explorer", "foundAt", "(I)I"⟩) ∈ cs_all := cs_mem (i := 523) (by decide +kernel) rfl
theorem wd_524 : (Cond.instanceMethod ⟨"ClassStarter$Explorer", "foundAt", "(I)I"⟩) ∈ cs_all := cs_mem (i := 524) (by decide +kernel) rfl
theorem wd_525 : (Cond.selects "ClassStarter$Explorer" ⟨"ClassStarter$Explorer", "foundAt", "(I)I"⟩ ⟨"ClassStarter$Explorer", "foundAt", "(I)I"⟩) ∈ cs_all := cs_mem (i := 525) (by decide +kernel) rfl
set_option maxRecDepth 100000 in
theorem wd_526 : (Cond.code ⟨"ClassStarter$Explorer", "foundAt", "(I)I"⟩ prog_2_method_3_code 2 (some .int)) ∈ cs_all := cs_mem (i := 526) rfl rfl
theorem wd_531 : (Cond.methodLink "ClassStarter" 121 ⟨"ClassStarter$Program", "classCount", "()I"⟩) ∈ cs_all := cs_mem (i := 531) (by decide +kernel) rfl
theorem wd_532 : (Cond.instanceMethod ⟨"ClassStarter$Program", "classCount", "()I"⟩) ∈ cs_all := cs_mem (i := 532) (by decide +kernel) rfl
theorem wd_533 : (Cond.selects "ClassStarter$Program" ⟨"ClassStarter$Program", "classCount", "()I"⟩ ⟨"ClassStarter$Program", "classCount", "()I"⟩) ∈ cs_all := cs_mem (i := 533) (by decide +kernel) rfl
set_option maxRecDepth 100000 in
theorem wd_534 : (Cond.code ⟨"ClassStarter$Program", "classCount", "()I"⟩ prog_5_method_2_code 1 (some .int)) ∈ cs_all := cs_mem (i := 534) rfl rfl
theorem wd_535 : (Cond.methodLink "ClassStarter" 124 ⟨"ClassStarter$Explorer", "orders", "()I"⟩) ∈ cs_all := cs_mem (i := 535) (by decide +kernel) rfl
theorem wd_536 : (Cond.instanceMethod ⟨"ClassStarter$Explorer", "orders", "()I"⟩) ∈ cs_all := cs_mem (i := 536) (by decide +kernel) rfl
theorem wd_537 : (Cond.selects "ClassStarter$Explorer" ⟨"ClassStarter$Explorer", "orders", "()I"⟩ ⟨"ClassStarter$Explorer", "orders", "()I"⟩) ∈ cs_all := cs_mem (i := 537) (by decide +kernel) rfl
set_option maxRecDepth 100000 in
theorem wd_538 : (Cond.code ⟨"ClassStarter$Explorer", "orders", "()I"⟩ prog_2_method_4_code 1 (some .int)) ∈ cs_all := cs_mem (i := 538) rfl rfl
theorem wd_539 : (Cond.methodLink "ClassStarter" 127 ⟨"ClassStarter$Explorer", "stuckOrders", "()I"⟩) ∈ cs_all := cs_mem (i := 539) (by decide +kernel) rfl
theorem wd_540 : (Cond.instanceMethod ⟨"ClassStarter$Explorer", "stuckOrders", "()I"⟩) ∈ cs_all := cs_mem (i := 540) (by decide +kernel) rfl
theorem wd_541 : (Cond.selects "ClassStarter$Explorer" ⟨"ClassStarter$Explorer", "stuckOrders", "()I"⟩ ⟨"ClassStarter$Explorer", "stuckOrders", "()I"⟩) ∈ cs_all := cs_mem (i := 541) (by decide +kernel) rfl
set_option maxRecDepth 100000 in
theorem wd_542 : (Cond.code ⟨"ClassStarter$Explorer", "stuckOrders", "()I"⟩ prog_2_method_5_code 1 (some .int)) ∈ cs_all := cs_mem (i := 542) rfl rfl
theorem wd_549 : (Cond.fieldLink "ClassStarterModel" 87 "ClassStarterModel" "classes" "I") ∈ cs_all := cs_mem (i := 549) (by decide +kernel) rfl
theorem wd_550 : (Cond.fieldLink "ClassStarterModel" 7 "ClassStarterModel" "parent" "[I") ∈ cs_all := cs_mem (i := 550) (by decide +kernel) rfl
theorem wd_551 : (Cond.fieldLink "ClassStarterModel" 13 "ClassStarterModel" "constants" "[I") ∈ cs_all := cs_mem (i := 551) (by decide +kernel) rfl
theorem wd_552 : (Cond.fieldLink "ClassStarterModel" 16 "ClassStarterModel" "interfaces" "[I") ∈ cs_all := cs_mem (i := 552) (by decide +kernel) rfl
theorem wd_554 : (Cond.fieldLink "ClassStarterModel" 22 "ClassStarterModel" "actionCount" "[I") ∈ cs_all := cs_mem (i := 554) (by decide +kernel) rfl
theorem wd_555 : (Cond.fieldLink "ClassStarterModel" 25 "ClassStarterModel" "isInterface" "[Z") ∈ cs_all := cs_mem (i := 555) (by decide +kernel) rfl
theorem wd_556 : (Cond.fieldLink "ClassStarterModel" 29 "ClassStarterModel" "constant" "[Z") ∈ cs_all := cs_mem (i := 556) (by decide +kernel) rfl
theorem wd_557 : (Cond.fieldLink "ClassStarterModel" 32 "ClassStarterModel" "iface" "[I") ∈ cs_all := cs_mem (i := 557) (by decide +kernel) rfl
theorem wd_558 : (Cond.fieldLink "ClassStarterModel" 35 "ClassStarterModel" "defaulted" "[Z") ∈ cs_all := cs_mem (i := 558) (by decide +kernel) rfl
theorem wd_559 : (Cond.fieldLink "ClassStarterModel" 38 "ClassStarterModel" "act" "[I") ∈ cs_all := cs_mem (i := 559) (by decide +kernel) rfl
theorem wd_560 : (Cond.fieldLink "ClassStarterModel" 41 "ClassStarterModel" "actA" "[I") ∈ cs_all := cs_mem (i := 560) (by decide +kernel) rfl
theorem wd_561 : (Cond.fieldLink "ClassStarterModel" 44 "ClassStarterModel" "actB" "[I") ∈ cs_all := cs_mem (i := 561) (by decide +kernel) rfl
theorem wd_562 : (Cond.fieldLink "ClassStarterModel" 47 "ClassStarterModel" "planCount" "[I") ∈ cs_all := cs_mem (i := 562) (by decide +kernel) rfl
theorem wd_563 : (Cond.fieldLink "ClassStarterModel" 50 "ClassStarterModel" "made" "[I") ∈ cs_all := cs_mem (i := 563) (by decide +kernel) rfl
theorem wd_564 : (Cond.fieldLink "ClassStarterModel" 164 "ClassStarterModel" "steps" "I") ∈ cs_all := cs_mem (i := 564) (by decide +kernel) rfl
theorem wd_565 : (Cond.fieldLink "ClassStarterModel" 83 "ClassStarterModel" "begun" "Z") ∈ cs_all := cs_mem (i := 565) (by decide +kernel) rfl
theorem wd_566 : (Cond.fieldLink "ClassStarterModel" 53 "ClassStarterModel" "tried" "[I") ∈ cs_all := cs_mem (i := 566) (by decide +kernel) rfl
theorem wd_567 : (Cond.fieldLink "ClassStarterModel" 56 "ClassStarterModel" "state" "[I") ∈ cs_all := cs_mem (i := 567) (by decide +kernel) rfl
theorem wd_568 : (Cond.fieldLink "ClassStarterModel" 59 "ClassStarterModel" "statics" "[I") ∈ cs_all := cs_mem (i := 568) (by decide +kernel) rfl
theorem wd_569 : (Cond.fieldLink "ClassStarterModel" 62 "ClassStarterModel" "frame" "[I") ∈ cs_all := cs_mem (i := 569) (by decide +kernel) rfl
theorem wd_570 : (Cond.fieldLink "ClassStarterModel" 65 "ClassStarterModel" "part" "[I") ∈ cs_all := cs_mem (i := 570) (by decide +kernel) rfl
theorem wd_571 : (Cond.fieldLink "ClassStarterModel" 68 "ClassStarterModel" "frames" "[I") ∈ cs_all := cs_mem (i := 571) (by decide +kernel) rfl
theorem wd_572 : (Cond.fieldLink "ClassStarterModel" 71 "ClassStarterModel" "pending" "[I") ∈ cs_all := cs_mem (i := 572) (by decide +kernel) rfl
theorem wd_573 : (Cond.fieldLink "ClassStarterModel" 74 "ClassStarterModel" "ended" "[I") ∈ cs_all := cs_mem (i := 573) (by decide +kernel) rfl
theorem wd_574 : (Cond.fieldLink "ClassStarterModel" 77 "ClassStarterModel" "log" "[I") ∈ cs_all := cs_mem (i := 574) (by decide +kernel) rfl
theorem wd_575 : (Cond.fieldLink "ClassStarterModel" 102 "ClassStarterModel" "logs" "I") ∈ cs_all := cs_mem (i := 575) (by decide +kernel) rfl
theorem wd_576 : (Cond.fieldLink "ClassStarterModel" 80 "ClassStarterModel" "outcomes" "[I") ∈ cs_all := cs_mem (i := 576) (by decide +kernel) rfl
theorem wd_577 : (Cond.fieldLink "ClassStarterModel" 187 "ClassStarterModel" "found" "I") ∈ cs_all := cs_mem (i := 577) (by decide +kernel) rfl
theorem wd_578 : (Cond.fieldLink "ClassStarterModel" 181 "ClassStarterModel" "orders" "I") ∈ cs_all := cs_mem (i := 578) (by decide +kernel) rfl
theorem wd_579 : (Cond.fieldLink "ClassStarterModel" 184 "ClassStarterModel" "stuckOrders" "I") ∈ cs_all := cs_mem (i := 579) (by decide +kernel) rfl
theorem wd_580 : (Cond.fieldLink "ClassStarterModel" 91 "ClassStarterModel" "explored" "Z") ∈ cs_all := cs_mem (i := 580) (by decide +kernel) rfl
theorem wd_654 : (Cond.methodLink "ClassStarterModel" 94 ⟨"ClassStarterModel", "out", "(II)Z"⟩) ∈ cs_all := cs_mem (i := 654) (by decide +kernel) rfl
theorem wd_655 : (Cond.static ⟨"ClassStarterModel", "out", "(II)Z"⟩) ∈ cs_all := cs_mem (i := 655) (by decide +kernel) rfl
set_option maxRecDepth 100000 in
theorem wd_656 : (Cond.code ⟨"ClassStarterModel", "out", "(II)Z"⟩ prog_8_method_2_code 2 (some .boolean)) ∈ cs_all := cs_mem (i := 656) rfl rfl
theorem wd_661 : (Cond.methodLink "ClassStarterModel" 98 ⟨"ClassStarterModel", "badOperands", "(III)Z"⟩) ∈ cs_all := cs_mem (i := 661) (by decide +kernel) rfl
theorem wd_662 : (Cond.static ⟨"ClassStarterModel", "badOperands", "(III)Z"⟩) ∈ cs_all := cs_mem (i := 662) (by decide +kernel) rfl
set_option maxRecDepth 100000 in
theorem wd_663 : (Cond.code ⟨"ClassStarterModel", "badOperands", "(III)Z"⟩ prog_8_method_5_code 3 (some .boolean)) ∈ cs_all := cs_mem (i := 663) rfl rfl
theorem wd_672 : (Cond.methodLink "ClassStarterModel" 173 ⟨"ClassStarterModel", "work", "()V"⟩) ∈ cs_all := cs_mem (i := 672) (by decide +kernel) rfl
theorem wd_674 : (Cond.instanceMethod ⟨"ClassStarterModel", "work", "()V"⟩) ∈ cs_all := cs_mem (i := 674) (by decide +kernel) rfl
set_option maxRecDepth 100000 in
theorem wd_675 : (Cond.code ⟨"ClassStarterModel", "work", "()V"⟩ prog_8_method_28_code 2 (none : Option Jvm.ClassFile.FieldType)) ∈ cs_all := cs_mem (i := 675) rfl rfl
theorem wd_676 : (Cond.methodLink "ClassStarterModel" 161 ⟨"ClassStarterModel", "start", "()V"⟩) ∈ cs_all := cs_mem (i := 676) (by decide +kernel) rfl
theorem wd_678 : (Cond.instanceMethod ⟨"ClassStarterModel", "start", "()V"⟩) ∈ cs_all := cs_mem (i := 678) (by decide +kernel) rfl
set_option maxRecDepth 100000 in
theorem wd_679 : (Cond.code ⟨"ClassStarterModel", "start", "()V"⟩ prog_8_method_8_code 2 (none : Option Jvm.ClassFile.FieldType)) ∈ cs_all := cs_mem (i := 679) rfl rfl
theorem wd_680 : (Cond.methodLink "ClassStarterModel" 105 ⟨"ClassStarterModel", "finish", "(I)V"⟩) ∈ cs_all := cs_mem (i := 680) (by decide +kernel) rfl
theorem wd_682 : (Cond.instanceMethod ⟨"ClassStarterModel", "finish", "(I)V"⟩) ∈ cs_all := cs_mem (i := 682) (by decide +kernel) rfl
set_option maxRecDepth 100000 in
theorem wd_683 : (Cond.code ⟨"ClassStarterModel", "finish", "(I)V"⟩ prog_8_method_18_code 2 (none : Option Jvm.ClassFile.FieldType)) ∈ cs_all := cs_mem (i := 683) rfl rfl
theorem wd_684 : (Cond.methodLink "ClassStarterModel" 167 ⟨"ClassStarterModel", "stepOf", "(I)V"⟩) ∈ cs_all := cs_mem (i := 684) (by decide +kernel) rfl
theorem wd_686 : (Cond.instanceMethod ⟨"ClassStarterModel", "stepOf", "(I)V"⟩) ∈ cs_all := cs_mem (i := 686) (by decide +kernel) rfl
set_option maxRecDepth 100000 in
theorem wd_687 : (Cond.code ⟨"ClassStarterModel", "stepOf", "(I)V"⟩ prog_8_method_27_code 4 (none : Option Jvm.ClassFile.FieldType)) ∈ cs_all := cs_mem (i := 687) rfl rfl
theorem wd_688 : (Cond.methodLink "ClassStarterModel" 152 ⟨"ClassStarterModel", "leave", "(II)V"⟩) ∈ cs_all := cs_mem (i := 688) (by decide +kernel) rfl
theorem wd_690 : (Cond.instanceMethod ⟨"ClassStarterModel", "leave", "(II)V"⟩) ∈ cs_all := cs_mem (i := 690) (by decide +kernel) rfl
set_option maxRecDepth 100000 in
theorem wd_691 : (Cond.code ⟨"ClassStarterModel", "leave", "(II)V"⟩ prog_8_method_23_code 3 (none : Option Jvm.ClassFile.FieldType)) ∈ cs_all := cs_mem (i := 691) rfl rfl
theorem wd_692 : (Cond.methodLink "ClassStarterModel" 113 ⟨"ClassStarterModel", "top", "(I)I"⟩) ∈ cs_all := cs_mem (i := 692) (by decide +kernel) rfl
theorem wd_694 : (Cond.instanceMethod ⟨"ClassStarterModel", "top", "(I)I"⟩) ∈ cs_all := cs_mem (i := 694) (by decide +kernel) rfl
set_option maxRecDepth 100000 in
theorem wd_695 : (Cond.code ⟨"ClassStarterModel", "top", "(I)I"⟩ prog_8_method_9_code 2 (some .int)) ∈ cs_all := cs_mem (i := 695) rfl rfl
theorem wd_696 : (Cond.methodLink "ClassStarterModel" 142 ⟨"ClassStarterModel", "come", "(II)V"⟩) ∈ cs_all := cs_mem (i := 696) (by decide +kernel) rfl
theorem wd_698 : (Cond.instanceMethod ⟨"ClassStarterModel", "come", "(II)V"⟩) ∈ cs_all := cs_mem (i := 698) (by decide +kernel) rfl
set_option maxRecDepth 100000 in
theorem wd_699 : (Cond.code ⟨"ClassStarterModel", "come", "(II)V"⟩ prog_8_method_21_code 6 (none : Option Jvm.ClassFile.FieldType)) ∈ cs_all := cs_mem (i := 699) rfl rfl
theorem wd_700 : (Cond.methodLink "ClassStarterModel" 120 ⟨"ClassStarterModel", "actionAt", "(II)I"⟩) ∈ cs_all := cs_mem (i := 700) (by decide +kernel) rfl
theorem wd_702 : (Cond.instanceMethod ⟨"ClassStarterModel", "actionAt", "(II)I"⟩) ∈ cs_all := cs_mem (i := 702) (by decide +kernel) rfl
set_option maxRecDepth 100000 in
theorem wd_703 : (Cond.code ⟨"ClassStarterModel", "actionAt", "(II)I"⟩ prog_8_method_13_code 5 (some .int)) ∈ cs_all := cs_mem (i := 703) rfl rfl
theorem wd_704 : (Cond.methodLink "ClassStarterModel" 109 ⟨"ClassStarterModel", "uses", "(I)I"⟩) ∈ cs_all := cs_mem (i := 704) (by decide +kernel) rfl
theorem wd_706 : (Cond.instanceMethod ⟨"ClassStarterModel", "uses", "(I)I"⟩) ∈ cs_all := cs_mem (i := 706) (by decide +kernel) rfl
set_option maxRecDepth 100000 in
theorem wd_707 : (Cond.code ⟨"ClassStarterModel", "uses", "(I)I"⟩ prog_8_method_10_code 4 (some .int)) ∈ cs_all := cs_mem (i := 707) rfl rfl
theorem wd_708 : (Cond.methodLink "ClassStarterModel" 116 ⟨"ClassStarterModel", "parts", "(II)I"⟩) ∈ cs_all := cs_mem (i := 708) (by decide +kernel) rfl
theorem wd_710 : (Cond.instanceMethod ⟨"ClassStarterModel", "parts", "(II)I"⟩) ∈ cs_all := cs_mem (i := 710) (by decide +kernel) rfl
set_option maxRecDepth 100000 in
theorem wd_711 : (Cond.code ⟨"ClassStarterModel", "parts", "(II)I"⟩ prog_8_method_11_code 3 (some .int)) ∈ cs_all := cs_mem (i := 711) rfl rfl
theorem wd_712 : (Cond.methodLink "ClassStarterModel" 133 ⟨"ClassStarterModel", "loggedAs", "(I)I"⟩) ∈ cs_all := cs_mem (i := 712) (by decide +kernel) rfl
theorem wd_713 : (Cond.static ⟨"ClassStarterModel", "loggedAs", "(I)I"⟩) ∈ cs_all := cs_mem (i := 713) (by decide +kernel) rfl
set_option maxRecDepth 100000 in
theorem wd_714 : (Cond.code ⟨"ClassStarterModel", "loggedAs", "(I)I"⟩ prog_8_method_20_code 1 (some .int)) ∈ cs_all := cs_mem (i := 714) rfl rfl
theorem wd_715 : (Cond.methodLink "ClassStarterModel" 136 ⟨"ClassStarterModel", "note", "(I)V"⟩) ∈ cs_all := cs_mem (i := 715) (by decide +kernel) rfl
theorem wd_717 : (Cond.instanceMethod ⟨"ClassStarterModel", "note", "(I)V"⟩) ∈ cs_all := cs_mem (i := 717) (by decide +kernel) rfl
set_option maxRecDepth 100000 in
theorem wd_718 : (Cond.code ⟨"ClassStarterModel", "note", "(I)V"⟩ prog_8_method_17_code 2 (none : Option Jvm.ClassFile.FieldType)) ∈ cs_all := cs_mem (i := 718) rfl rfl
theorem wd_719 : (Cond.methodLink "ClassStarterModel" 139 ⟨"ClassStarterModel", "resultOf", "(I)I"⟩) ∈ cs_all := cs_mem (i := 719) (by decide +kernel) rfl
theorem wd_720 : (Cond.static ⟨"ClassStarterModel", "resultOf", "(I)I"⟩) ∈ cs_all := cs_mem (i := 720) (by decide +kernel) rfl
set_option maxRecDepth 100000 in
theorem wd_721 : (Cond.code ⟨"ClassStarterModel", "resultOf", "(I)I"⟩ prog_8_method_19_code 1 (some .int)) ∈ cs_all := cs_mem (i := 721) rfl rfl
theorem wd_722 : (Cond.methodLink "ClassStarterModel" 146 ⟨"ClassStarterModel", "madeUse", "(I)V"⟩) ∈ cs_all := cs_mem (i := 722) (by decide +kernel) rfl
theorem wd_724 : (Cond.instanceMethod ⟨"ClassStarterModel", "madeUse", "(I)V"⟩) ∈ cs_all := cs_mem (i := 724) (by decide +kernel) rfl
set_option maxRecDepth 100000 in
theorem wd_725 : (Cond.code ⟨"ClassStarterModel", "madeUse", "(I)V"⟩ prog_8_method_22_code 4 (none : Option Jvm.ClassFile.FieldType)) ∈ cs_all := cs_mem (i := 725) rfl rfl
theorem wd_726 : (Cond.methodLink "ClassStarterModel" 126 ⟨"ClassStarterModel", "usedNow", "(I)I"⟩) ∈ cs_all := cs_mem (i := 726) (by decide +kernel) rfl
theorem wd_728 : (Cond.instanceMethod ⟨"ClassStarterModel", "usedNow", "(I)I"⟩) ∈ cs_all := cs_mem (i := 728) (by decide +kernel) rfl
set_option maxRecDepth 100000 in
theorem wd_729 : (Cond.code ⟨"ClassStarterModel", "usedNow", "(I)I"⟩ prog_8_method_14_code 6 (some .int)) ∈ cs_all := cs_mem (i := 729) rfl rfl
theorem wd_730 : (Cond.methodLink "ClassStarterModel" 123 ⟨"ClassStarterModel", "useAt", "(II)I"⟩) ∈ cs_all := cs_mem (i := 730) (by decide +kernel) rfl
theorem wd_732 : (Cond.instanceMethod ⟨"ClassStarterModel", "useAt", "(II)I"⟩) ∈ cs_all := cs_mem (i := 732) (by decide +kernel) rfl
set_option maxRecDepth 100000 in
theorem wd_733 : (Cond.code ⟨"ClassStarterModel", "useAt", "(II)I"⟩ prog_8_method_12_code 5 (some .int)) ∈ cs_all := cs_mem (i := 733) rfl rfl
theorem wd_734 : (Cond.methodLink "ClassStarterModel" 155 ⟨"ClassStarterModel", "useOf", "(II)V"⟩) ∈ cs_all := cs_mem (i := 734) (by decide +kernel) rfl
theorem wd_736 : (Cond.instanceMethod ⟨"ClassStarterModel", "useOf", "(II)V"⟩) ∈ cs_all := cs_mem (i := 736) (by decide +kernel) rfl
set_option maxRecDepth 100000 in
theorem wd_737 : (Cond.code ⟨"ClassStarterModel", "useOf", "(II)V"⟩ prog_8_method_24_code 3 (none : Option Jvm.ClassFile.FieldType)) ∈ cs_all := cs_mem (i := 737) rfl rfl
theorem wd_738 : (Cond.methodLink "ClassStarterModel" 149 ⟨"ClassStarterModel", "enter", "(II)V"⟩) ∈ cs_all := cs_mem (i := 738) (by decide +kernel) rfl
theorem wd_740 : (Cond.instanceMethod ⟨"ClassStarterModel", "enter", "(II)V"⟩) ∈ cs_all := cs_mem (i := 740) (by decide +kernel) rfl
set_option maxRecDepth 100000 in
theorem wd_741 : (Cond.code ⟨"ClassStarterModel", "enter", "(II)V"⟩ prog_8_method_25_code 3 (none : Option Jvm.ClassFile.FieldType)) ∈ cs_all := cs_mem (i := 741) rfl rfl
theorem wd_742 : (Cond.methodLink "ClassStarterModel" 158 ⟨"ClassStarterModel", "action", "(I)V"⟩) ∈ cs_all := cs_mem (i := 742) (by decide +kernel) rfl
theorem wd_744 : (Cond.instanceMethod ⟨"ClassStarterModel", "action", "(I)V"⟩) ∈ cs_all := cs_mem (i := 744) (by decide +kernel) rfl
set_option maxRecDepth 100000 in
theorem wd_745 : (Cond.code ⟨"ClassStarterModel", "action", "(I)V"⟩ prog_8_method_26_code 4 (none : Option Jvm.ClassFile.FieldType)) ∈ cs_all := cs_mem (i := 745) rfl rfl
theorem wd_746 : (Cond.methodLink "ClassStarterModel" 129 ⟨"ClassStarterModel", "waits", "(I)Z"⟩) ∈ cs_all := cs_mem (i := 746) (by decide +kernel) rfl
theorem wd_748 : (Cond.instanceMethod ⟨"ClassStarterModel", "waits", "(I)Z"⟩) ∈ cs_all := cs_mem (i := 748) (by decide +kernel) rfl
set_option maxRecDepth 100000 in
theorem wd_749 : (Cond.code ⟨"ClassStarterModel", "waits", "(I)Z"⟩ prog_8_method_15_code 3 (some .boolean)) ∈ cs_all := cs_mem (i := 749) rfl rfl
theorem wd_762 : (Cond.constantLong "ClassStarterModel" 176 1000000000000) ∈ cs_all := cs_mem (i := 762) (by decide +kernel) rfl
theorem wd_767 : (Cond.methodLink "ClassStarterModel" 178 ⟨"ClassStarterModel", "resultNow", "(I)I"⟩) ∈ cs_all := cs_mem (i := 767) (by decide +kernel) rfl
theorem wd_769 : (Cond.instanceMethod ⟨"ClassStarterModel", "resultNow", "(I)I"⟩) ∈ cs_all := cs_mem (i := 769) (by decide +kernel) rfl
set_option maxRecDepth 100000 in
theorem wd_770 : (Cond.code ⟨"ClassStarterModel", "resultNow", "(I)I"⟩ prog_8_method_29_code 3 (some .int)) ∈ cs_all := cs_mem (i := 770) rfl rfl
theorem wd_771 : (Cond.methodLink "ClassStarterModel" 170 ⟨"ClassStarterModel", "canStep", "(I)Z"⟩) ∈ cs_all := cs_mem (i := 771) (by decide +kernel) rfl
theorem wd_773 : (Cond.instanceMethod ⟨"ClassStarterModel", "canStep", "(I)Z"⟩) ∈ cs_all := cs_mem (i := 773) (by decide +kernel) rfl
set_option maxRecDepth 100000 in
theorem wd_774 : (Cond.code ⟨"ClassStarterModel", "canStep", "(I)Z"⟩ prog_8_method_16_code 2 (some .boolean)) ∈ cs_all := cs_mem (i := 774) rfl rfl
theorem wd_791 : (Cond.methodLink "ClassStarterModel" 190 ⟨"ClassStarterModel", "nextThread", "(I)I"⟩) ∈ cs_all := cs_mem (i := 791) (by decide +kernel) rfl
theorem wd_793 : (Cond.instanceMethod ⟨"ClassStarterModel", "nextThread", "(I)I"⟩) ∈ cs_all := cs_mem (i := 793) (by decide +kernel) rfl
set_option maxRecDepth 100000 in
theorem wd_794 : (Cond.code ⟨"ClassStarterModel", "nextThread", "(I)I"⟩ prog_8_method_39_code 3 (some .int)) ∈ cs_all := cs_mem (i := 794) rfl rfl
theorem wd_795 : (Cond.methodLink "ClassStarterModel" 193 ⟨"ClassStarterModel", "noteOrder", "()V"⟩) ∈ cs_all := cs_mem (i := 795) (by decide +kernel) rfl
theorem wd_797 : (Cond.instanceMethod ⟨"ClassStarterModel", "noteOrder", "()V"⟩) ∈ cs_all := cs_mem (i := 797) (by decide +kernel) rfl
set_option maxRecDepth 100000 in
theorem wd_798 : (Cond.code ⟨"ClassStarterModel", "noteOrder", "()V"⟩ prog_8_method_38_code 5 (none : Option Jvm.ClassFile.FieldType)) ∈ cs_all := cs_mem (i := 798) rfl rfl
theorem cs_acN : Cond.native arraycopyName ∈ cs_all := wd_209
theorem cs_acS : Cond.static arraycopyName ∈ cs_all := wd_208
theorem cs_acI : Cond.initialized "java/lang/System" ∈ cs_all := wd_50
end
section
/-! the abstract memory, its world on the heap, and one row an instruction over it -/
theorem cs_up_self (M : cs_Mem) (j : Nat) (g : Nat → Int32) : cs_up M j g j = g := by simp [cs_up]
theorem cs_up_ne (M : cs_Mem) {i j : Nat} (g : Nat → Int32) (h : i ≠ j) : cs_up M j g i = M i := by simp [cs_up, h]
theorem cs_nz {v : Int32} (h : v = 0 ∨ v = 1) : narrow .boolean (.int v) = .int v := by rcases h with rfl | rfl <;> rfl
theorem cs_fz {v : Int32} (h : v = 0 ∨ v = 1) : fits .boolean (.int v) = true := by rcases h with rfl | rfl <;> rfl
theorem cs_bdE {α β : Type} {v x : α} {k : α → β} {X : β} (e : x = v) (h : X = cs_bd v k) : X = k x := by subst e; exact h
theorem cs_bdP {α : Type} {v x : α} {k : α → Prop} (e : x = v) (h : cs_bd v k) : k x := by subst e; exact h
def cs_sg (cA : Nat → ClassId) (ad : Nat → Nat) (M : cs_Mem) (j : Nat) : va_E := cs_cell (cs_kd j) cA ad (cs_ln M j) (M j) j
def cs_wl (cA : Nat → ClassId) (ad : Nat → Nat) (M : cs_Mem) : va_W := (List.range cs_n).map (fun i => (ad i, cs_sg cA ad M i))
def cs_is (k j : Nat) : Prop := cs_kd j = k ∧ j < cs_n
theorem cs_sg_is {cA : Nat → ClassId} {ad : Nat → Nat} {M : cs_Mem} {k j : Nat} (h : cs_is k j) : cs_sg cA ad M j = cs_cell k cA ad (cs_ln M j) (M j) j := by unfold cs_sg; rw [h.1]
theorem cs_wl_at {cA : Nat → ClassId} {ad : Nat → Nat} {M : cs_Mem} {j : Nat} {e : va_E} (h : j < cs_n) (he : cs_sg cA ad M j = e) : (cs_wl cA ad M)[j]? = some (ad j, e) := by
  unfold cs_wl
  rw [List.getElem?_map, List.getElem?_range h]
  simp [he]
theorem cs_wl_out {cA : Nat → ClassId} {ad : Nat → Nat} {M : cs_Mem} {j : Nat} (h : ¬ j < cs_n) : (cs_wl cA ad M)[j]? = none := by
  unfold cs_wl
  rw [List.getElem?_eq_none]
  simp
  omega
theorem cs_wl_of {cA : Nat → ClassId} {ad : Nat → Nat} {M : cs_Mem} {j : Nat} {q : Nat × va_E} (h : (cs_wl cA ad M)[j]? = some q) : j < cs_n ∧ q = (ad j, cs_sg cA ad M j) := by
  by_cases hj : j < cs_n
  · rw [cs_wl_at hj rfl] at h
    exact ⟨hj, (Option.some.inj h).symm⟩
  · rw [cs_wl_out hj] at h
    cases h
theorem cs_wl_set {cA : Nat → ClassId} {ad : Nat → Nat} {M : cs_Mem} {j : Nat} {g : Nat → Int32} {e : va_E} (h : j < cs_n) (he : cs_cell (cs_kd j) cA ad (cs_ln M j) g j = e) : (cs_wl cA ad M).set j (ad j, e) = cs_wl cA ad (cs_up M j g) := by
  subst he
  apply List.ext_getElem?
  intro i
  by_cases hi : i = j
  · subst hi
    rw [List.getElem?_set_self (by simp [cs_wl, h]), cs_wl_at h rfl]
    simp [cs_sg, cs_up_self, cs_ln_up h]
  · rw [List.getElem?_set_ne (Ne.symm hi)]
    by_cases hn : i < cs_n
    · rw [cs_wl_at hn rfl, cs_wl_at hn rfl]
      simp [cs_sg, cs_up_ne M g hi, cs_ln_up h]
    · rw [cs_wl_out hn, cs_wl_out hn]
/-- the words: those of the tables that a callee may be handed -/
theorem cs_all_good : ∀ w ∈ cs_all, (w.onTables && w.keeps) = true ∨ ∃ ty, w = .arrayClass ty := by
  intro w hw
  have h := (List.mem_filter.mp hw).2
  by_cases hc : k2_isCode w = true
  · cases w <;> first | (simp [k2_isCode] at hc; done) | exact Or.inl rfl
  · have hg : goodWord w = true := by simpa [hc] using h
    exact good_of_word hg
theorem cs_good {c0 c1 : Cond} (h1 : c1 ∈ cs_all) : GoodIn cs_all (c1 :: cs_all) := by
  intro w hw
  rcases List.mem_cons.mp hw with rfl | hw
  · exact ⟨h1, cs_all_good _ h1⟩
  · exact ⟨hw, cs_all_good _ hw⟩
def cs_nest : Cond := .methodLinkNest "ClassStarter$Program" 61 ⟨"ClassStarter", "isThread", "(I)Z"⟩ "ClassStarter"
def cs_A (ad : Nat → Nat) (sz : Nat) : Nat → Prop := fun q => (∃ i, i < cs_n ∧ ad i = q) ∨ sz ≤ q
def cs_Ctx (p : Program) (s : State) (m : MethodId) (args : Array Value) (c : Code) (cc : ByteArray) (nL : Nat) (own : String) (D : va_G) (cA : Nat → ClassId) (A : Nat → Prop) : Prop :=
  p.tables.exec = Jvm.exec ∧ c.code = cc ∧ c.maxLocals = nL ∧ s.vm.findClass own = some m.cls ∧ (∀ w ∈ cs_all, w.before args s = true) ∧ va_K D cs_cl (cs_tys cA) s ∧ (∀ q, s.heap.size ≤ q → A q) ∧ va_Nw cs_nest s
def cs_Wd (D : va_G) (cA : Nat → ClassId) (ad : Nat → Nat) (M : cs_Mem) (A : Nat → Prop) (s : State) (H : Heap) (locs : List Loc) : Prop :=
  va_P D cs_cl (cs_wl cA ad M) H ∧ va_D A (cs_wl cA ad M) ∧ va_S A s.heap H locs
/-- contracts: the start; the ends with an int, a long, nothing, a cell -/
def cs_Pc (D : va_G) (cA : Nat → ClassId) (ad : Nat → Nat) (M : cs_Mem) (av : List Value) (sz : Nat) : Array Value → State → Prop :=
  va_Pc av (fun U => U.heap.size = sz ∧ va_P D cs_cl (cs_wl cA ad M) U.heap ∧ va_K D cs_cl (cs_tys cA) U ∧ va_D (fun _ => True) (cs_wl cA ad M) ∧ va_Nw cs_nest U)
def cs_B (D : va_G) (cA : Nat → ClassId) (ad : Nat → Nat) (A : Nat → Prop) (M : cs_Mem) (t : State) : Prop := va_P D cs_cl (cs_wl cA ad M) t.heap ∧ va_D A (cs_wl cA ad M)
def cs_Qi (D : va_G) (cA : Nat → ClassId) (ad : Nat → Nat) (F : Int32 × cs_Mem) (A : Nat → Prop) : Array Value → State → Outcome → State → Prop :=
  va_Qi (fun r (u : Int32 × cs_Mem) => u = F ∧ r = u.1) (fun u t => cs_B D cA ad A u.2 t) A
def cs_Ql (D : va_G) (cA : Nat → ClassId) (ad : Nat → Nat) (F : Int64 × cs_Mem) (A : Nat → Prop) : Array Value → State → Outcome → State → Prop :=
  va_Ql (fun r (u : Int64 × cs_Mem) => u = F ∧ r = u.1) (fun u t => cs_B D cA ad A u.2 t) A
def cs_Qv (D : va_G) (cA : Nat → ClassId) (ad : Nat → Nat) (F : cs_Mem) (A : Nat → Prop) : Array Value → State → Outcome → State → Prop :=
  va_Qv (fun (u : cs_Mem) => u = F) (fun u t => cs_B D cA ad A u t) A
def cs_Qr (D : va_G) (cA : Nat → ClassId) (ad : Nat → Nat) (F : Nat × cs_Mem) (A : Nat → Prop) : Array Value → State → Outcome → State → Prop :=
  va_Qr (fun (u : Nat × cs_Mem) => u = F) (fun u a t => a = ad u.1 ∧ cs_B D cA ad A u.2 t) A
def cs_Ci (l : Launch) (y : MethodName) (cc : ByteArray) (nL : Nat) (ret : Option FieldType) (rm : Room) (D : va_G) (cA : Nat → ClassId) (ad : Nat → Nat) (M : cs_Mem) (av : List Value) (F : Int32 × cs_Mem) : Prop :=
  ∀ sz, Met l y (Cond.code y cc nL ret :: cs_all) rm (cs_Pc D cA ad M av sz) (cs_Qi D cA ad F (cs_A ad sz)) rm.cells rm.slots (cs_A ad sz)
def cs_Cl (l : Launch) (y : MethodName) (cc : ByteArray) (nL : Nat) (ret : Option FieldType) (rm : Room) (D : va_G) (cA : Nat → ClassId) (ad : Nat → Nat) (M : cs_Mem) (av : List Value) (F : Int64 × cs_Mem) : Prop :=
  ∀ sz, Met l y (Cond.code y cc nL ret :: cs_all) rm (cs_Pc D cA ad M av sz) (cs_Ql D cA ad F (cs_A ad sz)) rm.cells rm.slots (cs_A ad sz)
def cs_Cv (l : Launch) (y : MethodName) (cc : ByteArray) (nL : Nat) (ret : Option FieldType) (rm : Room) (D : va_G) (cA : Nat → ClassId) (ad : Nat → Nat) (M : cs_Mem) (av : List Value) (F : cs_Mem) : Prop :=
  ∀ sz, Met l y (Cond.code y cc nL ret :: cs_all) rm (cs_Pc D cA ad M av sz) (cs_Qv D cA ad F (cs_A ad sz)) rm.cells rm.slots (cs_A ad sz)
def cs_Cr (l : Launch) (y : MethodName) (cc : ByteArray) (nL : Nat) (ret : Option FieldType) (rm : Room) (D : va_G) (cA : Nat → ClassId) (ad : Nat → Nat) (M : cs_Mem) (av : List Value) (F : Nat × cs_Mem) : Prop :=
  ∀ sz, Met l y (Cond.code y cc nL ret :: cs_all) rm (cs_Pc D cA ad M av sz) (cs_Qr D cA ad F (cs_A ad sz)) rm.cells rm.slots (cs_A ad sz)
theorem cs_wl_addr {cA : Nat → ClassId} {ad : Nat → Nat} {M : cs_Mem} {A : Nat → Prop} (hD : va_D A (cs_wl cA ad M)) {i : Nat} (hi : i < cs_n) : A (ad i) := hD.2 i _ (cs_wl_at hi rfl)
theorem cs_D_weaken {cA : Nat → ClassId} {ad : Nat → Nat} {M : cs_Mem} {A B : Nat → Prop} (hD : va_D A (cs_wl cA ad M)) (h : ∀ q, A q → B q) : va_D B (cs_wl cA ad M) := hD.weaken (fun _ q _ ha => h q.1 ha)
theorem cs_D_self {cA : Nat → ClassId} {ad : Nat → Nat} {M : cs_Mem} {A : Nat → Prop} {sz : Nat} (hD : va_D A (cs_wl cA ad M)) : va_D (cs_A ad sz) (cs_wl cA ad M) :=
  ⟨hD.1, fun k q hk => by
    obtain ⟨h1, rfl⟩ := cs_wl_of hk
    exact Or.inl ⟨k, h1, rfl⟩⟩
theorem cs_Pc_blind {D : va_G} {cA : Nat → ClassId} {ad : Nat → Nat} {M : cs_Mem} {av : List Value} {sz : Nat} : FrameBlind (cs_Pc D cA ad M av sz) := fun a U g mk q => by
  obtain ⟨q0, q1, qP, qK, qD, qN⟩ := q
  exact ⟨q0, q1, qP, va_K.moved (u := U) (U := U.calling g mk a) (Vm.Alike.refl U.vm) qK, qD, va_Nw.same rfl rfl qN⟩
/-- from a contract's start to the walk -/
theorem cs_entry {l : Launch} {y : MethodName} {cc : ByteArray} {nL : Nat} {ret : Option FieldType} {rm : Room} {D : va_G} {cA : Nat → ClassId} {ad : Nat → Nat} {M : cs_Mem} {av : List Value} {Qc : (Nat → Prop) → Array Value → State → Outcome → State → Prop} {mc ms : Nat} (hy : plainName y.cls = true) (hn : (lg_sl av).length ≤ nL)
    (body : ∀ (p : Program) (e : Env) (s : State) (m : MethodId) (below : List Frame) (meth : Method) (c : Code) (A : Nat → Prop) (ls : Array Slot), cs_Ctx p s m av.toArray c cc nL y.cls D cA A → meth.sig.returnType = ret → meth.locks = false → (s.methodNamed? y = some m ∧ s.vm.method? m = some meth) → cs_Wd D cA ad M A s s.heap [] → lv_has ls nL (lv_args 0 av) →
      W p l e rm s m av.toArray below meth c s.heap [] 0 0 (MQ below (Qc A) av.toArray s mc ms A) (F0 m 0 ls [])) (sz : Nat) :
    Met l y (Cond.code y cc nL ret :: cs_all) rm (cs_Pc D cA ad M av sz) (Qc (cs_A ad sz)) mc ms (cs_A ad sz) := by
  refine Met.ofW (cc := cc) (maxL := nL) (ret := ret) hy rfl ?_
  intro p e s m args below meth c s₁ B hml hv
  obtain ⟨rfl, hsz, hP, hK, hD0, hN⟩ := hv
  have hts := atoms_spec (ws := Cond.code y cc nL ret :: cs_all) B.pre
  subst hsz
  have hl := lv_entry av (n := nL) hn
  rw [lg_entry_eq]
  generalize (lg_sl av ++ List.replicate (nL - (lg_sl av).length) Slot.unset).toArray = ls at hl ⊢
  exact body p e s m below meth c (cs_A ad s.heap.size) ls ⟨B.exec, B.bytes, hml, findClass_of_methodNamed B.named, fun w h => hts w (List.mem_cons_of_mem _ h), hK, fun q h => Or.inr h, hN⟩ B.returns B.notSynchronized ⟨B.named, B.method⟩ ⟨hP, cs_D_self hD0, va_S.rf⟩ hl
section CSW
variable {p : Program} {l : Launch} {e : Env} {R : Room} {s : State} {m : MethodId} {args : Array Value} {below : List Frame} {meth : Method} {c : Code} {H : Heap} {locs : List Loc} {cells slots : Nat} {Q : State → Prop}
variable {cc : ByteArray} {nL pc : Nat} {own : String} {ls : Array Slot} {rest : List Value} {D : va_G} {cA : Nat → ClassId} {A : Nat → Prop} {ad : Nat → Nat} {M : cs_Mem} {J : Nat}
theorem cs_Wd.set {g : Nat → Int32} {ex : va_E} {H1 : Heap} {locs1 : List Loc} (hJ : J < cs_n) (he : cs_cell (cs_kd J) cA ad (cs_ln M J) g J = ex) (hP : va_P D cs_cl ((cs_wl cA ad M).set J (ad J, ex)) H1) (hD : va_D A ((cs_wl cA ad M).set J (ad J, ex))) (hS : va_S A s.heap H1 locs1) : cs_Wd D cA ad (cs_up M J g) A s H1 locs1 := by
  rw [cs_wl_set hJ he] at hP hD
  exact ⟨hP, hD, hS⟩
theorem cs_iald (hC : cs_Ctx p s m args c cc nL own D cA A) (hw : cs_Wd D cA ad M A s H locs) (hj : cs_is 20 J) {i : Int32} (hi : vp_in i (cs_ln M J)) (hdg : decode cc pc = .ok (.iaload, 1))
    (kk : W p l e R s m args below meth c H locs cells slots Q (F0 m (pc + 1) ls (.int (M J i.toNatClampNeg) :: rest))) : W p l e R s m args below meth c H locs cells slots Q (F0 m pc ls (.int i :: .ref (ad J) :: rest)) :=
  va_iald hC.1 hC.2.1 hC.2.2.2.2.2.1 hw.1 J 0 (cs_wl_at hj.2 (cs_sg_is hj)) rfl hi hdg kk
theorem cs_zald (hC : cs_Ctx p s m args c cc nL own D cA A) (hw : cs_Wd D cA ad M A s H locs) (hj : cs_is 21 J) {i : Int32} (hi : vp_in i (cs_ln M J)) (hdg : decode cc pc = .ok (.baload, 1))
    (kk : W p l e R s m args below meth c H locs cells slots Q (F0 m (pc + 1) ls (.int (M J i.toNatClampNeg) :: rest))) : W p l e R s m args below meth c H locs cells slots Q (F0 m pc ls (.int i :: .ref (ad J) :: rest)) :=
  va_zald hC.1 hC.2.1 hC.2.2.2.2.2.1 hw.1 J 1 (cs_wl_at hj.2 (cs_sg_is hj)) rfl hi hdg kk
theorem cs_iast (hC : cs_Ctx p s m args c cc nL own D cA A) (hw : cs_Wd D cA ad M A s H locs) (hj : cs_is 20 J) {i x : Int32} (hi : vp_in i (cs_ln M J)) (hdg : decode cc pc = .ok (.iastore, 1))
    (kk : ∀ (N : cs_Mem) (H1 : Heap) (locs1 : List Loc), N = cs_up M J (upd (M J) i.toNatClampNeg x) → cs_Wd D cA ad N A s H1 locs1 → W p l e R s m args below meth c H1 locs1 cells slots Q (F0 m (pc + 1) ls rest)) : W p l e R s m args below meth c H locs cells slots Q (F0 m pc ls (.int x :: .int i :: .ref (ad J) :: rest)) :=
  va_iast hC.1 hC.2.1 hC.2.2.2.2.2.1 hw.1 hw.2.1 hw.2.2 J 0 (cs_wl_at hj.2 (cs_sg_is hj)) rfl hi hdg (fun H1 locs1 hP hD hS => kk _ H1 locs1 rfl (cs_Wd.set hj.2 (by rw [hj.1]; rfl) hP hD hS))
theorem cs_zast (hC : cs_Ctx p s m args c cc nL own D cA A) (hw : cs_Wd D cA ad M A s H locs) (hj : cs_is 21 J) {i x : Int32} (hi : vp_in i (cs_ln M J)) (hdg : decode cc pc = .ok (.bastore, 1))
    (kk : ∀ (N : cs_Mem) (H1 : Heap) (locs1 : List Loc), N = cs_up M J (upd (M J) i.toNatClampNeg (vp_nar .boolean x)) → cs_Wd D cA ad N A s H1 locs1 → W p l e R s m args below meth c H1 locs1 cells slots Q (F0 m (pc + 1) ls rest)) : W p l e R s m args below meth c H locs cells slots Q (F0 m pc ls (.int x :: .int i :: .ref (ad J) :: rest)) :=
  va_zast hC.1 hC.2.1 hC.2.2.2.2.2.1 hw.1 hw.2.1 hw.2.2 J 1 (cs_wl_at hj.2 (cs_sg_is hj)) rfl hi hdg (fun H1 locs1 hP hD hS => kk _ H1 locs1 rfl (cs_Wd.set hj.2 (by rw [hj.1]; rfl) hP hD hS))
theorem cs_ialen (hC : cs_Ctx p s m args c cc nL own D cA A) (hw : cs_Wd D cA ad M A s H locs) (hj : cs_is 20 J) (hdg : decode cc pc = .ok (.arraylength, 1))
    (kk : W p l e R s m args below meth c H locs cells slots Q (F0 m (pc + 1) ls (.int (nI (cs_ln M J)) :: rest))) : W p l e R s m args below meth c H locs cells slots Q (F0 m pc ls (.ref (ad J) :: rest)) :=
  va_alen hC.1 hC.2.1 hC.2.2.2.2.2.1 hw.1 J 0 (cs_wl_at hj.2 (cs_sg_is hj)) rfl rfl hdg kk
/-- System.arraycopy between two rows of ints -/
theorem cs_icpy {J1 : Nat} (hC : cs_Ctx p s m args c cc nL own D cA A) (hw : cs_Wd D cA ad M A s H locs) (hls : ls.size = nL) (hj : cs_is 20 J) (hj1 : cs_is 20 J1) {index : Nat} (hlk : Cond.methodLink own index arraycopyName ∈ cs_all) (hnt : Cond.native arraycopyName ∈ cs_all) (hst : Cond.static arraycopyName ∈ cs_all) (hin : Cond.initialized "java/lang/System" ∈ cs_all) {sp dp n : Int32}
    (h1 : ¬ sp < 0) (h2 : ¬ dp < 0) (h3 : ¬ n < 0) (h4 : sp.toNatClampNeg + n.toNatClampNeg ≤ cs_ln M J) (h5 : dp.toNatClampNeg + n.toNatClampNeg ≤ cs_ln M J1)
    (hfr : 1 ≤ R.frames) (hlo : (rest.map fun v => v.category).sum + (nativeFrameWords "java/lang/System" "arraycopy" 5 + 11) ≤ R.locals) (hdg : decode cc pc = .ok (.invokestatic index, 3))
    (kk : ∀ (N : cs_Mem) (H1 : Heap) (locs1 : List Loc), N = cs_up M J1 (va_cpy (M J) (M J1) sp.toNatClampNeg dp.toNatClampNeg n.toNatClampNeg) → cs_Wd D cA ad N A s H1 locs1 → W p l e R s m args below meth c H1 locs1 cells slots Q (F0 m (pc + 3) ls rest)) : W p l e R s m args below meth c H locs cells slots Q (F0 m pc ls (.int n :: .int dp :: .ref (ad J1) :: .int sp :: .ref (ad J) :: rest)) :=
  va_copyi hC.1 hC.2.1 (hC.2.2.1.trans hls.symm) hC.2.2.2.1 (hC.2.2.2.2.1 _ hlk) (hC.2.2.2.2.1 _ hnt) (hC.2.2.2.2.1 _ hst) (hC.2.2.2.2.1 _ hin) hC.2.2.2.2.2.1 hw.1 hw.2.1 hw.2.2 J J1 0 0 (ty := .int) (cs_wl_at hj.2 (cs_sg_is hj)) (cs_wl_at hj1.2 (cs_sg_is hj1)) rfl rfl rfl h1 h2 h3 h4 h5 (fun _ _ => rfl) hfr hlo hdg
    (fun H1 locs1 hP hD hS => kk _ H1 locs1 rfl (cs_Wd.set hj1.2 (by rw [hj1.1]; rfl) hP hD hS))
/-- the words of a call -/
def cs_CwV (own : String) (index : Nat) (C : String) (y : MethodName) (cc : ByteArray) (nL : Nat) (ret : Option FieldType) (n : Nat) : Prop :=
  Cond.methodLink own index y ∈ cs_all ∧ Cond.instanceMethod y ∈ cs_all ∧ Cond.selects C y y ∈ cs_all ∧ Cond.initialized C ∈ cs_all ∧ Cond.code y cc nL ret ∈ cs_all ∧
  (y.cls = C ∧ y.cls ≠ "java/lang/invoke/MethodHandle" ∧ y.cls ≠ "java/lang/invoke/VarHandle" ∧ (parseMethodDescriptor y.desc).map (fun d => d.parameters.length) = some n)
def cs_CwS (own : String) (index : Nat) (y : MethodName) (cc : ByteArray) (nL : Nat) (ret : Option FieldType) (n : Nat) : Prop :=
  Cond.methodLink own index y ∈ cs_all ∧ Cond.static y ∈ cs_all ∧ Cond.initialized y.cls ∈ cs_all ∧ Cond.code y cc nL ret ∈ cs_all ∧
  (y.cls ≠ "java/lang/invoke/MethodHandle" ∧ y.cls ≠ "java/lang/invoke/VarHandle" ∧ (parseMethodDescriptor y.desc).map (fun d => d.parameters.length) = some n)
variable {y : MethodName} {bytes : ByteArray} {maxL n index : Nat} {ret : Option FieldType} {rm : Room} {As st0 : List Value} {C : String}
theorem cs_runV {ci : Nat} {q : vw_C} {fs : List Value} {Qc : Array Value → State → Outcome → State → Prop} {mc ms : Nat} {free : Addr → Prop} (hC : cs_Ctx p s m args c cc nL own D cA A) (hw : cs_Wd D cA ad M A s H locs) (hJ : J < cs_n) (hc : cs_cl[ci]? = some q) (hq : q.1 = C) (he : cs_sg cA ad M J = .inr (ci, fs))
    (hM : Met l y (Cond.code y bytes maxL ret :: cs_all) rm (cs_Pc D cA ad M (.ref (ad J) :: As) H.size) Qc mc ms free) (hmc : rm.cells = mc) (hms : rm.slots = ms) (cw : cs_CwV own index C y bytes maxL ret n) (hR : rm.frames + 1 ≤ R.frames ∧ 8 + (maxL + 11) + rm.locals ≤ R.locals)
    (hls : ls.size = nL) (hn : As.length = n) (hst : st0 = As.reverse ++ .ref (ad J) :: rest) (hrest : (rest.map fun v => v.category).sum ≤ 8) (hdg : decode cc pc = .ok (.invokevirtual index, 3)) (hf : cells + mc ≤ R.cells ∧ slots + ms ≤ R.slots) :
    va_Run p l e R s m args below meth c H locs cells slots mc ms (F0 m pc ls st0) rest (Qc (Value.ref (ad J) :: As).toArray) free := by
  subst hq
  obtain ⟨w1, w2, w3, w4, w5, w6⟩ := cw
  obtain ⟨hx, hb, hml, hown, hts, hK, hA, hN⟩ := hC
  obtain ⟨hP, hD, hS⟩ := hw
  refine va_runV (Ts := cs_all) ⟨hx, hb, hml, hown, hts⟩ hM (cwV n hts ?_ rfl hmc hms w6 hR) ⟨cs_Pc_blind, va_recv hK hP hc (cs_wl_at hJ he), fun U hU hW => ⟨rfl, by rw [hU], by rw [hU]; exact hP, va_K.moved hW.alike hK, cs_D_weaken hD (fun _ _ => trivial), va_Nw.warmM hW hN⟩⟩ rfl hn hls hst (lv_room hrest) hdg hf
  intro w hw2
  rcases List.mem_append.mp hw2 with h | h
  · simp only [List.mem_cons, List.not_mem_nil, or_false] at h
    rcases h with rfl | rfl | rfl | rfl
    · exact ⟨w1, cs_all_good _ w1⟩
    · exact ⟨w2, cs_all_good _ w2⟩
    · exact ⟨w3, cs_all_good _ w3⟩
    · exact ⟨w4, cs_all_good _ w4⟩
  · exact cs_good (c0 := Cond.tt) w5 w h
theorem cs_runS {Qc : Array Value → State → Outcome → State → Prop} {mc ms : Nat} {free : Addr → Prop} (hC : cs_Ctx p s m args c cc nL own D cA A) (hw : cs_Wd D cA ad M A s H locs)
    (hM : Met l y (Cond.code y bytes maxL ret :: cs_all) rm (cs_Pc D cA ad M As H.size) Qc mc ms free) (hmc : rm.cells = mc) (hms : rm.slots = ms) (cw : cs_CwS own index y bytes maxL ret n) (hR : rm.frames + 1 ≤ R.frames ∧ 8 + (maxL + 11) + rm.locals ≤ R.locals)
    (hls : ls.size = nL) (hn : As.length = n) (hst : st0 = As.reverse ++ rest) (hrest : (rest.map fun v => v.category).sum ≤ 8) (hdg : decode cc pc = .ok (.invokestatic index, 3)) (hf : cells + mc ≤ R.cells ∧ slots + ms ≤ R.slots) :
    va_Run p l e R s m args below meth c H locs cells slots mc ms (F0 m pc ls st0) rest (Qc As.toArray) free := by
  obtain ⟨w1, w2, w3, w5, w6⟩ := cw
  obtain ⟨hx, hb, hml, hown, hts, hK, hA, hN⟩ := hC
  obtain ⟨hP, hD, hS⟩ := hw
  exact va_runS (Ts := cs_all) ⟨hx, hb, hml, hown, hts⟩ hM ⟨callB_of n hts (cs_good (c0 := Cond.tt) w5) rfl hmc hms (hts _ w3) (hts _ w1) w6 hR, hts _ w2⟩ ⟨cs_Pc_blind, fun U hU hW => ⟨rfl, by rw [hU], by rw [hU]; exact hP, va_K.moved hW.alike hK, cs_D_weaken hD (fun _ _ => trivial), va_Nw.warmM hW hN⟩⟩ rfl hn hls hst (lv_room hrest) hdg hf
def cs_CwN (own : String) (index : Nat) (y : MethodName) (host : String) (cc : ByteArray) (nL : Nat) (ret : Option FieldType) (n : Nat) : Prop :=
  Cond.methodLinkNest own index y host = cs_nest ∧ Cond.static y ∈ cs_all ∧ Cond.initialized y.cls ∈ cs_all ∧ Cond.code y cc nL ret ∈ cs_all ∧
  (y.cls ≠ "java/lang/invoke/MethodHandle" ∧ y.cls ≠ "java/lang/invoke/VarHandle" ∧ (parseMethodDescriptor y.desc).map (fun d => d.parameters.length) = some n)
theorem cs_runSN {host : String} {Qc : Array Value → State → Outcome → State → Prop} {mc ms : Nat} {free : Addr → Prop} (hC : cs_Ctx p s m args c cc nL own D cA A) (hw : cs_Wd D cA ad M A s H locs)
    (hM : Met l y (Cond.code y bytes maxL ret :: cs_all) rm (cs_Pc D cA ad M As H.size) Qc mc ms free) (hmc : rm.cells = mc) (hms : rm.slots = ms) (cw : cs_CwN own index y host bytes maxL ret n) (hR : rm.frames + 1 ≤ R.frames ∧ 8 + (maxL + 11) + rm.locals ≤ R.locals)
    (hls : ls.size = nL) (hn : As.length = n) (hst : st0 = As.reverse ++ rest) (hrest : (rest.map fun v => v.category).sum ≤ 8) (hdg : decode cc pc = .ok (.invokestatic index, 3)) (hf : cells + mc ≤ R.cells ∧ slots + ms ≤ R.slots) :
    va_Run p l e R s m args below meth c H locs cells slots mc ms (F0 m pc ls st0) rest (Qc As.toArray) free := by
  obtain ⟨w1, w2, w3, w5, w6⟩ := cw
  obtain ⟨hx, hb, hml, hown, hts, hK, hA, hN⟩ := hC
  obtain ⟨hP, hD, hS⟩ := hw
  exact va_runSN (Ts := cs_all) ⟨hx, hb, hml, hown, hts⟩ hM ⟨va_cnB (host := host) n hts (cs_good (c0 := Cond.tt) w5) rfl hmc hms (w1 ▸ hN) (hts _ w3) w6 hR, hts _ w2, trivial⟩ ⟨cs_Pc_blind, fun U hU hW => ⟨rfl, by rw [hU], by rw [hU]; exact hP, va_K.moved hW.alike hK, cs_D_weaken hD (fun _ _ => trivial), va_Nw.warmM hW hN⟩⟩ rfl hn hls hst (lv_room hrest) hdg hf
theorem cs_A_in (hC : cs_Ctx p s m args c cc nL own D cA A) (hw : cs_Wd D cA ad M A s H locs) : ∀ q, cs_A ad H.size q → A q := by
  intro q h
  rcases h with ⟨i, hi, rfl⟩ | h
  · exact cs_wl_addr hw.2.1 hi
  · exact hC.2.2.2.2.2.2.1 q (Nat.le_trans hw.2.2.1 h)
theorem cs_ret_i {a : Array Value} {F : Int32 × cs_Mem} (hC : cs_Ctx p s m args c cc nL own D cA A) (hw : cs_Wd D cA ad M A s H locs) (hr : va_Run p l e R s m args below meth c H locs cells slots 0 0 (F0 m pc ls st0) rest (cs_Qi D cA ad F (cs_A ad H.size) a) (cs_A ad H.size))
    (kk : ∀ (u : Int32 × cs_Mem) (H1 : Heap) (locs1 : List Loc), u = F → cs_Wd D cA ad u.2 A s H1 locs1 → W p l e R s m args below meth c H1 locs1 cells slots Q (F0 m (pc + 3) ls (.int u.1 :: rest))) : W p l e R s m args below meth c H locs cells slots Q (F0 m pc ls st0) := by
  refine va_calli hr hw.2.2 (fun q _ h => cs_A_in hC hw q h) (cs_A_in hC hw) (fun r u t H1 locs1 ht hvm hp hB hz hk hS => ?_)
  obtain ⟨e1, e2⟩ := hp
  obtain ⟨b1, b2⟩ := hB
  rw [ht] at b1
  rw [e2]
  exact kk u H1 locs1 e1 ⟨b1, cs_D_weaken b2 (cs_A_in hC hw), hS⟩
theorem cs_ret_p {a : Array Value} {f : Int32} (hC : cs_Ctx p s m args c cc nL own D cA A) (hw : cs_Wd D cA ad M A s H locs) (hr : va_Run p l e R s m args below meth c H locs cells slots 0 0 (F0 m pc ls st0) rest (cs_Qi D cA ad (f, M) (cs_A ad H.size) a) (cs_A ad H.size))
    (kk : ∀ (u : Int32) (H1 : Heap) (locs1 : List Loc), u = f → cs_Wd D cA ad M A s H1 locs1 → W p l e R s m args below meth c H1 locs1 cells slots Q (F0 m (pc + 3) ls (.int u :: rest))) : W p l e R s m args below meth c H locs cells slots Q (F0 m pc ls st0) :=
  cs_ret_i hC hw hr (fun u H1 locs1 hu hw1 => by subst hu; exact kk f H1 locs1 rfl hw1)
theorem cs_ret_l {a : Array Value} {F : Int64 × cs_Mem} (hC : cs_Ctx p s m args c cc nL own D cA A) (hw : cs_Wd D cA ad M A s H locs) (hr : va_Run p l e R s m args below meth c H locs cells slots 0 0 (F0 m pc ls st0) rest (cs_Ql D cA ad F (cs_A ad H.size) a) (cs_A ad H.size))
    (kk : ∀ (u : Int64 × cs_Mem) (H1 : Heap) (locs1 : List Loc), u = F → cs_Wd D cA ad u.2 A s H1 locs1 → W p l e R s m args below meth c H1 locs1 cells slots Q (F0 m (pc + 3) ls (.long u.1 :: rest))) : W p l e R s m args below meth c H locs cells slots Q (F0 m pc ls st0) := by
  refine va_calll hr hw.2.2 (fun q _ h => cs_A_in hC hw q h) (cs_A_in hC hw) (fun r u t H1 locs1 ht hvm hp hB hz hk hS => ?_)
  obtain ⟨e1, e2⟩ := hp
  obtain ⟨b1, b2⟩ := hB
  rw [ht] at b1
  rw [e2]
  exact kk u H1 locs1 e1 ⟨b1, cs_D_weaken b2 (cs_A_in hC hw), hS⟩
theorem cs_ret_lp {a : Array Value} {f : Int64} (hC : cs_Ctx p s m args c cc nL own D cA A) (hw : cs_Wd D cA ad M A s H locs) (hr : va_Run p l e R s m args below meth c H locs cells slots 0 0 (F0 m pc ls st0) rest (cs_Ql D cA ad (f, M) (cs_A ad H.size) a) (cs_A ad H.size))
    (kk : ∀ (u : Int64) (H1 : Heap) (locs1 : List Loc), u = f → cs_Wd D cA ad M A s H1 locs1 → W p l e R s m args below meth c H1 locs1 cells slots Q (F0 m (pc + 3) ls (.long u :: rest))) : W p l e R s m args below meth c H locs cells slots Q (F0 m pc ls st0) :=
  cs_ret_l hC hw hr (fun u H1 locs1 hu hw1 => by subst hu; exact kk f H1 locs1 rfl hw1)
theorem cs_ret_v {a : Array Value} {F : cs_Mem} (hC : cs_Ctx p s m args c cc nL own D cA A) (hw : cs_Wd D cA ad M A s H locs) (hr : va_Run p l e R s m args below meth c H locs cells slots 0 0 (F0 m pc ls st0) rest (cs_Qv D cA ad F (cs_A ad H.size) a) (cs_A ad H.size))
    (kk : ∀ (u : cs_Mem) (H1 : Heap) (locs1 : List Loc), u = F → cs_Wd D cA ad u A s H1 locs1 → W p l e R s m args below meth c H1 locs1 cells slots Q (F0 m (pc + 3) ls rest)) : W p l e R s m args below meth c H locs cells slots Q (F0 m pc ls st0) := by
  refine va_callv hr hw.2.2 (fun q _ h => cs_A_in hC hw q h) (cs_A_in hC hw) (fun u t H1 locs1 ht hvm hp hB hz hk hS => ?_)
  obtain ⟨b1, b2⟩ := hB
  rw [ht] at b1
  exact kk u H1 locs1 hp ⟨b1, cs_D_weaken b2 (cs_A_in hC hw), hS⟩
theorem cs_ret_rp {a : Array Value} {f : Nat} (hC : cs_Ctx p s m args c cc nL own D cA A) (hw : cs_Wd D cA ad M A s H locs) (hr : va_Run p l e R s m args below meth c H locs cells slots 0 0 (F0 m pc ls st0) rest (cs_Qr D cA ad (f, M) (cs_A ad H.size) a) (cs_A ad H.size))
    (kk : ∀ (u : Nat) (H1 : Heap) (locs1 : List Loc), u = f → cs_Wd D cA ad M A s H1 locs1 → W p l e R s m args below meth c H1 locs1 cells slots Q (F0 m (pc + 3) ls (.ref (ad u) :: rest))) : W p l e R s m args below meth c H locs cells slots Q (F0 m pc ls st0) := by
  refine va_callr hr hw.2.2 (fun q _ h => cs_A_in hC hw q h) (cs_A_in hC hw) (fun u ra t H1 locs1 ht hvm hp hB hz hk hS => ?_)
  subst hp
  obtain ⟨rfl, b1, b2⟩ := hB
  rw [ht] at b1
  exact kk _ H1 locs1 rfl ⟨b1, cs_D_weaken b2 (cs_A_in hC hw), hS⟩
/-- the ends -/
theorem cs_iret {F : Int32 × cs_Mem} {v : Int32} (hC : cs_Ctx p s m args c cc nL own D cA A) (hw : cs_Wd D cA ad M A s H locs) (hr : meth.sig.returnType = some .int) (hlk : meth.locks = false) (hf : F = (v, M)) (hdg : decode cc pc = .ok (.ireturn, 1)) :
    W p l e R s m args below meth c H locs cells slots (MQ below (cs_Qi D cA ad F A) args s cells slots A) (F0 m pc ls [.int v]) :=
  W.iret hC.1 hC.2.1 hr (fun t ht hW => ⟨⟨v, F, rfl, ⟨rfl, by rw [hf]⟩, by rw [hf, ht]; exact hw.1, by rw [hf]; exact hw.2.1⟩, hw.2.2.F ht⟩) hw.2.2.2.2 hdg hlk
theorem cs_zret {F : Int32 × cs_Mem} {v : Int32} (hC : cs_Ctx p s m args c cc nL own D cA A) (hw : cs_Wd D cA ad M A s H locs) (hr : meth.sig.returnType = some .boolean) (hlk : meth.locks = false) (hv : v = 0 ∨ v = 1) (hf : F = (v, M)) (hdg : decode cc pc = .ok (.ireturn, 1)) :
    W p l e R s m args below meth c H locs cells slots (MQ below (cs_Qi D cA ad F A) args s cells slots A) (F0 m pc ls [.int v]) :=
  W.zret hC.1 hC.2.1 hr (cs_nz hv) (fun t ht hW => ⟨⟨v, F, rfl, ⟨rfl, by rw [hf]⟩, by rw [hf, ht]; exact hw.1, by rw [hf]; exact hw.2.1⟩, hw.2.2.F ht⟩) hw.2.2.2.2 hdg hlk
theorem cs_lret {F : Int64 × cs_Mem} {v : Int64} (hC : cs_Ctx p s m args c cc nL own D cA A) (hw : cs_Wd D cA ad M A s H locs) (hr : meth.sig.returnType = some .long) (hlk : meth.locks = false) (hf : F = (v, M)) (hdg : decode cc pc = .ok (.lreturn, 1)) :
    W p l e R s m args below meth c H locs cells slots (MQ below (cs_Ql D cA ad F A) args s cells slots A) (F0 m pc ls [.long v]) :=
  W.lret hC.1 hC.2.1 hr (fun t ht hW => ⟨⟨v, F, rfl, ⟨rfl, by rw [hf]⟩, by rw [hf, ht]; exact hw.1, by rw [hf]; exact hw.2.1⟩, hw.2.2.F ht⟩) hw.2.2.2.2 hdg hlk
theorem cs_vret {F : cs_Mem} (hC : cs_Ctx p s m args c cc nL own D cA A) (hw : cs_Wd D cA ad M A s H locs) (hr : meth.sig.returnType = none) (hlk : meth.locks = false) (hf : F = M) (hdg : decode cc pc = .ok (.return_, 1)) :
    W p l e R s m args below meth c H locs cells slots (MQ below (cs_Qv D cA ad F A) args s cells slots A) (F0 m pc ls []) :=
  W.vret hC.1 hC.2.1 hr (fun t ht hW => ⟨⟨F, rfl, rfl, by rw [hf, ht]; exact hw.1, by rw [hf]; exact hw.2.1⟩, hw.2.2.F ht⟩) hw.2.2.2.2 hdg hlk
theorem cs_aret {F : Nat × cs_Mem} {v : Nat} {rt : FieldType} (hC : cs_Ctx p s m args c cc nL own D cA A) (hw : cs_Wd D cA ad M A s H locs) (hr : meth.sig.returnType = some rt) (hrt : (∃ n, rt = .object n) ∨ ∃ t, rt = .array t) (hlk : meth.locks = false) (hf : F = (v, M)) (hdg : decode cc pc = .ok (.areturn, 1)) :
    W p l e R s m args below meth c H locs cells slots (MQ below (cs_Qr D cA ad F A) args s cells slots A) (F0 m pc ls [.ref (ad v)]) :=
  W.aret hC.1 hC.2.1 hr hrt (Or.inr ⟨_, rfl⟩) (fun t ht hW => ⟨⟨F, ad v, rfl, rfl, by rw [hf], by rw [hf, ht]; exact hw.1, by rw [hf]; exact hw.2.1⟩, hw.2.2.F ht⟩) hw.2.2.2.2 hdg hlk
end CSW
theorem is_0 : cs_is 0 0 := ⟨rfl, by decide⟩
theorem is_1 : cs_is 1 1 := ⟨rfl, by decide⟩
theorem is_2 : cs_is 21 2 := ⟨rfl, by decide⟩
theorem is_3 : cs_is 21 3 := ⟨rfl, by decide⟩
theorem is_4 : cs_is 20 4 := ⟨rfl, by decide⟩
theorem is_5 : cs_is 20 5 := ⟨rfl, by decide⟩
theorem is_6 : cs_is 20 6 := ⟨rfl, by decide⟩
theorem is_7 : cs_is 22 7 := ⟨rfl, by decide⟩
theorem is_8 : cs_is 2 8 := ⟨rfl, by decide⟩
theorem is_9 : cs_is 20 9 := ⟨rfl, by decide⟩
theorem is_10 : cs_is 20 10 := ⟨rfl, by decide⟩
theorem is_11 : cs_is 20 11 := ⟨rfl, by decide⟩
theorem is_12 : cs_is 2 12 := ⟨rfl, by decide⟩
theorem is_13 : cs_is 20 13 := ⟨rfl, by decide⟩
theorem is_14 : cs_is 20 14 := ⟨rfl, by decide⟩
theorem is_15 : cs_is 20 15 := ⟨rfl, by decide⟩
theorem is_16 : cs_is 2 16 := ⟨rfl, by decide⟩
theorem is_17 : cs_is 20 17 := ⟨rfl, by decide⟩
theorem is_18 : cs_is 20 18 := ⟨rfl, by decide⟩
theorem is_19 : cs_is 20 19 := ⟨rfl, by decide⟩
theorem is_20 : cs_is 2 20 := ⟨rfl, by decide⟩
theorem is_21 : cs_is 20 21 := ⟨rfl, by decide⟩
theorem is_22 : cs_is 20 22 := ⟨rfl, by decide⟩
theorem is_23 : cs_is 20 23 := ⟨rfl, by decide⟩
theorem is_24 : cs_is 2 24 := ⟨rfl, by decide⟩
theorem is_25 : cs_is 20 25 := ⟨rfl, by decide⟩
theorem is_26 : cs_is 20 26 := ⟨rfl, by decide⟩
theorem is_27 : cs_is 20 27 := ⟨rfl, by decide⟩
theorem is_28 : cs_is 2 28 := ⟨rfl, by decide⟩
theorem is_29 : cs_is 20 29 := ⟨rfl, by decide⟩
theorem is_30 : cs_is 20 30 := ⟨rfl, by decide⟩
theorem is_31 : cs_is 20 31 := ⟨rfl, by decide⟩
theorem is_32 : cs_is 2 32 := ⟨rfl, by decide⟩
theorem is_33 : cs_is 20 33 := ⟨rfl, by decide⟩
theorem is_34 : cs_is 20 34 := ⟨rfl, by decide⟩
theorem is_35 : cs_is 20 35 := ⟨rfl, by decide⟩
theorem is_36 : cs_is 2 36 := ⟨rfl, by decide⟩
theorem is_37 : cs_is 20 37 := ⟨rfl, by decide⟩
theorem is_38 : cs_is 20 38 := ⟨rfl, by decide⟩
theorem is_39 : cs_is 20 39 := ⟨rfl, by decide⟩
theorem is_40 : cs_is 2 40 := ⟨rfl, by decide⟩
theorem is_41 : cs_is 20 41 := ⟨rfl, by decide⟩
theorem is_42 : cs_is 20 42 := ⟨rfl, by decide⟩
theorem is_43 : cs_is 20 43 := ⟨rfl, by decide⟩
theorem is_44 : cs_is 2 44 := ⟨rfl, by decide⟩
theorem is_45 : cs_is 20 45 := ⟨rfl, by decide⟩
theorem is_46 : cs_is 20 46 := ⟨rfl, by decide⟩
theorem is_47 : cs_is 20 47 := ⟨rfl, by decide⟩
theorem is_48 : cs_is 2 48 := ⟨rfl, by decide⟩
theorem is_49 : cs_is 20 49 := ⟨rfl, by decide⟩
theorem is_50 : cs_is 20 50 := ⟨rfl, by decide⟩
theorem is_51 : cs_is 20 51 := ⟨rfl, by decide⟩
theorem is_52 : cs_is 3 52 := ⟨rfl, by decide⟩
theorem is_53 : cs_is 20 53 := ⟨rfl, by decide⟩
theorem is_54 : cs_is 20 54 := ⟨rfl, by decide⟩
theorem is_55 : cs_is 4 55 := ⟨rfl, by decide⟩
theorem is_56 : cs_is 3 56 := ⟨rfl, by decide⟩
theorem is_57 : cs_is 20 57 := ⟨rfl, by decide⟩
theorem is_58 : cs_is 20 58 := ⟨rfl, by decide⟩
theorem is_59 : cs_is 20 59 := ⟨rfl, by decide⟩
theorem is_60 : cs_is 20 60 := ⟨rfl, by decide⟩
theorem is_61 : cs_is 20 61 := ⟨rfl, by decide⟩
theorem is_62 : cs_is 5 62 := ⟨rfl, by decide⟩
theorem is_63 : cs_is 20 63 := ⟨rfl, by decide⟩
theorem is_64 : cs_is 20 64 := ⟨rfl, by decide⟩
theorem is_65 : cs_is 20 65 := ⟨rfl, by decide⟩
theorem is_66 : cs_is 20 66 := ⟨rfl, by decide⟩
theorem is_67 : cs_is 20 67 := ⟨rfl, by decide⟩
theorem is_68 : cs_is 21 68 := ⟨rfl, by decide⟩
theorem is_69 : cs_is 21 69 := ⟨rfl, by decide⟩
theorem is_70 : cs_is 20 70 := ⟨rfl, by decide⟩
theorem is_71 : cs_is 21 71 := ⟨rfl, by decide⟩
theorem is_72 : cs_is 20 72 := ⟨rfl, by decide⟩
theorem is_73 : cs_is 20 73 := ⟨rfl, by decide⟩
theorem is_74 : cs_is 20 74 := ⟨rfl, by decide⟩
theorem is_75 : cs_is 20 75 := ⟨rfl, by decide⟩
theorem is_76 : cs_is 20 76 := ⟨rfl, by decide⟩
theorem is_77 : cs_is 20 77 := ⟨rfl, by decide⟩
theorem is_78 : cs_is 20 78 := ⟨rfl, by decide⟩
theorem is_79 : cs_is 20 79 := ⟨rfl, by decide⟩
theorem is_80 : cs_is 20 80 := ⟨rfl, by decide⟩
theorem is_81 : cs_is 20 81 := ⟨rfl, by decide⟩
theorem is_82 : cs_is 20 82 := ⟨rfl, by decide⟩
theorem is_83 : cs_is 20 83 := ⟨rfl, by decide⟩
theorem is_84 : cs_is 20 84 := ⟨rfl, by decide⟩
theorem is_85 : cs_is 20 85 := ⟨rfl, by decide⟩
theorem is_86 : cs_is 20 86 := ⟨rfl, by decide⟩
theorem is_Sc1 {J : Nat} (h : cs_is 2 J) : cs_is 20 (J + 1) := (by decide : ∀ j, j < cs_n → cs_kd j = 2 → cs_kd (j + 1) = 20 ∧ j + 1 < cs_n) J h.2 h.1
theorem is_Sc2 {J : Nat} (h : cs_is 2 J) : cs_is 20 (J + 2) := (by decide : ∀ j, j < cs_n → cs_kd j = 2 → cs_kd (j + 2) = 20 ∧ j + 2 < cs_n) J h.2 h.1
theorem is_Sc3 {J : Nat} (h : cs_is 2 J) : cs_is 20 (J + 3) := (by decide : ∀ j, j < cs_n → cs_kd j = 2 → cs_kd (j + 3) = 20 ∧ j + 3 < cs_n) J h.2 h.1
theorem is_Ma1 {J : Nat} (h : cs_is 3 J) : cs_is 20 (J + 1) := (by decide : ∀ j, j < cs_n → cs_kd j = 3 → cs_kd (j + 1) = 20 ∧ j + 1 < cs_n) J h.2 h.1
theorem is_Ma2 {J : Nat} (h : cs_is 3 J) : cs_is 20 (J + 2) := (by decide : ∀ j, j < cs_n → cs_kd j = 3 → cs_kd (j + 2) = 20 ∧ j + 2 < cs_n) J h.2 h.1
theorem is_scr {i : Int32} (h : vp_in i 11) : cs_is 2 (8 + 4 * i.toNatClampNeg) := (by decide : ∀ k, k < 11 → cs_kd (8 + 4 * k) = 2 ∧ 8 + 4 * k < cs_n) _ (Nat.not_le.mp fun q => h (Or.inr q))
end
section
theorem cs_in0 : ∀ w ∈ u_ws "ClassStarter" cs_T0 3, w ∈ cs_all := by decide +kernel
theorem cs_t0_ok : ∀ k, k < 3 → parseFieldDescriptor (cs_T0 k).2.2.1 = some (cs_t0 k) := by decide +kernel
theorem cs_n0 : ∀ a, a < 3 → ∀ b, b < 3 → a ≠ b → (cs_T0 a).2.1 ≠ (cs_T0 b).2.1 := by decide +kernel
theorem cs_in1 : ∀ w ∈ u_ws "ClassStarter$Program" cs_T1 7, w ∈ cs_all := by decide +kernel
theorem cs_t1_ok : ∀ k, k < 7 → parseFieldDescriptor (cs_T1 k).2.2.1 = some (cs_t1 k) := by decide +kernel
theorem cs_n1 : ∀ a, a < 7 → ∀ b, b < 7 → a ≠ b → (cs_T1 a).2.1 ≠ (cs_T1 b).2.1 := by decide +kernel
theorem cs_in2 : ∀ w ∈ u_ws "ClassStarter$Script" cs_T2 6, w ∈ cs_all := by decide +kernel
theorem cs_t2_ok : ∀ k, k < 6 → parseFieldDescriptor (cs_T2 k).2.2.1 = some (cs_t2 k) := by decide +kernel
theorem cs_n2 : ∀ a, a < 6 → ∀ b, b < 6 → a ≠ b → (cs_T2 a).2.1 ≠ (cs_T2 b).2.1 := by decide +kernel
theorem cs_in3 : ∀ w ∈ u_ws "ClassStarter$Machine" cs_T3 3, w ∈ cs_all := by decide +kernel
theorem cs_t3_ok : ∀ k, k < 3 → parseFieldDescriptor (cs_T3 k).2.2.1 = some (cs_t3 k) := by decide +kernel
theorem cs_n3 : ∀ a, a < 3 → ∀ b, b < 3 → a ≠ b → (cs_T3 a).2.1 ≠ (cs_T3 b).2.1 := by decide +kernel
theorem cs_in4 : ∀ w ∈ u_ws "ClassStarter$Explorer" cs_T4 10, w ∈ cs_all := by decide +kernel
theorem cs_t4_ok : ∀ k, k < 10 → parseFieldDescriptor (cs_T4 k).2.2.1 = some (cs_t4 k) := by decide +kernel
theorem cs_n4 : ∀ a, a < 10 → ∀ b, b < 10 → a ≠ b → (cs_T4 a).2.1 ≠ (cs_T4 b).2.1 := by decide +kernel
theorem cs_in5 : ∀ w ∈ u_ws "ClassStarterModel" cs_T5 32, w ∈ cs_all := by decide +kernel
theorem cs_t5_ok : ∀ k, k < 32 → parseFieldDescriptor (cs_T5 k).2.2.1 = some (cs_t5 k) := by decide +kernel
theorem cs_n5 : ∀ a, a < 32 → ∀ b, b < 32 → a ≠ b → (cs_T5 a).2.1 ≠ (cs_T5 b).2.1 := by decide +kernel
section CSF
variable {p : Program} {l : Launch} {e : Env} {R : Room} {s : State} {m : MethodId} {args : Array Value} {below : List Frame} {meth : Method} {c : Code} {H : Heap} {locs : List Loc} {cells slots : Nat} {Q : State → Prop}
variable {cc : ByteArray} {nL pc index : Nat} {own : String} {ls : Array Slot} {rest : List Value} {D : va_G} {cA : Nat → ClassId} {A : Nat → Prop} {ad : Nat → Nat} {M : cs_Mem} {J : Nat}
theorem gf_X_program (hC : cs_Ctx p s m args c cc nL own D cA A) (hw : cs_Wd D cA ad M A s H locs) (hj : cs_is 0 J) (hlk : Cond.fieldLink own index "ClassStarter" "program" "LClassStarter$Program;" ∈ cs_all) (hdg : decode cc pc = .ok (.getfield index, 3))
    (kk : W p l e R s m args below meth c H locs cells slots Q (F0 m (pc + 3) ls (.ref (ad 1) :: rest))) : W p l e R s m args below meth c H locs cells slots Q (F0 m pc ls (.ref (ad J) :: rest)) :=
  va_get (D := D) (ci := 0) (C := "ClassStarter") (T := cs_T0) (N := 3) hC.1 hC.2.1 hC.2.2.2.2.1 cs_in0 hC.2.2.2.1 hC.2.2.2.2.2.1 hw.1 J (cs_wl_at hj.2 (cs_sg_is hj)) rfl 0 (by decide) (hC.2.2.2.2.1 _ hlk) (fun _ h => h) rfl hdg kk
theorem gf_X_machine (hC : cs_Ctx p s m args c cc nL own D cA A) (hw : cs_Wd D cA ad M A s H locs) (hj : cs_is 0 J) (hlk : Cond.fieldLink own index "ClassStarter" "machine" "LClassStarter$Machine;" ∈ cs_all) (hdg : decode cc pc = .ok (.getfield index, 3))
    (kk : W p l e R s m args below meth c H locs cells slots Q (F0 m (pc + 3) ls (.ref (ad 52) :: rest))) : W p l e R s m args below meth c H locs cells slots Q (F0 m pc ls (.ref (ad J) :: rest)) :=
  va_get (D := D) (ci := 0) (C := "ClassStarter") (T := cs_T0) (N := 3) hC.1 hC.2.1 hC.2.2.2.2.1 cs_in0 hC.2.2.2.1 hC.2.2.2.2.2.1 hw.1 J (cs_wl_at hj.2 (cs_sg_is hj)) rfl 1 (by decide) (hC.2.2.2.2.1 _ hlk) (fun _ h => h) rfl hdg kk
theorem gf_X_explorer (hC : cs_Ctx p s m args c cc nL own D cA A) (hw : cs_Wd D cA ad M A s H locs) (hj : cs_is 0 J) (hlk : Cond.fieldLink own index "ClassStarter" "explorer" "LClassStarter$Explorer;" ∈ cs_all) (hdg : decode cc pc = .ok (.getfield index, 3))
    (kk : W p l e R s m args below meth c H locs cells slots Q (F0 m (pc + 3) ls (.ref (ad 55) :: rest))) : W p l e R s m args below meth c H locs cells slots Q (F0 m pc ls (.ref (ad J) :: rest)) :=
  va_get (D := D) (ci := 0) (C := "ClassStarter") (T := cs_T0) (N := 3) hC.1 hC.2.1 hC.2.2.2.2.1 cs_in0 hC.2.2.2.1 hC.2.2.2.2.2.1 hw.1 J (cs_wl_at hj.2 (cs_sg_is hj)) rfl 2 (by decide) (hC.2.2.2.2.1 _ hlk) (fun _ h => h) rfl hdg kk
theorem gf_Pr_interfaces (hC : cs_Ctx p s m args c cc nL own D cA A) (hw : cs_Wd D cA ad M A s H locs) (hj : cs_is 1 J) (hlk : Cond.fieldLink own index "ClassStarter$Program" "interfaces" "[Z" ∈ cs_all) (hdg : decode cc pc = .ok (.getfield index, 3))
    (kk : W p l e R s m args below meth c H locs cells slots Q (F0 m (pc + 3) ls (.ref (ad 2) :: rest))) : W p l e R s m args below meth c H locs cells slots Q (F0 m pc ls (.ref (ad J) :: rest)) :=
  va_get (D := D) (ci := 1) (C := "ClassStarter$Program") (T := cs_T1) (N := 7) hC.1 hC.2.1 hC.2.2.2.2.1 cs_in1 hC.2.2.2.1 hC.2.2.2.2.2.1 hw.1 J (cs_wl_at hj.2 (cs_sg_is hj)) rfl 0 (by decide) (hC.2.2.2.2.1 _ hlk) (fun _ h => h) rfl hdg kk
theorem gf_Pr_constants (hC : cs_Ctx p s m args c cc nL own D cA A) (hw : cs_Wd D cA ad M A s H locs) (hj : cs_is 1 J) (hlk : Cond.fieldLink own index "ClassStarter$Program" "constants" "[Z" ∈ cs_all) (hdg : decode cc pc = .ok (.getfield index, 3))
    (kk : W p l e R s m args below meth c H locs cells slots Q (F0 m (pc + 3) ls (.ref (ad 3) :: rest))) : W p l e R s m args below meth c H locs cells slots Q (F0 m pc ls (.ref (ad J) :: rest)) :=
  va_get (D := D) (ci := 1) (C := "ClassStarter$Program") (T := cs_T1) (N := 7) hC.1 hC.2.1 hC.2.2.2.2.1 cs_in1 hC.2.2.2.1 hC.2.2.2.2.2.1 hw.1 J (cs_wl_at hj.2 (cs_sg_is hj)) rfl 1 (by decide) (hC.2.2.2.2.1 _ hlk) (fun _ h => h) rfl hdg kk
theorem gf_Pr_constantValues (hC : cs_Ctx p s m args c cc nL own D cA A) (hw : cs_Wd D cA ad M A s H locs) (hj : cs_is 1 J) (hlk : Cond.fieldLink own index "ClassStarter$Program" "constantValues" "[I" ∈ cs_all) (hdg : decode cc pc = .ok (.getfield index, 3))
    (kk : W p l e R s m args below meth c H locs cells slots Q (F0 m (pc + 3) ls (.ref (ad 4) :: rest))) : W p l e R s m args below meth c H locs cells slots Q (F0 m pc ls (.ref (ad J) :: rest)) :=
  va_get (D := D) (ci := 1) (C := "ClassStarter$Program") (T := cs_T1) (N := 7) hC.1 hC.2.1 hC.2.2.2.2.1 cs_in1 hC.2.2.2.1 hC.2.2.2.2.2.1 hw.1 J (cs_wl_at hj.2 (cs_sg_is hj)) rfl 2 (by decide) (hC.2.2.2.2.1 _ hlk) (fun _ h => h) rfl hdg kk
theorem gf_Pr_inherited (hC : cs_Ctx p s m args c cc nL own D cA A) (hw : cs_Wd D cA ad M A s H locs) (hj : cs_is 1 J) (hlk : Cond.fieldLink own index "ClassStarter$Program" "inherited" "[I" ∈ cs_all) (hdg : decode cc pc = .ok (.getfield index, 3))
    (kk : W p l e R s m args below meth c H locs cells slots Q (F0 m (pc + 3) ls (.ref (ad 5) :: rest))) : W p l e R s m args below meth c H locs cells slots Q (F0 m pc ls (.ref (ad J) :: rest)) :=
  va_get (D := D) (ci := 1) (C := "ClassStarter$Program") (T := cs_T1) (N := 7) hC.1 hC.2.1 hC.2.2.2.2.1 cs_in1 hC.2.2.2.1 hC.2.2.2.2.2.1 hw.1 J (cs_wl_at hj.2 (cs_sg_is hj)) rfl 3 (by decide) (hC.2.2.2.2.1 _ hlk) (fun _ h => h) rfl hdg kk
theorem gf_Pr_inheritedCounts (hC : cs_Ctx p s m args c cc nL own D cA A) (hw : cs_Wd D cA ad M A s H locs) (hj : cs_is 1 J) (hlk : Cond.fieldLink own index "ClassStarter$Program" "inheritedCounts" "[I" ∈ cs_all) (hdg : decode cc pc = .ok (.getfield index, 3))
    (kk : W p l e R s m args below meth c H locs cells slots Q (F0 m (pc + 3) ls (.ref (ad 6) :: rest))) : W p l e R s m args below meth c H locs cells slots Q (F0 m pc ls (.ref (ad J) :: rest)) :=
  va_get (D := D) (ci := 1) (C := "ClassStarter$Program") (T := cs_T1) (N := 7) hC.1 hC.2.1 hC.2.2.2.2.1 cs_in1 hC.2.2.2.1 hC.2.2.2.2.2.1 hw.1 J (cs_wl_at hj.2 (cs_sg_is hj)) rfl 4 (by decide) (hC.2.2.2.2.1 _ hlk) (fun _ h => h) rfl hdg kk
theorem gf_Pr_scripts (hC : cs_Ctx p s m args c cc nL own D cA A) (hw : cs_Wd D cA ad M A s H locs) (hj : cs_is 1 J) (hlk : Cond.fieldLink own index "ClassStarter$Program" "scripts" "[LClassStarter$Script;" ∈ cs_all) (hdg : decode cc pc = .ok (.getfield index, 3))
    (kk : W p l e R s m args below meth c H locs cells slots Q (F0 m (pc + 3) ls (.ref (ad 7) :: rest))) : W p l e R s m args below meth c H locs cells slots Q (F0 m pc ls (.ref (ad J) :: rest)) :=
  va_get (D := D) (ci := 1) (C := "ClassStarter$Program") (T := cs_T1) (N := 7) hC.1 hC.2.1 hC.2.2.2.2.1 cs_in1 hC.2.2.2.1 hC.2.2.2.2.2.1 hw.1 J (cs_wl_at hj.2 (cs_sg_is hj)) rfl 5 (by decide) (hC.2.2.2.2.1 _ hlk) (fun _ h => h) rfl hdg kk
theorem gf_Pr_classCount (hC : cs_Ctx p s m args c cc nL own D cA A) (hw : cs_Wd D cA ad M A s H locs) (hj : cs_is 1 J) (hlk : Cond.fieldLink own index "ClassStarter$Program" "classCount" "I" ∈ cs_all) (hdg : decode cc pc = .ok (.getfield index, 3))
    (kk : W p l e R s m args below meth c H locs cells slots Q (F0 m (pc + 3) ls (.int (M J 6) :: rest))) : W p l e R s m args below meth c H locs cells slots Q (F0 m pc ls (.ref (ad J) :: rest)) :=
  va_get (D := D) (ci := 1) (C := "ClassStarter$Program") (T := cs_T1) (N := 7) hC.1 hC.2.1 hC.2.2.2.2.1 cs_in1 hC.2.2.2.1 hC.2.2.2.2.2.1 hw.1 J (cs_wl_at hj.2 (cs_sg_is hj)) rfl 6 (by decide) (hC.2.2.2.2.1 _ hlk) (fun _ h => h) rfl hdg kk
theorem pf_Pr_classCount (hC : cs_Ctx p s m args c cc nL own D cA A) (hw : cs_Wd D cA ad M A s H locs) (hj : cs_is 1 J) (hlk : Cond.fieldLink own index "ClassStarter$Program" "classCount" "I" ∈ cs_all) {v : Int32} (hdg : decode cc pc = .ok (.putfield index, 3))
    (kk : ∀ (N : cs_Mem) (H1 : Heap) (locs1 : List Loc), N = cs_up M J (upd (M J) 6 v) → cs_Wd D cA ad N A s H1 locs1 → W p l e R s m args below meth c H1 locs1 cells slots Q (F0 m (pc + 3) ls rest)) : W p l e R s m args below meth c H locs cells slots Q (F0 m pc ls (.int v :: .ref (ad J) :: rest)) :=
  va_put (D := D) (ci := 1) (ty := .int) (C := "ClassStarter$Program") (T := cs_T1) (N := 7) hC.1 hC.2.1 hC.2.2.2.2.1 cs_in1 cs_t1 cs_t1_ok cs_n1 hC.2.2.2.1 hC.2.2.2.2.2.1 hw.1 hw.2.1 hw.2.2 J (cs_wl_at hj.2 (cs_sg_is hj)) rfl 6 (by decide) (hC.2.2.2.2.1 _ hlk) (fun _ h => h) rfl (by decide +kernel) rfl rfl (Nat.le_of_ble_eq_true rfl) hdg
    (fun H1 locs1 hP hD hS => kk _ H1 locs1 rfl (cs_Wd.set hj.2 (by rw [hj.1]; rfl) hP hD hS))
theorem gf_Sc_mostActions (hC : cs_Ctx p s m args c cc nL own D cA A) (hw : cs_Wd D cA ad M A s H locs) (hj : cs_is 2 J) (hlk : Cond.fieldLink own index "ClassStarter$Script" "mostActions" "I" ∈ cs_all) (hdg : decode cc pc = .ok (.getfield index, 3))
    (kk : W p l e R s m args below meth c H locs cells slots Q (F0 m (pc + 3) ls (.int (M J 0) :: rest))) : W p l e R s m args below meth c H locs cells slots Q (F0 m pc ls (.ref (ad J) :: rest)) :=
  va_get (D := D) (ci := 2) (C := "ClassStarter$Script") (T := cs_T2) (N := 6) hC.1 hC.2.1 hC.2.2.2.2.1 cs_in2 hC.2.2.2.1 hC.2.2.2.2.2.1 hw.1 J (cs_wl_at hj.2 (cs_sg_is hj)) rfl 0 (by decide) (hC.2.2.2.2.1 _ hlk) (fun _ h => h) rfl hdg kk
theorem gf_Sc_actions (hC : cs_Ctx p s m args c cc nL own D cA A) (hw : cs_Wd D cA ad M A s H locs) (hj : cs_is 2 J) (hlk : Cond.fieldLink own index "ClassStarter$Script" "actions" "[I" ∈ cs_all) (hdg : decode cc pc = .ok (.getfield index, 3))
    (kk : W p l e R s m args below meth c H locs cells slots Q (F0 m (pc + 3) ls (.ref (ad (J + 1)) :: rest))) : W p l e R s m args below meth c H locs cells slots Q (F0 m pc ls (.ref (ad J) :: rest)) :=
  va_get (D := D) (ci := 2) (C := "ClassStarter$Script") (T := cs_T2) (N := 6) hC.1 hC.2.1 hC.2.2.2.2.1 cs_in2 hC.2.2.2.1 hC.2.2.2.2.2.1 hw.1 J (cs_wl_at hj.2 (cs_sg_is hj)) rfl 1 (by decide) (hC.2.2.2.2.1 _ hlk) (fun _ h => h) rfl hdg kk
theorem gf_Sc_firstOperands (hC : cs_Ctx p s m args c cc nL own D cA A) (hw : cs_Wd D cA ad M A s H locs) (hj : cs_is 2 J) (hlk : Cond.fieldLink own index "ClassStarter$Script" "firstOperands" "[I" ∈ cs_all) (hdg : decode cc pc = .ok (.getfield index, 3))
    (kk : W p l e R s m args below meth c H locs cells slots Q (F0 m (pc + 3) ls (.ref (ad (J + 2)) :: rest))) : W p l e R s m args below meth c H locs cells slots Q (F0 m pc ls (.ref (ad J) :: rest)) :=
  va_get (D := D) (ci := 2) (C := "ClassStarter$Script") (T := cs_T2) (N := 6) hC.1 hC.2.1 hC.2.2.2.2.1 cs_in2 hC.2.2.2.1 hC.2.2.2.2.2.1 hw.1 J (cs_wl_at hj.2 (cs_sg_is hj)) rfl 2 (by decide) (hC.2.2.2.2.1 _ hlk) (fun _ h => h) rfl hdg kk
theorem gf_Sc_secondOperands (hC : cs_Ctx p s m args c cc nL own D cA A) (hw : cs_Wd D cA ad M A s H locs) (hj : cs_is 2 J) (hlk : Cond.fieldLink own index "ClassStarter$Script" "secondOperands" "[I" ∈ cs_all) (hdg : decode cc pc = .ok (.getfield index, 3))
    (kk : W p l e R s m args below meth c H locs cells slots Q (F0 m (pc + 3) ls (.ref (ad (J + 3)) :: rest))) : W p l e R s m args below meth c H locs cells slots Q (F0 m pc ls (.ref (ad J) :: rest)) :=
  va_get (D := D) (ci := 2) (C := "ClassStarter$Script") (T := cs_T2) (N := 6) hC.1 hC.2.1 hC.2.2.2.2.1 cs_in2 hC.2.2.2.1 hC.2.2.2.2.2.1 hw.1 J (cs_wl_at hj.2 (cs_sg_is hj)) rfl 3 (by decide) (hC.2.2.2.2.1 _ hlk) (fun _ h => h) rfl hdg kk
theorem gf_Sc_usesAhead (hC : cs_Ctx p s m args c cc nL own D cA A) (hw : cs_Wd D cA ad M A s H locs) (hj : cs_is 2 J) (hlk : Cond.fieldLink own index "ClassStarter$Script" "usesAhead" "I" ∈ cs_all) (hdg : decode cc pc = .ok (.getfield index, 3))
    (kk : W p l e R s m args below meth c H locs cells slots Q (F0 m (pc + 3) ls (.int (M J 4) :: rest))) : W p l e R s m args below meth c H locs cells slots Q (F0 m pc ls (.ref (ad J) :: rest)) :=
  va_get (D := D) (ci := 2) (C := "ClassStarter$Script") (T := cs_T2) (N := 6) hC.1 hC.2.1 hC.2.2.2.2.1 cs_in2 hC.2.2.2.1 hC.2.2.2.2.2.1 hw.1 J (cs_wl_at hj.2 (cs_sg_is hj)) rfl 4 (by decide) (hC.2.2.2.2.1 _ hlk) (fun _ h => h) rfl hdg kk
theorem pf_Sc_usesAhead (hC : cs_Ctx p s m args c cc nL own D cA A) (hw : cs_Wd D cA ad M A s H locs) (hj : cs_is 2 J) (hlk : Cond.fieldLink own index "ClassStarter$Script" "usesAhead" "I" ∈ cs_all) {v : Int32} (hdg : decode cc pc = .ok (.putfield index, 3))
    (kk : ∀ (N : cs_Mem) (H1 : Heap) (locs1 : List Loc), N = cs_up M J (upd (M J) 4 v) → cs_Wd D cA ad N A s H1 locs1 → W p l e R s m args below meth c H1 locs1 cells slots Q (F0 m (pc + 3) ls rest)) : W p l e R s m args below meth c H locs cells slots Q (F0 m pc ls (.int v :: .ref (ad J) :: rest)) :=
  va_put (D := D) (ci := 2) (ty := .int) (C := "ClassStarter$Script") (T := cs_T2) (N := 6) hC.1 hC.2.1 hC.2.2.2.2.1 cs_in2 cs_t2 cs_t2_ok cs_n2 hC.2.2.2.1 hC.2.2.2.2.2.1 hw.1 hw.2.1 hw.2.2 J (cs_wl_at hj.2 (cs_sg_is hj)) rfl 4 (by decide) (hC.2.2.2.2.1 _ hlk) (fun _ h => h) rfl (by decide +kernel) rfl rfl (Nat.le_of_ble_eq_true rfl) hdg
    (fun H1 locs1 hP hD hS => kk _ H1 locs1 rfl (cs_Wd.set hj.2 (by rw [hj.1]; rfl) hP hD hS))
theorem gf_Sc_length (hC : cs_Ctx p s m args c cc nL own D cA A) (hw : cs_Wd D cA ad M A s H locs) (hj : cs_is 2 J) (hlk : Cond.fieldLink own index "ClassStarter$Script" "length" "I" ∈ cs_all) (hdg : decode cc pc = .ok (.getfield index, 3))
    (kk : W p l e R s m args below meth c H locs cells slots Q (F0 m (pc + 3) ls (.int (M J 5) :: rest))) : W p l e R s m args below meth c H locs cells slots Q (F0 m pc ls (.ref (ad J) :: rest)) :=
  va_get (D := D) (ci := 2) (C := "ClassStarter$Script") (T := cs_T2) (N := 6) hC.1 hC.2.1 hC.2.2.2.2.1 cs_in2 hC.2.2.2.1 hC.2.2.2.2.2.1 hw.1 J (cs_wl_at hj.2 (cs_sg_is hj)) rfl 5 (by decide) (hC.2.2.2.2.1 _ hlk) (fun _ h => h) rfl hdg kk
theorem pf_Sc_length (hC : cs_Ctx p s m args c cc nL own D cA A) (hw : cs_Wd D cA ad M A s H locs) (hj : cs_is 2 J) (hlk : Cond.fieldLink own index "ClassStarter$Script" "length" "I" ∈ cs_all) {v : Int32} (hdg : decode cc pc = .ok (.putfield index, 3))
    (kk : ∀ (N : cs_Mem) (H1 : Heap) (locs1 : List Loc), N = cs_up M J (upd (M J) 5 v) → cs_Wd D cA ad N A s H1 locs1 → W p l e R s m args below meth c H1 locs1 cells slots Q (F0 m (pc + 3) ls rest)) : W p l e R s m args below meth c H locs cells slots Q (F0 m pc ls (.int v :: .ref (ad J) :: rest)) :=
  va_put (D := D) (ci := 2) (ty := .int) (C := "ClassStarter$Script") (T := cs_T2) (N := 6) hC.1 hC.2.1 hC.2.2.2.2.1 cs_in2 cs_t2 cs_t2_ok cs_n2 hC.2.2.2.1 hC.2.2.2.2.2.1 hw.1 hw.2.1 hw.2.2 J (cs_wl_at hj.2 (cs_sg_is hj)) rfl 5 (by decide) (hC.2.2.2.2.1 _ hlk) (fun _ h => h) rfl (by decide +kernel) rfl rfl (Nat.le_of_ble_eq_true rfl) hdg
    (fun H1 locs1 hP hD hS => kk _ H1 locs1 rfl (cs_Wd.set hj.2 (by rw [hj.1]; rfl) hP hD hS))
theorem gf_Ma_program (hC : cs_Ctx p s m args c cc nL own D cA A) (hw : cs_Wd D cA ad M A s H locs) (hj : cs_is 3 J) (hlk : Cond.fieldLink own index "ClassStarter$Machine" "program" "LClassStarter$Program;" ∈ cs_all) (hdg : decode cc pc = .ok (.getfield index, 3))
    (kk : W p l e R s m args below meth c H locs cells slots Q (F0 m (pc + 3) ls (.ref (ad 1) :: rest))) : W p l e R s m args below meth c H locs cells slots Q (F0 m pc ls (.ref (ad J) :: rest)) :=
  va_get (D := D) (ci := 3) (C := "ClassStarter$Machine") (T := cs_T3) (N := 3) hC.1 hC.2.1 hC.2.2.2.2.1 cs_in3 hC.2.2.2.1 hC.2.2.2.2.2.1 hw.1 J (cs_wl_at hj.2 (cs_sg_is hj)) rfl 0 (by decide) (hC.2.2.2.2.1 _ hlk) (fun _ h => h) rfl hdg kk
theorem gf_Ma_cells (hC : cs_Ctx p s m args c cc nL own D cA A) (hw : cs_Wd D cA ad M A s H locs) (hj : cs_is 3 J) (hlk : Cond.fieldLink own index "ClassStarter$Machine" "cells" "[I" ∈ cs_all) (hdg : decode cc pc = .ok (.getfield index, 3))
    (kk : W p l e R s m args below meth c H locs cells slots Q (F0 m (pc + 3) ls (.ref (ad (J + 1)) :: rest))) : W p l e R s m args below meth c H locs cells slots Q (F0 m pc ls (.ref (ad J) :: rest)) :=
  va_get (D := D) (ci := 3) (C := "ClassStarter$Machine") (T := cs_T3) (N := 3) hC.1 hC.2.1 hC.2.2.2.2.1 cs_in3 hC.2.2.2.1 hC.2.2.2.2.2.1 hw.1 J (cs_wl_at hj.2 (cs_sg_is hj)) rfl 1 (by decide) (hC.2.2.2.2.1 _ hlk) (fun _ h => h) rfl hdg kk
theorem gf_Ma_log (hC : cs_Ctx p s m args c cc nL own D cA A) (hw : cs_Wd D cA ad M A s H locs) (hj : cs_is 3 J) (hlk : Cond.fieldLink own index "ClassStarter$Machine" "log" "[I" ∈ cs_all) (hdg : decode cc pc = .ok (.getfield index, 3))
    (kk : W p l e R s m args below meth c H locs cells slots Q (F0 m (pc + 3) ls (.ref (ad (J + 2)) :: rest))) : W p l e R s m args below meth c H locs cells slots Q (F0 m pc ls (.ref (ad J) :: rest)) :=
  va_get (D := D) (ci := 3) (C := "ClassStarter$Machine") (T := cs_T3) (N := 3) hC.1 hC.2.1 hC.2.2.2.2.1 cs_in3 hC.2.2.2.1 hC.2.2.2.2.2.1 hw.1 J (cs_wl_at hj.2 (cs_sg_is hj)) rfl 2 (by decide) (hC.2.2.2.2.1 _ hlk) (fun _ h => h) rfl hdg kk
theorem gf_Ex_machine (hC : cs_Ctx p s m args c cc nL own D cA A) (hw : cs_Wd D cA ad M A s H locs) (hj : cs_is 4 J) (hlk : Cond.fieldLink own index "ClassStarter$Explorer" "machine" "LClassStarter$Machine;" ∈ cs_all) (hdg : decode cc pc = .ok (.getfield index, 3))
    (kk : W p l e R s m args below meth c H locs cells slots Q (F0 m (pc + 3) ls (.ref (ad 56) :: rest))) : W p l e R s m args below meth c H locs cells slots Q (F0 m pc ls (.ref (ad J) :: rest)) :=
  va_get (D := D) (ci := 4) (C := "ClassStarter$Explorer") (T := cs_T4) (N := 10) hC.1 hC.2.1 hC.2.2.2.2.1 cs_in4 hC.2.2.2.1 hC.2.2.2.2.2.1 hw.1 J (cs_wl_at hj.2 (cs_sg_is hj)) rfl 0 (by decide) (hC.2.2.2.2.1 _ hlk) (fun _ h => h) rfl hdg kk
theorem gf_Ex_kept (hC : cs_Ctx p s m args c cc nL own D cA A) (hw : cs_Wd D cA ad M A s H locs) (hj : cs_is 4 J) (hlk : Cond.fieldLink own index "ClassStarter$Explorer" "kept" "[I" ∈ cs_all) (hdg : decode cc pc = .ok (.getfield index, 3))
    (kk : W p l e R s m args below meth c H locs cells slots Q (F0 m (pc + 3) ls (.ref (ad 59) :: rest))) : W p l e R s m args below meth c H locs cells slots Q (F0 m pc ls (.ref (ad J) :: rest)) :=
  va_get (D := D) (ci := 4) (C := "ClassStarter$Explorer") (T := cs_T4) (N := 10) hC.1 hC.2.1 hC.2.2.2.2.1 cs_in4 hC.2.2.2.1 hC.2.2.2.2.2.1 hw.1 J (cs_wl_at hj.2 (cs_sg_is hj)) rfl 1 (by decide) (hC.2.2.2.2.1 _ hlk) (fun _ h => h) rfl hdg kk
theorem gf_Ex_untried (hC : cs_Ctx p s m args c cc nL own D cA A) (hw : cs_Wd D cA ad M A s H locs) (hj : cs_is 4 J) (hlk : Cond.fieldLink own index "ClassStarter$Explorer" "untried" "[I" ∈ cs_all) (hdg : decode cc pc = .ok (.getfield index, 3))
    (kk : W p l e R s m args below meth c H locs cells slots Q (F0 m (pc + 3) ls (.ref (ad 60) :: rest))) : W p l e R s m args below meth c H locs cells slots Q (F0 m pc ls (.ref (ad J) :: rest)) :=
  va_get (D := D) (ci := 4) (C := "ClassStarter$Explorer") (T := cs_T4) (N := 10) hC.1 hC.2.1 hC.2.2.2.2.1 cs_in4 hC.2.2.2.1 hC.2.2.2.2.2.1 hw.1 J (cs_wl_at hj.2 (cs_sg_is hj)) rfl 2 (by decide) (hC.2.2.2.2.1 _ hlk) (fun _ h => h) rfl hdg kk
theorem gf_Ex_found (hC : cs_Ctx p s m args c cc nL own D cA A) (hw : cs_Wd D cA ad M A s H locs) (hj : cs_is 4 J) (hlk : Cond.fieldLink own index "ClassStarter$Explorer" "found" "[I" ∈ cs_all) (hdg : decode cc pc = .ok (.getfield index, 3))
    (kk : W p l e R s m args below meth c H locs cells slots Q (F0 m (pc + 3) ls (.ref (ad 61) :: rest))) : W p l e R s m args below meth c H locs cells slots Q (F0 m pc ls (.ref (ad J) :: rest)) :=
  va_get (D := D) (ci := 4) (C := "ClassStarter$Explorer") (T := cs_T4) (N := 10) hC.1 hC.2.1 hC.2.2.2.2.1 cs_in4 hC.2.2.2.1 hC.2.2.2.2.2.1 hw.1 J (cs_wl_at hj.2 (cs_sg_is hj)) rfl 3 (by decide) (hC.2.2.2.2.1 _ hlk) (fun _ h => h) rfl hdg kk
theorem gf_Ex_foundCount (hC : cs_Ctx p s m args c cc nL own D cA A) (hw : cs_Wd D cA ad M A s H locs) (hj : cs_is 4 J) (hlk : Cond.fieldLink own index "ClassStarter$Explorer" "foundCount" "I" ∈ cs_all) (hdg : decode cc pc = .ok (.getfield index, 3))
    (kk : W p l e R s m args below meth c H locs cells slots Q (F0 m (pc + 3) ls (.int (M J 4) :: rest))) : W p l e R s m args below meth c H locs cells slots Q (F0 m pc ls (.ref (ad J) :: rest)) :=
  va_get (D := D) (ci := 4) (C := "ClassStarter$Explorer") (T := cs_T4) (N := 10) hC.1 hC.2.1 hC.2.2.2.2.1 cs_in4 hC.2.2.2.1 hC.2.2.2.2.2.1 hw.1 J (cs_wl_at hj.2 (cs_sg_is hj)) rfl 4 (by decide) (hC.2.2.2.2.1 _ hlk) (fun _ h => h) rfl hdg kk
theorem pf_Ex_foundCount (hC : cs_Ctx p s m args c cc nL own D cA A) (hw : cs_Wd D cA ad M A s H locs) (hj : cs_is 4 J) (hlk : Cond.fieldLink own index "ClassStarter$Explorer" "foundCount" "I" ∈ cs_all) {v : Int32} (hdg : decode cc pc = .ok (.putfield index, 3))
    (kk : ∀ (N : cs_Mem) (H1 : Heap) (locs1 : List Loc), N = cs_up M J (upd (M J) 4 v) → cs_Wd D cA ad N A s H1 locs1 → W p l e R s m args below meth c H1 locs1 cells slots Q (F0 m (pc + 3) ls rest)) : W p l e R s m args below meth c H locs cells slots Q (F0 m pc ls (.int v :: .ref (ad J) :: rest)) :=
  va_put (D := D) (ci := 4) (ty := .int) (C := "ClassStarter$Explorer") (T := cs_T4) (N := 10) hC.1 hC.2.1 hC.2.2.2.2.1 cs_in4 cs_t4 cs_t4_ok cs_n4 hC.2.2.2.1 hC.2.2.2.2.2.1 hw.1 hw.2.1 hw.2.2 J (cs_wl_at hj.2 (cs_sg_is hj)) rfl 4 (by decide) (hC.2.2.2.2.1 _ hlk) (fun _ h => h) rfl (by decide +kernel) rfl rfl (Nat.le_of_ble_eq_true rfl) hdg
    (fun H1 locs1 hP hD hS => kk _ H1 locs1 rfl (cs_Wd.set hj.2 (by rw [hj.1]; rfl) hP hD hS))
theorem gf_Ex_orders (hC : cs_Ctx p s m args c cc nL own D cA A) (hw : cs_Wd D cA ad M A s H locs) (hj : cs_is 4 J) (hlk : Cond.fieldLink own index "ClassStarter$Explorer" "orders" "I" ∈ cs_all) (hdg : decode cc pc = .ok (.getfield index, 3))
    (kk : W p l e R s m args below meth c H locs cells slots Q (F0 m (pc + 3) ls (.int (M J 5) :: rest))) : W p l e R s m args below meth c H locs cells slots Q (F0 m pc ls (.ref (ad J) :: rest)) :=
  va_get (D := D) (ci := 4) (C := "ClassStarter$Explorer") (T := cs_T4) (N := 10) hC.1 hC.2.1 hC.2.2.2.2.1 cs_in4 hC.2.2.2.1 hC.2.2.2.2.2.1 hw.1 J (cs_wl_at hj.2 (cs_sg_is hj)) rfl 5 (by decide) (hC.2.2.2.2.1 _ hlk) (fun _ h => h) rfl hdg kk
theorem pf_Ex_orders (hC : cs_Ctx p s m args c cc nL own D cA A) (hw : cs_Wd D cA ad M A s H locs) (hj : cs_is 4 J) (hlk : Cond.fieldLink own index "ClassStarter$Explorer" "orders" "I" ∈ cs_all) {v : Int32} (hdg : decode cc pc = .ok (.putfield index, 3))
    (kk : ∀ (N : cs_Mem) (H1 : Heap) (locs1 : List Loc), N = cs_up M J (upd (M J) 5 v) → cs_Wd D cA ad N A s H1 locs1 → W p l e R s m args below meth c H1 locs1 cells slots Q (F0 m (pc + 3) ls rest)) : W p l e R s m args below meth c H locs cells slots Q (F0 m pc ls (.int v :: .ref (ad J) :: rest)) :=
  va_put (D := D) (ci := 4) (ty := .int) (C := "ClassStarter$Explorer") (T := cs_T4) (N := 10) hC.1 hC.2.1 hC.2.2.2.2.1 cs_in4 cs_t4 cs_t4_ok cs_n4 hC.2.2.2.1 hC.2.2.2.2.2.1 hw.1 hw.2.1 hw.2.2 J (cs_wl_at hj.2 (cs_sg_is hj)) rfl 5 (by decide) (hC.2.2.2.2.1 _ hlk) (fun _ h => h) rfl (by decide +kernel) rfl rfl (Nat.le_of_ble_eq_true rfl) hdg
    (fun H1 locs1 hP hD hS => kk _ H1 locs1 rfl (cs_Wd.set hj.2 (by rw [hj.1]; rfl) hP hD hS))
theorem gf_Ex_stuckOrders (hC : cs_Ctx p s m args c cc nL own D cA A) (hw : cs_Wd D cA ad M A s H locs) (hj : cs_is 4 J) (hlk : Cond.fieldLink own index "ClassStarter$Explorer" "stuckOrders" "I" ∈ cs_all) (hdg : decode cc pc = .ok (.getfield index, 3))
    (kk : W p l e R s m args below meth c H locs cells slots Q (F0 m (pc + 3) ls (.int (M J 6) :: rest))) : W p l e R s m args below meth c H locs cells slots Q (F0 m pc ls (.ref (ad J) :: rest)) :=
  va_get (D := D) (ci := 4) (C := "ClassStarter$Explorer") (T := cs_T4) (N := 10) hC.1 hC.2.1 hC.2.2.2.2.1 cs_in4 hC.2.2.2.1 hC.2.2.2.2.2.1 hw.1 J (cs_wl_at hj.2 (cs_sg_is hj)) rfl 6 (by decide) (hC.2.2.2.2.1 _ hlk) (fun _ h => h) rfl hdg kk
theorem pf_Ex_stuckOrders (hC : cs_Ctx p s m args c cc nL own D cA A) (hw : cs_Wd D cA ad M A s H locs) (hj : cs_is 4 J) (hlk : Cond.fieldLink own index "ClassStarter$Explorer" "stuckOrders" "I" ∈ cs_all) {v : Int32} (hdg : decode cc pc = .ok (.putfield index, 3))
    (kk : ∀ (N : cs_Mem) (H1 : Heap) (locs1 : List Loc), N = cs_up M J (upd (M J) 6 v) → cs_Wd D cA ad N A s H1 locs1 → W p l e R s m args below meth c H1 locs1 cells slots Q (F0 m (pc + 3) ls rest)) : W p l e R s m args below meth c H locs cells slots Q (F0 m pc ls (.int v :: .ref (ad J) :: rest)) :=
  va_put (D := D) (ci := 4) (ty := .int) (C := "ClassStarter$Explorer") (T := cs_T4) (N := 10) hC.1 hC.2.1 hC.2.2.2.2.1 cs_in4 cs_t4 cs_t4_ok cs_n4 hC.2.2.2.1 hC.2.2.2.2.2.1 hw.1 hw.2.1 hw.2.2 J (cs_wl_at hj.2 (cs_sg_is hj)) rfl 6 (by decide) (hC.2.2.2.2.1 _ hlk) (fun _ h => h) rfl (by decide +kernel) rfl rfl (Nat.le_of_ble_eq_true rfl) hdg
    (fun H1 locs1 hP hD hS => kk _ H1 locs1 rfl (cs_Wd.set hj.2 (by rw [hj.1]; rfl) hP hD hS))
theorem gf_Ex_depth (hC : cs_Ctx p s m args c cc nL own D cA A) (hw : cs_Wd D cA ad M A s H locs) (hj : cs_is 4 J) (hlk : Cond.fieldLink own index "ClassStarter$Explorer" "depth" "I" ∈ cs_all) (hdg : decode cc pc = .ok (.getfield index, 3))
    (kk : W p l e R s m args below meth c H locs cells slots Q (F0 m (pc + 3) ls (.int (M J 7) :: rest))) : W p l e R s m args below meth c H locs cells slots Q (F0 m pc ls (.ref (ad J) :: rest)) :=
  va_get (D := D) (ci := 4) (C := "ClassStarter$Explorer") (T := cs_T4) (N := 10) hC.1 hC.2.1 hC.2.2.2.2.1 cs_in4 hC.2.2.2.1 hC.2.2.2.2.2.1 hw.1 J (cs_wl_at hj.2 (cs_sg_is hj)) rfl 7 (by decide) (hC.2.2.2.2.1 _ hlk) (fun _ h => h) rfl hdg kk
theorem pf_Ex_depth (hC : cs_Ctx p s m args c cc nL own D cA A) (hw : cs_Wd D cA ad M A s H locs) (hj : cs_is 4 J) (hlk : Cond.fieldLink own index "ClassStarter$Explorer" "depth" "I" ∈ cs_all) {v : Int32} (hdg : decode cc pc = .ok (.putfield index, 3))
    (kk : ∀ (N : cs_Mem) (H1 : Heap) (locs1 : List Loc), N = cs_up M J (upd (M J) 7 v) → cs_Wd D cA ad N A s H1 locs1 → W p l e R s m args below meth c H1 locs1 cells slots Q (F0 m (pc + 3) ls rest)) : W p l e R s m args below meth c H locs cells slots Q (F0 m pc ls (.int v :: .ref (ad J) :: rest)) :=
  va_put (D := D) (ci := 4) (ty := .int) (C := "ClassStarter$Explorer") (T := cs_T4) (N := 10) hC.1 hC.2.1 hC.2.2.2.2.1 cs_in4 cs_t4 cs_t4_ok cs_n4 hC.2.2.2.1 hC.2.2.2.2.2.1 hw.1 hw.2.1 hw.2.2 J (cs_wl_at hj.2 (cs_sg_is hj)) rfl 7 (by decide) (hC.2.2.2.2.1 _ hlk) (fun _ h => h) rfl (by decide +kernel) rfl rfl (Nat.le_of_ble_eq_true rfl) hdg
    (fun H1 locs1 hP hD hS => kk _ H1 locs1 rfl (cs_Wd.set hj.2 (by rw [hj.1]; rfl) hP hD hS))
theorem gf_Ex_isKnown (hC : cs_Ctx p s m args c cc nL own D cA A) (hw : cs_Wd D cA ad M A s H locs) (hj : cs_is 4 J) (hlk : Cond.fieldLink own index "ClassStarter$Explorer" "isKnown" "Z" ∈ cs_all) (hdg : decode cc pc = .ok (.getfield index, 3))
    (kk : W p l e R s m args below meth c H locs cells slots Q (F0 m (pc + 3) ls (.int (M J 8) :: rest))) : W p l e R s m args below meth c H locs cells slots Q (F0 m pc ls (.ref (ad J) :: rest)) :=
  va_get (D := D) (ci := 4) (C := "ClassStarter$Explorer") (T := cs_T4) (N := 10) hC.1 hC.2.1 hC.2.2.2.2.1 cs_in4 hC.2.2.2.1 hC.2.2.2.2.2.1 hw.1 J (cs_wl_at hj.2 (cs_sg_is hj)) rfl 8 (by decide) (hC.2.2.2.2.1 _ hlk) (fun _ h => h) rfl hdg kk
theorem pf_Ex_isKnown (hC : cs_Ctx p s m args c cc nL own D cA A) (hw : cs_Wd D cA ad M A s H locs) (hj : cs_is 4 J) (hlk : Cond.fieldLink own index "ClassStarter$Explorer" "isKnown" "Z" ∈ cs_all) {v : Int32} (hn : v = 0 ∨ v = 1) (hdg : decode cc pc = .ok (.putfield index, 3))
    (kk : ∀ (N : cs_Mem) (H1 : Heap) (locs1 : List Loc), N = cs_up M J (upd (M J) 8 v) → cs_Wd D cA ad N A s H1 locs1 → W p l e R s m args below meth c H1 locs1 cells slots Q (F0 m (pc + 3) ls rest)) : W p l e R s m args below meth c H locs cells slots Q (F0 m pc ls (.int v :: .ref (ad J) :: rest)) :=
  va_put (D := D) (ci := 4) (ty := .boolean) (C := "ClassStarter$Explorer") (T := cs_T4) (N := 10) hC.1 hC.2.1 hC.2.2.2.2.1 cs_in4 cs_t4 cs_t4_ok cs_n4 hC.2.2.2.1 hC.2.2.2.2.2.1 hw.1 hw.2.1 hw.2.2 J (cs_wl_at hj.2 (cs_sg_is hj)) rfl 8 (by decide) (hC.2.2.2.2.1 _ hlk) (fun _ h => h) rfl (by decide +kernel) (cs_nz hn) (cs_fz hn) (Nat.le_of_ble_eq_true rfl) hdg
    (fun H1 locs1 hP hD hS => kk _ H1 locs1 rfl (cs_Wd.set hj.2 (by rw [hj.1]; rfl) hP hD hS))
theorem gf_Ex_answer (hC : cs_Ctx p s m args c cc nL own D cA A) (hw : cs_Wd D cA ad M A s H locs) (hj : cs_is 4 J) (hlk : Cond.fieldLink own index "ClassStarter$Explorer" "answer" "I" ∈ cs_all) (hdg : decode cc pc = .ok (.getfield index, 3))
    (kk : W p l e R s m args below meth c H locs cells slots Q (F0 m (pc + 3) ls (.int (M J 9) :: rest))) : W p l e R s m args below meth c H locs cells slots Q (F0 m pc ls (.ref (ad J) :: rest)) :=
  va_get (D := D) (ci := 4) (C := "ClassStarter$Explorer") (T := cs_T4) (N := 10) hC.1 hC.2.1 hC.2.2.2.2.1 cs_in4 hC.2.2.2.1 hC.2.2.2.2.2.1 hw.1 J (cs_wl_at hj.2 (cs_sg_is hj)) rfl 9 (by decide) (hC.2.2.2.2.1 _ hlk) (fun _ h => h) rfl hdg kk
theorem pf_Ex_answer (hC : cs_Ctx p s m args c cc nL own D cA A) (hw : cs_Wd D cA ad M A s H locs) (hj : cs_is 4 J) (hlk : Cond.fieldLink own index "ClassStarter$Explorer" "answer" "I" ∈ cs_all) {v : Int32} (hdg : decode cc pc = .ok (.putfield index, 3))
    (kk : ∀ (N : cs_Mem) (H1 : Heap) (locs1 : List Loc), N = cs_up M J (upd (M J) 9 v) → cs_Wd D cA ad N A s H1 locs1 → W p l e R s m args below meth c H1 locs1 cells slots Q (F0 m (pc + 3) ls rest)) : W p l e R s m args below meth c H locs cells slots Q (F0 m pc ls (.int v :: .ref (ad J) :: rest)) :=
  va_put (D := D) (ci := 4) (ty := .int) (C := "ClassStarter$Explorer") (T := cs_T4) (N := 10) hC.1 hC.2.1 hC.2.2.2.2.1 cs_in4 cs_t4 cs_t4_ok cs_n4 hC.2.2.2.1 hC.2.2.2.2.2.1 hw.1 hw.2.1 hw.2.2 J (cs_wl_at hj.2 (cs_sg_is hj)) rfl 9 (by decide) (hC.2.2.2.2.1 _ hlk) (fun _ h => h) rfl (by decide +kernel) rfl rfl (Nat.le_of_ble_eq_true rfl) hdg
    (fun H1 locs1 hP hD hS => kk _ H1 locs1 rfl (cs_Wd.set hj.2 (by rw [hj.1]; rfl) hP hD hS))
theorem gf_Mo_classes (hC : cs_Ctx p s m args c cc nL own D cA A) (hw : cs_Wd D cA ad M A s H locs) (hj : cs_is 5 J) (hlk : Cond.fieldLink own index "ClassStarterModel" "classes" "I" ∈ cs_all) (hdg : decode cc pc = .ok (.getfield index, 3))
    (kk : W p l e R s m args below meth c H locs cells slots Q (F0 m (pc + 3) ls (.int (M J 0) :: rest))) : W p l e R s m args below meth c H locs cells slots Q (F0 m pc ls (.ref (ad J) :: rest)) :=
  va_get (D := D) (ci := 5) (C := "ClassStarterModel") (T := cs_T5) (N := 32) hC.1 hC.2.1 hC.2.2.2.2.1 cs_in5 hC.2.2.2.1 hC.2.2.2.2.2.1 hw.1 J (cs_wl_at hj.2 (cs_sg_is hj)) rfl 0 (by decide) (hC.2.2.2.2.1 _ hlk) (fun _ h => h) rfl hdg kk
theorem pf_Mo_classes (hC : cs_Ctx p s m args c cc nL own D cA A) (hw : cs_Wd D cA ad M A s H locs) (hj : cs_is 5 J) (hlk : Cond.fieldLink own index "ClassStarterModel" "classes" "I" ∈ cs_all) {v : Int32} (hdg : decode cc pc = .ok (.putfield index, 3))
    (kk : ∀ (N : cs_Mem) (H1 : Heap) (locs1 : List Loc), N = cs_up M J (upd (M J) 0 v) → cs_Wd D cA ad N A s H1 locs1 → W p l e R s m args below meth c H1 locs1 cells slots Q (F0 m (pc + 3) ls rest)) : W p l e R s m args below meth c H locs cells slots Q (F0 m pc ls (.int v :: .ref (ad J) :: rest)) :=
  va_put (D := D) (ci := 5) (ty := .int) (C := "ClassStarterModel") (T := cs_T5) (N := 32) hC.1 hC.2.1 hC.2.2.2.2.1 cs_in5 cs_t5 cs_t5_ok cs_n5 hC.2.2.2.1 hC.2.2.2.2.2.1 hw.1 hw.2.1 hw.2.2 J (cs_wl_at hj.2 (cs_sg_is hj)) rfl 0 (by decide) (hC.2.2.2.2.1 _ hlk) (fun _ h => h) rfl (by decide +kernel) rfl rfl (Nat.le_of_ble_eq_true rfl) hdg
    (fun H1 locs1 hP hD hS => kk _ H1 locs1 rfl (cs_Wd.set hj.2 (by rw [hj.1]; rfl) hP hD hS))
theorem gf_Mo_parent (hC : cs_Ctx p s m args c cc nL own D cA A) (hw : cs_Wd D cA ad M A s H locs) (hj : cs_is 5 J) (hlk : Cond.fieldLink own index "ClassStarterModel" "parent" "[I" ∈ cs_all) (hdg : decode cc pc = .ok (.getfield index, 3))
    (kk : W p l e R s m args below meth c H locs cells slots Q (F0 m (pc + 3) ls (.ref (ad 63) :: rest))) : W p l e R s m args below meth c H locs cells slots Q (F0 m pc ls (.ref (ad J) :: rest)) :=
  va_get (D := D) (ci := 5) (C := "ClassStarterModel") (T := cs_T5) (N := 32) hC.1 hC.2.1 hC.2.2.2.2.1 cs_in5 hC.2.2.2.1 hC.2.2.2.2.2.1 hw.1 J (cs_wl_at hj.2 (cs_sg_is hj)) rfl 1 (by decide) (hC.2.2.2.2.1 _ hlk) (fun _ h => h) rfl hdg kk
theorem gf_Mo_constants (hC : cs_Ctx p s m args c cc nL own D cA A) (hw : cs_Wd D cA ad M A s H locs) (hj : cs_is 5 J) (hlk : Cond.fieldLink own index "ClassStarterModel" "constants" "[I" ∈ cs_all) (hdg : decode cc pc = .ok (.getfield index, 3))
    (kk : W p l e R s m args below meth c H locs cells slots Q (F0 m (pc + 3) ls (.ref (ad 64) :: rest))) : W p l e R s m args below meth c H locs cells slots Q (F0 m pc ls (.ref (ad J) :: rest)) :=
  va_get (D := D) (ci := 5) (C := "ClassStarterModel") (T := cs_T5) (N := 32) hC.1 hC.2.1 hC.2.2.2.2.1 cs_in5 hC.2.2.2.1 hC.2.2.2.2.2.1 hw.1 J (cs_wl_at hj.2 (cs_sg_is hj)) rfl 2 (by decide) (hC.2.2.2.2.1 _ hlk) (fun _ h => h) rfl hdg kk
theorem gf_Mo_interfaces (hC : cs_Ctx p s m args c cc nL own D cA A) (hw : cs_Wd D cA ad M A s H locs) (hj : cs_is 5 J) (hlk : Cond.fieldLink own index "ClassStarterModel" "interfaces" "[I" ∈ cs_all) (hdg : decode cc pc = .ok (.getfield index, 3))
    (kk : W p l e R s m args below meth c H locs cells slots Q (F0 m (pc + 3) ls (.ref (ad 65) :: rest))) : W p l e R s m args below meth c H locs cells slots Q (F0 m pc ls (.ref (ad J) :: rest)) :=
  va_get (D := D) (ci := 5) (C := "ClassStarterModel") (T := cs_T5) (N := 32) hC.1 hC.2.1 hC.2.2.2.2.1 cs_in5 hC.2.2.2.1 hC.2.2.2.2.2.1 hw.1 J (cs_wl_at hj.2 (cs_sg_is hj)) rfl 3 (by decide) (hC.2.2.2.2.1 _ hlk) (fun _ h => h) rfl hdg kk
theorem gf_Mo_actions (hC : cs_Ctx p s m args c cc nL own D cA A) (hw : cs_Wd D cA ad M A s H locs) (hj : cs_is 5 J) (hlk : Cond.fieldLink own index "ClassStarterModel" "actions" "[I" ∈ cs_all) (hdg : decode cc pc = .ok (.getfield index, 3))
    (kk : W p l e R s m args below meth c H locs cells slots Q (F0 m (pc + 3) ls (.ref (ad 66) :: rest))) : W p l e R s m args below meth c H locs cells slots Q (F0 m pc ls (.ref (ad J) :: rest)) :=
  va_get (D := D) (ci := 5) (C := "ClassStarterModel") (T := cs_T5) (N := 32) hC.1 hC.2.1 hC.2.2.2.2.1 cs_in5 hC.2.2.2.1 hC.2.2.2.2.2.1 hw.1 J (cs_wl_at hj.2 (cs_sg_is hj)) rfl 4 (by decide) (hC.2.2.2.2.1 _ hlk) (fun _ h => h) rfl hdg kk
theorem gf_Mo_actionCount (hC : cs_Ctx p s m args c cc nL own D cA A) (hw : cs_Wd D cA ad M A s H locs) (hj : cs_is 5 J) (hlk : Cond.fieldLink own index "ClassStarterModel" "actionCount" "[I" ∈ cs_all) (hdg : decode cc pc = .ok (.getfield index, 3))
    (kk : W p l e R s m args below meth c H locs cells slots Q (F0 m (pc + 3) ls (.ref (ad 67) :: rest))) : W p l e R s m args below meth c H locs cells slots Q (F0 m pc ls (.ref (ad J) :: rest)) :=
  va_get (D := D) (ci := 5) (C := "ClassStarterModel") (T := cs_T5) (N := 32) hC.1 hC.2.1 hC.2.2.2.2.1 cs_in5 hC.2.2.2.1 hC.2.2.2.2.2.1 hw.1 J (cs_wl_at hj.2 (cs_sg_is hj)) rfl 5 (by decide) (hC.2.2.2.2.1 _ hlk) (fun _ h => h) rfl hdg kk
theorem gf_Mo_isInterface (hC : cs_Ctx p s m args c cc nL own D cA A) (hw : cs_Wd D cA ad M A s H locs) (hj : cs_is 5 J) (hlk : Cond.fieldLink own index "ClassStarterModel" "isInterface" "[Z" ∈ cs_all) (hdg : decode cc pc = .ok (.getfield index, 3))
    (kk : W p l e R s m args below meth c H locs cells slots Q (F0 m (pc + 3) ls (.ref (ad 68) :: rest))) : W p l e R s m args below meth c H locs cells slots Q (F0 m pc ls (.ref (ad J) :: rest)) :=
  va_get (D := D) (ci := 5) (C := "ClassStarterModel") (T := cs_T5) (N := 32) hC.1 hC.2.1 hC.2.2.2.2.1 cs_in5 hC.2.2.2.1 hC.2.2.2.2.2.1 hw.1 J (cs_wl_at hj.2 (cs_sg_is hj)) rfl 6 (by decide) (hC.2.2.2.2.1 _ hlk) (fun _ h => h) rfl hdg kk
theorem gf_Mo_constant (hC : cs_Ctx p s m args c cc nL own D cA A) (hw : cs_Wd D cA ad M A s H locs) (hj : cs_is 5 J) (hlk : Cond.fieldLink own index "ClassStarterModel" "constant" "[Z" ∈ cs_all) (hdg : decode cc pc = .ok (.getfield index, 3))
    (kk : W p l e R s m args below meth c H locs cells slots Q (F0 m (pc + 3) ls (.ref (ad 69) :: rest))) : W p l e R s m args below meth c H locs cells slots Q (F0 m pc ls (.ref (ad J) :: rest)) :=
  va_get (D := D) (ci := 5) (C := "ClassStarterModel") (T := cs_T5) (N := 32) hC.1 hC.2.1 hC.2.2.2.2.1 cs_in5 hC.2.2.2.1 hC.2.2.2.2.2.1 hw.1 J (cs_wl_at hj.2 (cs_sg_is hj)) rfl 7 (by decide) (hC.2.2.2.2.1 _ hlk) (fun _ h => h) rfl hdg kk
theorem gf_Mo_iface (hC : cs_Ctx p s m args c cc nL own D cA A) (hw : cs_Wd D cA ad M A s H locs) (hj : cs_is 5 J) (hlk : Cond.fieldLink own index "ClassStarterModel" "iface" "[I" ∈ cs_all) (hdg : decode cc pc = .ok (.getfield index, 3))
    (kk : W p l e R s m args below meth c H locs cells slots Q (F0 m (pc + 3) ls (.ref (ad 70) :: rest))) : W p l e R s m args below meth c H locs cells slots Q (F0 m pc ls (.ref (ad J) :: rest)) :=
  va_get (D := D) (ci := 5) (C := "ClassStarterModel") (T := cs_T5) (N := 32) hC.1 hC.2.1 hC.2.2.2.2.1 cs_in5 hC.2.2.2.1 hC.2.2.2.2.2.1 hw.1 J (cs_wl_at hj.2 (cs_sg_is hj)) rfl 8 (by decide) (hC.2.2.2.2.1 _ hlk) (fun _ h => h) rfl hdg kk
theorem gf_Mo_defaulted (hC : cs_Ctx p s m args c cc nL own D cA A) (hw : cs_Wd D cA ad M A s H locs) (hj : cs_is 5 J) (hlk : Cond.fieldLink own index "ClassStarterModel" "defaulted" "[Z" ∈ cs_all) (hdg : decode cc pc = .ok (.getfield index, 3))
    (kk : W p l e R s m args below meth c H locs cells slots Q (F0 m (pc + 3) ls (.ref (ad 71) :: rest))) : W p l e R s m args below meth c H locs cells slots Q (F0 m pc ls (.ref (ad J) :: rest)) :=
  va_get (D := D) (ci := 5) (C := "ClassStarterModel") (T := cs_T5) (N := 32) hC.1 hC.2.1 hC.2.2.2.2.1 cs_in5 hC.2.2.2.1 hC.2.2.2.2.2.1 hw.1 J (cs_wl_at hj.2 (cs_sg_is hj)) rfl 9 (by decide) (hC.2.2.2.2.1 _ hlk) (fun _ h => h) rfl hdg kk
theorem gf_Mo_act (hC : cs_Ctx p s m args c cc nL own D cA A) (hw : cs_Wd D cA ad M A s H locs) (hj : cs_is 5 J) (hlk : Cond.fieldLink own index "ClassStarterModel" "act" "[I" ∈ cs_all) (hdg : decode cc pc = .ok (.getfield index, 3))
    (kk : W p l e R s m args below meth c H locs cells slots Q (F0 m (pc + 3) ls (.ref (ad 72) :: rest))) : W p l e R s m args below meth c H locs cells slots Q (F0 m pc ls (.ref (ad J) :: rest)) :=
  va_get (D := D) (ci := 5) (C := "ClassStarterModel") (T := cs_T5) (N := 32) hC.1 hC.2.1 hC.2.2.2.2.1 cs_in5 hC.2.2.2.1 hC.2.2.2.2.2.1 hw.1 J (cs_wl_at hj.2 (cs_sg_is hj)) rfl 10 (by decide) (hC.2.2.2.2.1 _ hlk) (fun _ h => h) rfl hdg kk
theorem gf_Mo_actA (hC : cs_Ctx p s m args c cc nL own D cA A) (hw : cs_Wd D cA ad M A s H locs) (hj : cs_is 5 J) (hlk : Cond.fieldLink own index "ClassStarterModel" "actA" "[I" ∈ cs_all) (hdg : decode cc pc = .ok (.getfield index, 3))
    (kk : W p l e R s m args below meth c H locs cells slots Q (F0 m (pc + 3) ls (.ref (ad 73) :: rest))) : W p l e R s m args below meth c H locs cells slots Q (F0 m pc ls (.ref (ad J) :: rest)) :=
  va_get (D := D) (ci := 5) (C := "ClassStarterModel") (T := cs_T5) (N := 32) hC.1 hC.2.1 hC.2.2.2.2.1 cs_in5 hC.2.2.2.1 hC.2.2.2.2.2.1 hw.1 J (cs_wl_at hj.2 (cs_sg_is hj)) rfl 11 (by decide) (hC.2.2.2.2.1 _ hlk) (fun _ h => h) rfl hdg kk
theorem gf_Mo_actB (hC : cs_Ctx p s m args c cc nL own D cA A) (hw : cs_Wd D cA ad M A s H locs) (hj : cs_is 5 J) (hlk : Cond.fieldLink own index "ClassStarterModel" "actB" "[I" ∈ cs_all) (hdg : decode cc pc = .ok (.getfield index, 3))
    (kk : W p l e R s m args below meth c H locs cells slots Q (F0 m (pc + 3) ls (.ref (ad 74) :: rest))) : W p l e R s m args below meth c H locs cells slots Q (F0 m pc ls (.ref (ad J) :: rest)) :=
  va_get (D := D) (ci := 5) (C := "ClassStarterModel") (T := cs_T5) (N := 32) hC.1 hC.2.1 hC.2.2.2.2.1 cs_in5 hC.2.2.2.1 hC.2.2.2.2.2.1 hw.1 J (cs_wl_at hj.2 (cs_sg_is hj)) rfl 12 (by decide) (hC.2.2.2.2.1 _ hlk) (fun _ h => h) rfl hdg kk
theorem gf_Mo_planCount (hC : cs_Ctx p s m args c cc nL own D cA A) (hw : cs_Wd D cA ad M A s H locs) (hj : cs_is 5 J) (hlk : Cond.fieldLink own index "ClassStarterModel" "planCount" "[I" ∈ cs_all) (hdg : decode cc pc = .ok (.getfield index, 3))
    (kk : W p l e R s m args below meth c H locs cells slots Q (F0 m (pc + 3) ls (.ref (ad 75) :: rest))) : W p l e R s m args below meth c H locs cells slots Q (F0 m pc ls (.ref (ad J) :: rest)) :=
  va_get (D := D) (ci := 5) (C := "ClassStarterModel") (T := cs_T5) (N := 32) hC.1 hC.2.1 hC.2.2.2.2.1 cs_in5 hC.2.2.2.1 hC.2.2.2.2.2.1 hw.1 J (cs_wl_at hj.2 (cs_sg_is hj)) rfl 13 (by decide) (hC.2.2.2.2.1 _ hlk) (fun _ h => h) rfl hdg kk
theorem gf_Mo_made (hC : cs_Ctx p s m args c cc nL own D cA A) (hw : cs_Wd D cA ad M A s H locs) (hj : cs_is 5 J) (hlk : Cond.fieldLink own index "ClassStarterModel" "made" "[I" ∈ cs_all) (hdg : decode cc pc = .ok (.getfield index, 3))
    (kk : W p l e R s m args below meth c H locs cells slots Q (F0 m (pc + 3) ls (.ref (ad 76) :: rest))) : W p l e R s m args below meth c H locs cells slots Q (F0 m pc ls (.ref (ad J) :: rest)) :=
  va_get (D := D) (ci := 5) (C := "ClassStarterModel") (T := cs_T5) (N := 32) hC.1 hC.2.1 hC.2.2.2.2.1 cs_in5 hC.2.2.2.1 hC.2.2.2.2.2.1 hw.1 J (cs_wl_at hj.2 (cs_sg_is hj)) rfl 14 (by decide) (hC.2.2.2.2.1 _ hlk) (fun _ h => h) rfl hdg kk
theorem gf_Mo_steps (hC : cs_Ctx p s m args c cc nL own D cA A) (hw : cs_Wd D cA ad M A s H locs) (hj : cs_is 5 J) (hlk : Cond.fieldLink own index "ClassStarterModel" "steps" "I" ∈ cs_all) (hdg : decode cc pc = .ok (.getfield index, 3))
    (kk : W p l e R s m args below meth c H locs cells slots Q (F0 m (pc + 3) ls (.int (M J 15) :: rest))) : W p l e R s m args below meth c H locs cells slots Q (F0 m pc ls (.ref (ad J) :: rest)) :=
  va_get (D := D) (ci := 5) (C := "ClassStarterModel") (T := cs_T5) (N := 32) hC.1 hC.2.1 hC.2.2.2.2.1 cs_in5 hC.2.2.2.1 hC.2.2.2.2.2.1 hw.1 J (cs_wl_at hj.2 (cs_sg_is hj)) rfl 15 (by decide) (hC.2.2.2.2.1 _ hlk) (fun _ h => h) rfl hdg kk
theorem pf_Mo_steps (hC : cs_Ctx p s m args c cc nL own D cA A) (hw : cs_Wd D cA ad M A s H locs) (hj : cs_is 5 J) (hlk : Cond.fieldLink own index "ClassStarterModel" "steps" "I" ∈ cs_all) {v : Int32} (hdg : decode cc pc = .ok (.putfield index, 3))
    (kk : ∀ (N : cs_Mem) (H1 : Heap) (locs1 : List Loc), N = cs_up M J (upd (M J) 15 v) → cs_Wd D cA ad N A s H1 locs1 → W p l e R s m args below meth c H1 locs1 cells slots Q (F0 m (pc + 3) ls rest)) : W p l e R s m args below meth c H locs cells slots Q (F0 m pc ls (.int v :: .ref (ad J) :: rest)) :=
  va_put (D := D) (ci := 5) (ty := .int) (C := "ClassStarterModel") (T := cs_T5) (N := 32) hC.1 hC.2.1 hC.2.2.2.2.1 cs_in5 cs_t5 cs_t5_ok cs_n5 hC.2.2.2.1 hC.2.2.2.2.2.1 hw.1 hw.2.1 hw.2.2 J (cs_wl_at hj.2 (cs_sg_is hj)) rfl 15 (by decide) (hC.2.2.2.2.1 _ hlk) (fun _ h => h) rfl (by decide +kernel) rfl rfl (Nat.le_of_ble_eq_true rfl) hdg
    (fun H1 locs1 hP hD hS => kk _ H1 locs1 rfl (cs_Wd.set hj.2 (by rw [hj.1]; rfl) hP hD hS))
theorem gf_Mo_begun (hC : cs_Ctx p s m args c cc nL own D cA A) (hw : cs_Wd D cA ad M A s H locs) (hj : cs_is 5 J) (hlk : Cond.fieldLink own index "ClassStarterModel" "begun" "Z" ∈ cs_all) (hdg : decode cc pc = .ok (.getfield index, 3))
    (kk : W p l e R s m args below meth c H locs cells slots Q (F0 m (pc + 3) ls (.int (M J 16) :: rest))) : W p l e R s m args below meth c H locs cells slots Q (F0 m pc ls (.ref (ad J) :: rest)) :=
  va_get (D := D) (ci := 5) (C := "ClassStarterModel") (T := cs_T5) (N := 32) hC.1 hC.2.1 hC.2.2.2.2.1 cs_in5 hC.2.2.2.1 hC.2.2.2.2.2.1 hw.1 J (cs_wl_at hj.2 (cs_sg_is hj)) rfl 16 (by decide) (hC.2.2.2.2.1 _ hlk) (fun _ h => h) rfl hdg kk
theorem pf_Mo_begun (hC : cs_Ctx p s m args c cc nL own D cA A) (hw : cs_Wd D cA ad M A s H locs) (hj : cs_is 5 J) (hlk : Cond.fieldLink own index "ClassStarterModel" "begun" "Z" ∈ cs_all) {v : Int32} (hn : v = 0 ∨ v = 1) (hdg : decode cc pc = .ok (.putfield index, 3))
    (kk : ∀ (N : cs_Mem) (H1 : Heap) (locs1 : List Loc), N = cs_up M J (upd (M J) 16 v) → cs_Wd D cA ad N A s H1 locs1 → W p l e R s m args below meth c H1 locs1 cells slots Q (F0 m (pc + 3) ls rest)) : W p l e R s m args below meth c H locs cells slots Q (F0 m pc ls (.int v :: .ref (ad J) :: rest)) :=
  va_put (D := D) (ci := 5) (ty := .boolean) (C := "ClassStarterModel") (T := cs_T5) (N := 32) hC.1 hC.2.1 hC.2.2.2.2.1 cs_in5 cs_t5 cs_t5_ok cs_n5 hC.2.2.2.1 hC.2.2.2.2.2.1 hw.1 hw.2.1 hw.2.2 J (cs_wl_at hj.2 (cs_sg_is hj)) rfl 16 (by decide) (hC.2.2.2.2.1 _ hlk) (fun _ h => h) rfl (by decide +kernel) (cs_nz hn) (cs_fz hn) (Nat.le_of_ble_eq_true rfl) hdg
    (fun H1 locs1 hP hD hS => kk _ H1 locs1 rfl (cs_Wd.set hj.2 (by rw [hj.1]; rfl) hP hD hS))
theorem gf_Mo_tried (hC : cs_Ctx p s m args c cc nL own D cA A) (hw : cs_Wd D cA ad M A s H locs) (hj : cs_is 5 J) (hlk : Cond.fieldLink own index "ClassStarterModel" "tried" "[I" ∈ cs_all) (hdg : decode cc pc = .ok (.getfield index, 3))
    (kk : W p l e R s m args below meth c H locs cells slots Q (F0 m (pc + 3) ls (.ref (ad 77) :: rest))) : W p l e R s m args below meth c H locs cells slots Q (F0 m pc ls (.ref (ad J) :: rest)) :=
  va_get (D := D) (ci := 5) (C := "ClassStarterModel") (T := cs_T5) (N := 32) hC.1 hC.2.1 hC.2.2.2.2.1 cs_in5 hC.2.2.2.1 hC.2.2.2.2.2.1 hw.1 J (cs_wl_at hj.2 (cs_sg_is hj)) rfl 17 (by decide) (hC.2.2.2.2.1 _ hlk) (fun _ h => h) rfl hdg kk
theorem gf_Mo_state (hC : cs_Ctx p s m args c cc nL own D cA A) (hw : cs_Wd D cA ad M A s H locs) (hj : cs_is 5 J) (hlk : Cond.fieldLink own index "ClassStarterModel" "state" "[I" ∈ cs_all) (hdg : decode cc pc = .ok (.getfield index, 3))
    (kk : W p l e R s m args below meth c H locs cells slots Q (F0 m (pc + 3) ls (.ref (ad 78) :: rest))) : W p l e R s m args below meth c H locs cells slots Q (F0 m pc ls (.ref (ad J) :: rest)) :=
  va_get (D := D) (ci := 5) (C := "ClassStarterModel") (T := cs_T5) (N := 32) hC.1 hC.2.1 hC.2.2.2.2.1 cs_in5 hC.2.2.2.1 hC.2.2.2.2.2.1 hw.1 J (cs_wl_at hj.2 (cs_sg_is hj)) rfl 18 (by decide) (hC.2.2.2.2.1 _ hlk) (fun _ h => h) rfl hdg kk
theorem gf_Mo_statics (hC : cs_Ctx p s m args c cc nL own D cA A) (hw : cs_Wd D cA ad M A s H locs) (hj : cs_is 5 J) (hlk : Cond.fieldLink own index "ClassStarterModel" "statics" "[I" ∈ cs_all) (hdg : decode cc pc = .ok (.getfield index, 3))
    (kk : W p l e R s m args below meth c H locs cells slots Q (F0 m (pc + 3) ls (.ref (ad 79) :: rest))) : W p l e R s m args below meth c H locs cells slots Q (F0 m pc ls (.ref (ad J) :: rest)) :=
  va_get (D := D) (ci := 5) (C := "ClassStarterModel") (T := cs_T5) (N := 32) hC.1 hC.2.1 hC.2.2.2.2.1 cs_in5 hC.2.2.2.1 hC.2.2.2.2.2.1 hw.1 J (cs_wl_at hj.2 (cs_sg_is hj)) rfl 19 (by decide) (hC.2.2.2.2.1 _ hlk) (fun _ h => h) rfl hdg kk
theorem gf_Mo_frame (hC : cs_Ctx p s m args c cc nL own D cA A) (hw : cs_Wd D cA ad M A s H locs) (hj : cs_is 5 J) (hlk : Cond.fieldLink own index "ClassStarterModel" "frame" "[I" ∈ cs_all) (hdg : decode cc pc = .ok (.getfield index, 3))
    (kk : W p l e R s m args below meth c H locs cells slots Q (F0 m (pc + 3) ls (.ref (ad 80) :: rest))) : W p l e R s m args below meth c H locs cells slots Q (F0 m pc ls (.ref (ad J) :: rest)) :=
  va_get (D := D) (ci := 5) (C := "ClassStarterModel") (T := cs_T5) (N := 32) hC.1 hC.2.1 hC.2.2.2.2.1 cs_in5 hC.2.2.2.1 hC.2.2.2.2.2.1 hw.1 J (cs_wl_at hj.2 (cs_sg_is hj)) rfl 20 (by decide) (hC.2.2.2.2.1 _ hlk) (fun _ h => h) rfl hdg kk
theorem gf_Mo_part (hC : cs_Ctx p s m args c cc nL own D cA A) (hw : cs_Wd D cA ad M A s H locs) (hj : cs_is 5 J) (hlk : Cond.fieldLink own index "ClassStarterModel" "part" "[I" ∈ cs_all) (hdg : decode cc pc = .ok (.getfield index, 3))
    (kk : W p l e R s m args below meth c H locs cells slots Q (F0 m (pc + 3) ls (.ref (ad 81) :: rest))) : W p l e R s m args below meth c H locs cells slots Q (F0 m pc ls (.ref (ad J) :: rest)) :=
  va_get (D := D) (ci := 5) (C := "ClassStarterModel") (T := cs_T5) (N := 32) hC.1 hC.2.1 hC.2.2.2.2.1 cs_in5 hC.2.2.2.1 hC.2.2.2.2.2.1 hw.1 J (cs_wl_at hj.2 (cs_sg_is hj)) rfl 21 (by decide) (hC.2.2.2.2.1 _ hlk) (fun _ h => h) rfl hdg kk
theorem gf_Mo_frames (hC : cs_Ctx p s m args c cc nL own D cA A) (hw : cs_Wd D cA ad M A s H locs) (hj : cs_is 5 J) (hlk : Cond.fieldLink own index "ClassStarterModel" "frames" "[I" ∈ cs_all) (hdg : decode cc pc = .ok (.getfield index, 3))
    (kk : W p l e R s m args below meth c H locs cells slots Q (F0 m (pc + 3) ls (.ref (ad 82) :: rest))) : W p l e R s m args below meth c H locs cells slots Q (F0 m pc ls (.ref (ad J) :: rest)) :=
  va_get (D := D) (ci := 5) (C := "ClassStarterModel") (T := cs_T5) (N := 32) hC.1 hC.2.1 hC.2.2.2.2.1 cs_in5 hC.2.2.2.1 hC.2.2.2.2.2.1 hw.1 J (cs_wl_at hj.2 (cs_sg_is hj)) rfl 22 (by decide) (hC.2.2.2.2.1 _ hlk) (fun _ h => h) rfl hdg kk
theorem gf_Mo_pending (hC : cs_Ctx p s m args c cc nL own D cA A) (hw : cs_Wd D cA ad M A s H locs) (hj : cs_is 5 J) (hlk : Cond.fieldLink own index "ClassStarterModel" "pending" "[I" ∈ cs_all) (hdg : decode cc pc = .ok (.getfield index, 3))
    (kk : W p l e R s m args below meth c H locs cells slots Q (F0 m (pc + 3) ls (.ref (ad 83) :: rest))) : W p l e R s m args below meth c H locs cells slots Q (F0 m pc ls (.ref (ad J) :: rest)) :=
  va_get (D := D) (ci := 5) (C := "ClassStarterModel") (T := cs_T5) (N := 32) hC.1 hC.2.1 hC.2.2.2.2.1 cs_in5 hC.2.2.2.1 hC.2.2.2.2.2.1 hw.1 J (cs_wl_at hj.2 (cs_sg_is hj)) rfl 23 (by decide) (hC.2.2.2.2.1 _ hlk) (fun _ h => h) rfl hdg kk
theorem gf_Mo_ended (hC : cs_Ctx p s m args c cc nL own D cA A) (hw : cs_Wd D cA ad M A s H locs) (hj : cs_is 5 J) (hlk : Cond.fieldLink own index "ClassStarterModel" "ended" "[I" ∈ cs_all) (hdg : decode cc pc = .ok (.getfield index, 3))
    (kk : W p l e R s m args below meth c H locs cells slots Q (F0 m (pc + 3) ls (.ref (ad 84) :: rest))) : W p l e R s m args below meth c H locs cells slots Q (F0 m pc ls (.ref (ad J) :: rest)) :=
  va_get (D := D) (ci := 5) (C := "ClassStarterModel") (T := cs_T5) (N := 32) hC.1 hC.2.1 hC.2.2.2.2.1 cs_in5 hC.2.2.2.1 hC.2.2.2.2.2.1 hw.1 J (cs_wl_at hj.2 (cs_sg_is hj)) rfl 24 (by decide) (hC.2.2.2.2.1 _ hlk) (fun _ h => h) rfl hdg kk
theorem gf_Mo_log (hC : cs_Ctx p s m args c cc nL own D cA A) (hw : cs_Wd D cA ad M A s H locs) (hj : cs_is 5 J) (hlk : Cond.fieldLink own index "ClassStarterModel" "log" "[I" ∈ cs_all) (hdg : decode cc pc = .ok (.getfield index, 3))
    (kk : W p l e R s m args below meth c H locs cells slots Q (F0 m (pc + 3) ls (.ref (ad 85) :: rest))) : W p l e R s m args below meth c H locs cells slots Q (F0 m pc ls (.ref (ad J) :: rest)) :=
  va_get (D := D) (ci := 5) (C := "ClassStarterModel") (T := cs_T5) (N := 32) hC.1 hC.2.1 hC.2.2.2.2.1 cs_in5 hC.2.2.2.1 hC.2.2.2.2.2.1 hw.1 J (cs_wl_at hj.2 (cs_sg_is hj)) rfl 25 (by decide) (hC.2.2.2.2.1 _ hlk) (fun _ h => h) rfl hdg kk
theorem gf_Mo_logs (hC : cs_Ctx p s m args c cc nL own D cA A) (hw : cs_Wd D cA ad M A s H locs) (hj : cs_is 5 J) (hlk : Cond.fieldLink own index "ClassStarterModel" "logs" "I" ∈ cs_all) (hdg : decode cc pc = .ok (.getfield index, 3))
    (kk : W p l e R s m args below meth c H locs cells slots Q (F0 m (pc + 3) ls (.int (M J 26) :: rest))) : W p l e R s m args below meth c H locs cells slots Q (F0 m pc ls (.ref (ad J) :: rest)) :=
  va_get (D := D) (ci := 5) (C := "ClassStarterModel") (T := cs_T5) (N := 32) hC.1 hC.2.1 hC.2.2.2.2.1 cs_in5 hC.2.2.2.1 hC.2.2.2.2.2.1 hw.1 J (cs_wl_at hj.2 (cs_sg_is hj)) rfl 26 (by decide) (hC.2.2.2.2.1 _ hlk) (fun _ h => h) rfl hdg kk
theorem pf_Mo_logs (hC : cs_Ctx p s m args c cc nL own D cA A) (hw : cs_Wd D cA ad M A s H locs) (hj : cs_is 5 J) (hlk : Cond.fieldLink own index "ClassStarterModel" "logs" "I" ∈ cs_all) {v : Int32} (hdg : decode cc pc = .ok (.putfield index, 3))
    (kk : ∀ (N : cs_Mem) (H1 : Heap) (locs1 : List Loc), N = cs_up M J (upd (M J) 26 v) → cs_Wd D cA ad N A s H1 locs1 → W p l e R s m args below meth c H1 locs1 cells slots Q (F0 m (pc + 3) ls rest)) : W p l e R s m args below meth c H locs cells slots Q (F0 m pc ls (.int v :: .ref (ad J) :: rest)) :=
  va_put (D := D) (ci := 5) (ty := .int) (C := "ClassStarterModel") (T := cs_T5) (N := 32) hC.1 hC.2.1 hC.2.2.2.2.1 cs_in5 cs_t5 cs_t5_ok cs_n5 hC.2.2.2.1 hC.2.2.2.2.2.1 hw.1 hw.2.1 hw.2.2 J (cs_wl_at hj.2 (cs_sg_is hj)) rfl 26 (by decide) (hC.2.2.2.2.1 _ hlk) (fun _ h => h) rfl (by decide +kernel) rfl rfl (Nat.le_of_ble_eq_true rfl) hdg
    (fun H1 locs1 hP hD hS => kk _ H1 locs1 rfl (cs_Wd.set hj.2 (by rw [hj.1]; rfl) hP hD hS))
theorem gf_Mo_outcomes (hC : cs_Ctx p s m args c cc nL own D cA A) (hw : cs_Wd D cA ad M A s H locs) (hj : cs_is 5 J) (hlk : Cond.fieldLink own index "ClassStarterModel" "outcomes" "[I" ∈ cs_all) (hdg : decode cc pc = .ok (.getfield index, 3))
    (kk : W p l e R s m args below meth c H locs cells slots Q (F0 m (pc + 3) ls (.ref (ad 86) :: rest))) : W p l e R s m args below meth c H locs cells slots Q (F0 m pc ls (.ref (ad J) :: rest)) :=
  va_get (D := D) (ci := 5) (C := "ClassStarterModel") (T := cs_T5) (N := 32) hC.1 hC.2.1 hC.2.2.2.2.1 cs_in5 hC.2.2.2.1 hC.2.2.2.2.2.1 hw.1 J (cs_wl_at hj.2 (cs_sg_is hj)) rfl 27 (by decide) (hC.2.2.2.2.1 _ hlk) (fun _ h => h) rfl hdg kk
theorem gf_Mo_found (hC : cs_Ctx p s m args c cc nL own D cA A) (hw : cs_Wd D cA ad M A s H locs) (hj : cs_is 5 J) (hlk : Cond.fieldLink own index "ClassStarterModel" "found" "I" ∈ cs_all) (hdg : decode cc pc = .ok (.getfield index, 3))
    (kk : W p l e R s m args below meth c H locs cells slots Q (F0 m (pc + 3) ls (.int (M J 28) :: rest))) : W p l e R s m args below meth c H locs cells slots Q (F0 m pc ls (.ref (ad J) :: rest)) :=
  va_get (D := D) (ci := 5) (C := "ClassStarterModel") (T := cs_T5) (N := 32) hC.1 hC.2.1 hC.2.2.2.2.1 cs_in5 hC.2.2.2.1 hC.2.2.2.2.2.1 hw.1 J (cs_wl_at hj.2 (cs_sg_is hj)) rfl 28 (by decide) (hC.2.2.2.2.1 _ hlk) (fun _ h => h) rfl hdg kk
theorem pf_Mo_found (hC : cs_Ctx p s m args c cc nL own D cA A) (hw : cs_Wd D cA ad M A s H locs) (hj : cs_is 5 J) (hlk : Cond.fieldLink own index "ClassStarterModel" "found" "I" ∈ cs_all) {v : Int32} (hdg : decode cc pc = .ok (.putfield index, 3))
    (kk : ∀ (N : cs_Mem) (H1 : Heap) (locs1 : List Loc), N = cs_up M J (upd (M J) 28 v) → cs_Wd D cA ad N A s H1 locs1 → W p l e R s m args below meth c H1 locs1 cells slots Q (F0 m (pc + 3) ls rest)) : W p l e R s m args below meth c H locs cells slots Q (F0 m pc ls (.int v :: .ref (ad J) :: rest)) :=
  va_put (D := D) (ci := 5) (ty := .int) (C := "ClassStarterModel") (T := cs_T5) (N := 32) hC.1 hC.2.1 hC.2.2.2.2.1 cs_in5 cs_t5 cs_t5_ok cs_n5 hC.2.2.2.1 hC.2.2.2.2.2.1 hw.1 hw.2.1 hw.2.2 J (cs_wl_at hj.2 (cs_sg_is hj)) rfl 28 (by decide) (hC.2.2.2.2.1 _ hlk) (fun _ h => h) rfl (by decide +kernel) rfl rfl (Nat.le_of_ble_eq_true rfl) hdg
    (fun H1 locs1 hP hD hS => kk _ H1 locs1 rfl (cs_Wd.set hj.2 (by rw [hj.1]; rfl) hP hD hS))
theorem gf_Mo_orders (hC : cs_Ctx p s m args c cc nL own D cA A) (hw : cs_Wd D cA ad M A s H locs) (hj : cs_is 5 J) (hlk : Cond.fieldLink own index "ClassStarterModel" "orders" "I" ∈ cs_all) (hdg : decode cc pc = .ok (.getfield index, 3))
    (kk : W p l e R s m args below meth c H locs cells slots Q (F0 m (pc + 3) ls (.int (M J 29) :: rest))) : W p l e R s m args below meth c H locs cells slots Q (F0 m pc ls (.ref (ad J) :: rest)) :=
  va_get (D := D) (ci := 5) (C := "ClassStarterModel") (T := cs_T5) (N := 32) hC.1 hC.2.1 hC.2.2.2.2.1 cs_in5 hC.2.2.2.1 hC.2.2.2.2.2.1 hw.1 J (cs_wl_at hj.2 (cs_sg_is hj)) rfl 29 (by decide) (hC.2.2.2.2.1 _ hlk) (fun _ h => h) rfl hdg kk
theorem pf_Mo_orders (hC : cs_Ctx p s m args c cc nL own D cA A) (hw : cs_Wd D cA ad M A s H locs) (hj : cs_is 5 J) (hlk : Cond.fieldLink own index "ClassStarterModel" "orders" "I" ∈ cs_all) {v : Int32} (hdg : decode cc pc = .ok (.putfield index, 3))
    (kk : ∀ (N : cs_Mem) (H1 : Heap) (locs1 : List Loc), N = cs_up M J (upd (M J) 29 v) → cs_Wd D cA ad N A s H1 locs1 → W p l e R s m args below meth c H1 locs1 cells slots Q (F0 m (pc + 3) ls rest)) : W p l e R s m args below meth c H locs cells slots Q (F0 m pc ls (.int v :: .ref (ad J) :: rest)) :=
  va_put (D := D) (ci := 5) (ty := .int) (C := "ClassStarterModel") (T := cs_T5) (N := 32) hC.1 hC.2.1 hC.2.2.2.2.1 cs_in5 cs_t5 cs_t5_ok cs_n5 hC.2.2.2.1 hC.2.2.2.2.2.1 hw.1 hw.2.1 hw.2.2 J (cs_wl_at hj.2 (cs_sg_is hj)) rfl 29 (by decide) (hC.2.2.2.2.1 _ hlk) (fun _ h => h) rfl (by decide +kernel) rfl rfl (Nat.le_of_ble_eq_true rfl) hdg
    (fun H1 locs1 hP hD hS => kk _ H1 locs1 rfl (cs_Wd.set hj.2 (by rw [hj.1]; rfl) hP hD hS))
theorem gf_Mo_stuckOrders (hC : cs_Ctx p s m args c cc nL own D cA A) (hw : cs_Wd D cA ad M A s H locs) (hj : cs_is 5 J) (hlk : Cond.fieldLink own index "ClassStarterModel" "stuckOrders" "I" ∈ cs_all) (hdg : decode cc pc = .ok (.getfield index, 3))
    (kk : W p l e R s m args below meth c H locs cells slots Q (F0 m (pc + 3) ls (.int (M J 30) :: rest))) : W p l e R s m args below meth c H locs cells slots Q (F0 m pc ls (.ref (ad J) :: rest)) :=
  va_get (D := D) (ci := 5) (C := "ClassStarterModel") (T := cs_T5) (N := 32) hC.1 hC.2.1 hC.2.2.2.2.1 cs_in5 hC.2.2.2.1 hC.2.2.2.2.2.1 hw.1 J (cs_wl_at hj.2 (cs_sg_is hj)) rfl 30 (by decide) (hC.2.2.2.2.1 _ hlk) (fun _ h => h) rfl hdg kk
theorem pf_Mo_stuckOrders (hC : cs_Ctx p s m args c cc nL own D cA A) (hw : cs_Wd D cA ad M A s H locs) (hj : cs_is 5 J) (hlk : Cond.fieldLink own index "ClassStarterModel" "stuckOrders" "I" ∈ cs_all) {v : Int32} (hdg : decode cc pc = .ok (.putfield index, 3))
    (kk : ∀ (N : cs_Mem) (H1 : Heap) (locs1 : List Loc), N = cs_up M J (upd (M J) 30 v) → cs_Wd D cA ad N A s H1 locs1 → W p l e R s m args below meth c H1 locs1 cells slots Q (F0 m (pc + 3) ls rest)) : W p l e R s m args below meth c H locs cells slots Q (F0 m pc ls (.int v :: .ref (ad J) :: rest)) :=
  va_put (D := D) (ci := 5) (ty := .int) (C := "ClassStarterModel") (T := cs_T5) (N := 32) hC.1 hC.2.1 hC.2.2.2.2.1 cs_in5 cs_t5 cs_t5_ok cs_n5 hC.2.2.2.1 hC.2.2.2.2.2.1 hw.1 hw.2.1 hw.2.2 J (cs_wl_at hj.2 (cs_sg_is hj)) rfl 30 (by decide) (hC.2.2.2.2.1 _ hlk) (fun _ h => h) rfl (by decide +kernel) rfl rfl (Nat.le_of_ble_eq_true rfl) hdg
    (fun H1 locs1 hP hD hS => kk _ H1 locs1 rfl (cs_Wd.set hj.2 (by rw [hj.1]; rfl) hP hD hS))
theorem gf_Mo_explored (hC : cs_Ctx p s m args c cc nL own D cA A) (hw : cs_Wd D cA ad M A s H locs) (hj : cs_is 5 J) (hlk : Cond.fieldLink own index "ClassStarterModel" "explored" "Z" ∈ cs_all) (hdg : decode cc pc = .ok (.getfield index, 3))
    (kk : W p l e R s m args below meth c H locs cells slots Q (F0 m (pc + 3) ls (.int (M J 31) :: rest))) : W p l e R s m args below meth c H locs cells slots Q (F0 m pc ls (.ref (ad J) :: rest)) :=
  va_get (D := D) (ci := 5) (C := "ClassStarterModel") (T := cs_T5) (N := 32) hC.1 hC.2.1 hC.2.2.2.2.1 cs_in5 hC.2.2.2.1 hC.2.2.2.2.2.1 hw.1 J (cs_wl_at hj.2 (cs_sg_is hj)) rfl 31 (by decide) (hC.2.2.2.2.1 _ hlk) (fun _ h => h) rfl hdg kk
theorem pf_Mo_explored (hC : cs_Ctx p s m args c cc nL own D cA A) (hw : cs_Wd D cA ad M A s H locs) (hj : cs_is 5 J) (hlk : Cond.fieldLink own index "ClassStarterModel" "explored" "Z" ∈ cs_all) {v : Int32} (hn : v = 0 ∨ v = 1) (hdg : decode cc pc = .ok (.putfield index, 3))
    (kk : ∀ (N : cs_Mem) (H1 : Heap) (locs1 : List Loc), N = cs_up M J (upd (M J) 31 v) → cs_Wd D cA ad N A s H1 locs1 → W p l e R s m args below meth c H1 locs1 cells slots Q (F0 m (pc + 3) ls rest)) : W p l e R s m args below meth c H locs cells slots Q (F0 m pc ls (.int v :: .ref (ad J) :: rest)) :=
  va_put (D := D) (ci := 5) (ty := .boolean) (C := "ClassStarterModel") (T := cs_T5) (N := 32) hC.1 hC.2.1 hC.2.2.2.2.1 cs_in5 cs_t5 cs_t5_ok cs_n5 hC.2.2.2.1 hC.2.2.2.2.2.1 hw.1 hw.2.1 hw.2.2 J (cs_wl_at hj.2 (cs_sg_is hj)) rfl 31 (by decide) (hC.2.2.2.2.1 _ hlk) (fun _ h => h) rfl (by decide +kernel) (cs_nz hn) (cs_fz hn) (Nat.le_of_ble_eq_true rfl) hdg
    (fun H1 locs1 hP hD hS => kk _ H1 locs1 rfl (cs_Wd.set hj.2 (by rw [hj.1]; rfl) hP hD hS))
theorem cs_aald22 (hC : cs_Ctx p s m args c cc nL own D cA A) (hw : cs_Wd D cA ad M A s H locs) (hj : cs_is 22 J) {i : Int32} (hi : vp_in i 11) (hdg : decode cc pc = .ok (.aaload, 1))
    (kk : W p l e R s m args below meth c H locs cells slots Q (F0 m (pc + 1) ls (.ref (ad (8 + 4 * i.toNatClampNeg)) :: rest))) : W p l e R s m args below meth c H locs cells slots Q (F0 m pc ls (.int i :: .ref (ad J) :: rest)) :=
  va_aldq hC.1 hC.2.1 hC.2.2.2.2.2.1 hw.1 J 2 (cs_wl_at hj.2 (cs_sg_is hj)) rfl hi hdg kk
end CSF
theorem cw_Ma_25 : cs_CwS "ClassStarter$Machine" 25 ⟨"java/util/Arrays", "fill", "([II)V"⟩ prog_12_method_103_code 4 (none : Option Jvm.ClassFile.FieldType) 2 := ⟨wd_127, wd_128, wd_47, wd_129, by decide +kernel⟩
theorem cw_Sc_37 : cs_CwV "ClassStarter$Script" 37 "ClassStarter$Script" ⟨"ClassStarter$Script", "write", "(IIII)V"⟩ prog_6_method_4_code 5 (none : Option Jvm.ClassFile.FieldType) 4 := ⟨wd_210, wd_212, wd_0, wd_45, wd_213, by decide +kernel⟩
theorem cw_Pr_41 : cs_CwV "ClassStarter$Program" 41 "ClassStarter$Program" ⟨"ClassStarter$Program", "isDeclared", "(I)Z"⟩ prog_5_method_3_code 2 (some .boolean) 1 := ⟨wd_199, wd_200, wd_201, wd_44, wd_202, by decide +kernel⟩
theorem cw_Pr_45 : cs_CwV "ClassStarter$Program" 45 "ClassStarter$Script" ⟨"ClassStarter$Script", "addUseAhead", "(I)V"⟩ prog_6_method_2_code 3 (none : Option Jvm.ClassFile.FieldType) 1 := ⟨wd_203, wd_204, wd_205, wd_45, wd_206, by decide +kernel⟩
theorem cw_X_130 : cs_CwV "ClassStarter" 130 "ClassStarter$Explorer" ⟨"ClassStarter$Explorer", "forget", "()V"⟩ prog_2_method_6_code 1 (none : Option Jvm.ClassFile.FieldType) 0 := ⟨wd_218, wd_219, wd_220, wd_48, wd_221, by decide +kernel⟩
theorem cw_X_34 : cs_CwV "ClassStarter" 34 "ClassStarter$Machine" ⟨"ClassStarter$Machine", "hasBegun", "()Z"⟩ prog_4_method_6_code 1 (some .boolean) 0 := ⟨wd_191, wd_192, wd_193, wd_46, wd_194, by decide +kernel⟩
theorem cw_X_38 : cs_CwV "ClassStarter" 38 "ClassStarter$Program" ⟨"ClassStarter$Program", "addClass", "(IZZI)I"⟩ prog_5_method_6_code 6 (some .int) 4 := ⟨wd_195, wd_196, wd_197, wd_44, wd_198, by decide +kernel⟩
theorem cw_X_42 : cs_CwV "ClassStarter" 42 "ClassStarter" ⟨"ClassStarter", "changed", "(I)I"⟩ prog_1_method_17_code 2 (some .int) 1 := ⟨wd_214, wd_216, wd_1, wd_43, wd_217, by decide +kernel⟩
theorem cw_Pr_49 : cs_CwV "ClassStarter$Program" 49 "ClassStarter$Program" ⟨"ClassStarter$Program", "inherits", "(II)Z"⟩ prog_5_method_8_code 4 (some .boolean) 2 := ⟨wd_230, wd_232, wd_2, wd_44, wd_233, by decide +kernel⟩
theorem cw_X_46 : cs_CwV "ClassStarter" 46 "ClassStarter$Program" ⟨"ClassStarter$Program", "addInterface", "(IIZ)I"⟩ prog_5_method_7_code 4 (some .int) 3 := ⟨wd_226, wd_227, wd_228, wd_44, wd_229, by decide +kernel⟩
theorem cw_Pr_64 : cs_CwS "ClassStarter$Program" 64 ⟨"ClassStarter$Program", "isBelow", "(II)Z"⟩ prog_5_method_12_code 2 (some .boolean) 2 := ⟨wd_245, wd_246, wd_44, wd_247, by decide +kernel⟩
theorem cw_Pr_53 : cs_CwS "ClassStarter$Program" 53 ⟨"ClassStarter$Program", "isAction", "(III)Z"⟩ prog_5_method_11_code 3 (some .boolean) 3 := ⟨wd_242, wd_243, wd_44, wd_244, by decide +kernel⟩
theorem cw_Pr_57 : cs_CwV "ClassStarter$Program" 57 "ClassStarter$Script" ⟨"ClassStarter$Script", "addLast", "(III)I"⟩ prog_6_method_3_code 4 (some .int) 3 := ⟨wd_248, wd_249, wd_250, wd_45, wd_251, by decide +kernel⟩
theorem cw_X_50 : cs_CwV "ClassStarter" 50 "ClassStarter$Program" ⟨"ClassStarter$Program", "addAction", "(IIII)I"⟩ prog_5_method_9_code 5 (some .int) 4 := ⟨wd_238, wd_239, wd_240, wd_44, wd_241, by decide +kernel⟩
theorem cw_Pr_61 : cs_CwN "ClassStarter$Program" 61 ⟨"ClassStarter", "isThread", "(I)Z"⟩ "ClassStarter" prog_1_method_18_code 1 (some .boolean) 1 := ⟨rfl, wd_261, wd_43, wd_262, by decide +kernel⟩
theorem cw_X_54 : cs_CwV "ClassStarter" 54 "ClassStarter$Program" ⟨"ClassStarter$Program", "addPlanned", "(III)I"⟩ prog_5_method_10_code 5 (some .int) 3 := ⟨wd_256, wd_257, wd_258, wd_44, wd_259, by decide +kernel⟩
theorem cw_Ma_53 : cs_CwV "ClassStarter$Machine" 53 "ClassStarter$Program" ⟨"ClassStarter$Program", "script", "(I)LClassStarter$Script;"⟩ prog_5_method_4_code 2 (some (.object "ClassStarter$Script")) 1 := ⟨wd_284, wd_285, wd_286, wd_44, wd_287, by decide +kernel⟩
theorem cw_Ma_57 : cs_CwV "ClassStarter$Machine" 57 "ClassStarter$Script" ⟨"ClassStarter$Script", "length", "()I"⟩ prog_6_method_5_code 1 (some .int) 0 := ⟨wd_288, wd_289, wd_290, wd_45, wd_291, by decide +kernel⟩
theorem cw_Ma_43 : cs_CwV "ClassStarter$Machine" 43 "ClassStarter$Machine" ⟨"ClassStarter$Machine", "isInClass", "(I)Z"⟩ prog_4_method_12_code 2 (some .boolean) 1 := ⟨wd_272, wd_273, wd_274, wd_46, wd_275, by decide +kernel⟩
theorem cw_Ma_47 : cs_CwV "ClassStarter$Machine" 47 "ClassStarter$Machine" ⟨"ClassStarter$Machine", "topFrame", "(I)I"⟩ prog_4_method_11_code 2 (some .int) 1 := ⟨wd_276, wd_277, wd_278, wd_46, wd_279, by decide +kernel⟩
theorem cw_Ma_50 : cs_CwV "ClassStarter$Machine" 50 "ClassStarter$Machine" ⟨"ClassStarter$Machine", "isBehindLast", "(I)Z"⟩ prog_4_method_14_code 2 (some .boolean) 1 := ⟨wd_280, wd_282, wd_3, wd_46, wd_283, by decide +kernel⟩
theorem cw_Pr_67 : cs_CwV "ClassStarter$Program" 67 "ClassStarter$Script" ⟨"ClassStarter$Script", "actionAt", "(I)I"⟩ prog_6_method_6_code 2 (some .int) 1 := ⟨wd_300, wd_301, wd_302, wd_45, wd_303, by decide +kernel⟩
theorem cw_Pr_71 : cs_CwV "ClassStarter$Program" 71 "ClassStarter$Script" ⟨"ClassStarter$Script", "firstOperandAt", "(I)I"⟩ prog_6_method_7_code 2 (some .int) 1 := ⟨wd_304, wd_305, wd_306, wd_45, wd_307, by decide +kernel⟩
theorem cw_Pr_74 : cs_CwV "ClassStarter$Program" 74 "ClassStarter$Script" ⟨"ClassStarter$Script", "secondOperandAt", "(I)I"⟩ prog_6_method_8_code 2 (some .int) 1 := ⟨wd_308, wd_309, wd_310, wd_45, wd_311, by decide +kernel⟩
theorem cw_Ma_63 : cs_CwV "ClassStarter$Machine" 63 "ClassStarter$Program" ⟨"ClassStarter$Program", "usedBy", "(II)I"⟩ prog_5_method_13_code 5 (some .int) 2 := ⟨wd_296, wd_297, wd_298, wd_44, wd_299, by decide +kernel⟩
theorem cw_Ma_67 : cs_CwV "ClassStarter$Machine" 67 "ClassStarter$Machine" ⟨"ClassStarter$Machine", "stateOf", "(I)I"⟩ prog_4_method_7_code 2 (some .int) 1 := ⟨wd_312, wd_313, wd_314, wd_46, wd_315, by decide +kernel⟩
theorem cw_Fa_9 : cs_CwS "ClassStarter$Fault" 9 ⟨"ClassStarter$Fault", "isException", "(I)Z"⟩ prog_3_method_4_code 1 (some .boolean) 1 := ⟨wd_331, wd_332, wd_51, wd_333, by decide +kernel⟩
theorem cw_Ma_131 : cs_CwV "ClassStarter$Machine" 131 "ClassStarter$Script" ⟨"ClassStarter$Script", "isGuarded", "(I)Z"⟩ prog_6_method_9_code 2 (some .boolean) 1 := ⟨wd_338, wd_339, wd_340, wd_45, wd_341, by decide +kernel⟩
theorem cw_Ma_134 : cs_CwS "ClassStarter$Machine" 134 ⟨"ClassStarter$Fault", "number", "(I)I"⟩ prog_3_method_3_code 1 (some .int) 1 := ⟨wd_342, wd_343, wd_51, wd_344, by decide +kernel⟩
theorem cw_Ma_128 : cs_CwV "ClassStarter$Machine" 128 "ClassStarter$Machine" ⟨"ClassStarter$Machine", "write", "(I)V"⟩ prog_4_method_28_code 2 (none : Option Jvm.ClassFile.FieldType) 1 := ⟨wd_345, wd_347, wd_7, wd_46, wd_348, by decide +kernel⟩
theorem cw_Ma_98 : cs_CwV "ClassStarter$Machine" 98 "ClassStarter$Machine" ⟨"ClassStarter$Machine", "dropTop", "(II)V"⟩ prog_4_method_22_code 4 (none : Option Jvm.ClassFile.FieldType) 2 := ⟨wd_324, wd_326, wd_5, wd_46, wd_327, by decide +kernel⟩
theorem cw_Ma_101 : cs_CwS "ClassStarter$Machine" 101 ⟨"ClassStarter$Fault", "outside", "(I)I"⟩ prog_3_method_2_code 1 (some .int) 1 := ⟨wd_328, wd_329, wd_51, wd_330, by decide +kernel⟩
theorem cw_Ma_104 : cs_CwV "ClassStarter$Machine" 104 "ClassStarter$Machine" ⟨"ClassStarter$Machine", "come", "(II)V"⟩ prog_4_method_27_code 4 (none : Option Jvm.ClassFile.FieldType) 2 := ⟨wd_334, wd_336, wd_6, wd_46, wd_337, by decide +kernel⟩
theorem cw_Ma_37 : cs_CwV "ClassStarter$Machine" 37 "ClassStarter$Program" ⟨"ClassStarter$Program", "secondStatic", "(I)I"⟩ prog_5_method_5_code 2 (some .int) 1 := ⟨wd_364, wd_365, wd_366, wd_44, wd_367, by decide +kernel⟩
theorem cw_Ma_116 : cs_CwV "ClassStarter$Machine" 116 "ClassStarter$Script" ⟨"ClassStarter$Script", "actionAt", "(I)I"⟩ prog_6_method_6_code 2 (some .int) 1 := ⟨wd_357, wd_301, wd_302, wd_45, wd_303, by decide +kernel⟩
theorem cw_Ma_119 : cs_CwV "ClassStarter$Machine" 119 "ClassStarter$Script" ⟨"ClassStarter$Script", "secondOperandAt", "(I)I"⟩ prog_6_method_8_code 2 (some .int) 1 := ⟨wd_358, wd_309, wd_310, wd_45, wd_311, by decide +kernel⟩
theorem cw_Ma_122 : cs_CwV "ClassStarter$Machine" 122 "ClassStarter$Script" ⟨"ClassStarter$Script", "firstOperandAt", "(I)I"⟩ prog_6_method_7_code 2 (some .int) 1 := ⟨wd_359, wd_305, wd_306, wd_45, wd_307, by decide +kernel⟩
theorem cw_Ma_125 : cs_CwV "ClassStarter$Machine" 125 "ClassStarter$Machine" ⟨"ClassStarter$Machine", "staticOf", "(II)I"⟩ prog_4_method_8_code 3 (some .int) 2 := ⟨wd_360, wd_361, wd_362, wd_46, wd_363, by decide +kernel⟩
theorem cw_Ma_107 : cs_CwV "ClassStarter$Machine" 107 "ClassStarter$Machine" ⟨"ClassStarter$Machine", "makeUse", "(I)V"⟩ prog_4_method_25_code 5 (none : Option Jvm.ClassFile.FieldType) 1 := ⟨wd_353, wd_355, wd_9, wd_46, wd_356, by decide +kernel⟩
theorem cw_Ma_110 : cs_CwV "ClassStarter$Machine" 110 "ClassStarter$Program" ⟨"ClassStarter$Program", "isDeclared", "(I)Z"⟩ prog_5_method_3_code 2 (some .boolean) 1 := ⟨wd_372, wd_200, wd_201, wd_44, wd_202, by decide +kernel⟩
theorem cw_Ma_113 : cs_CwV "ClassStarter$Machine" 113 "ClassStarter$Machine" ⟨"ClassStarter$Machine", "begin", "(II)V"⟩ prog_4_method_24_code 3 (none : Option Jvm.ClassFile.FieldType) 2 := ⟨wd_373, wd_375, wd_11, wd_46, wd_376, by decide +kernel⟩
theorem cw_Ma_93 : cs_CwV "ClassStarter$Machine" 93 "ClassStarter$Machine" ⟨"ClassStarter$Machine", "perform", "(I)V"⟩ prog_4_method_26_code 5 (none : Option Jvm.ClassFile.FieldType) 1 := ⟨wd_377, wd_379, wd_12, wd_46, wd_380, by decide +kernel⟩
theorem cw_Ma_89 : cs_CwV "ClassStarter$Machine" 89 "ClassStarter$Machine" ⟨"ClassStarter$Machine", "use", "(II)V"⟩ prog_4_method_23_code 3 (none : Option Jvm.ClassFile.FieldType) 2 := ⟨wd_368, wd_370, wd_10, wd_46, wd_371, by decide +kernel⟩
theorem cw_Ma_86 : cs_CwV "ClassStarter$Machine" 86 "ClassStarter$Machine" ⟨"ClassStarter$Machine", "finishTop", "(I)V"⟩ prog_4_method_21_code 2 (none : Option Jvm.ClassFile.FieldType) 1 := ⟨wd_349, wd_351, wd_8, wd_46, wd_352, by decide +kernel⟩
theorem cw_Ma_82 : cs_CwV "ClassStarter$Machine" 82 "ClassStarter$Machine" ⟨"ClassStarter$Machine", "failTop", "(I)V"⟩ prog_4_method_20_code 3 (none : Option Jvm.ClassFile.FieldType) 1 := ⟨wd_320, wd_322, wd_4, wd_46, wd_323, by decide +kernel⟩
theorem cw_X_58 : cs_CwS "ClassStarter" 58 ⟨"ClassStarter", "isThread", "(I)Z"⟩ prog_1_method_18_code 1 (some .boolean) 1 := ⟨wd_267, wd_261, wd_43, wd_262, by decide +kernel⟩
theorem cw_X_62 : cs_CwV "ClassStarter" 62 "ClassStarter$Machine" ⟨"ClassStarter$Machine", "hasEnded", "(I)Z"⟩ prog_4_method_13_code 2 (some .boolean) 1 := ⟨wd_268, wd_269, wd_270, wd_46, wd_271, by decide +kernel⟩
theorem cw_X_65 : cs_CwV "ClassStarter" 65 "ClassStarter$Machine" ⟨"ClassStarter$Machine", "awaited", "(I)I"⟩ prog_4_method_15_code 4 (some .int) 1 := ⟨wd_292, wd_293, wd_294, wd_46, wd_295, by decide +kernel⟩
theorem cw_X_68 : cs_CwV "ClassStarter" 68 "ClassStarter$Machine" ⟨"ClassStarter$Machine", "advance", "(I)V"⟩ prog_4_method_19_code 4 (none : Option Jvm.ClassFile.FieldType) 1 := ⟨wd_316, wd_317, wd_318, wd_46, wd_319, by decide +kernel⟩
theorem cw_X_72 : cs_CwV "ClassStarter" 72 "ClassStarter$Machine" ⟨"ClassStarter$Machine", "steps", "()I"⟩ prog_4_method_5_code 1 (some .int) 0 := ⟨wd_385, wd_386, wd_387, wd_46, wd_388, by decide +kernel⟩
theorem cw_X_76 : cs_CwV "ClassStarter" 76 "ClassStarter$Machine" ⟨"ClassStarter$Machine", "restart", "()V"⟩ prog_4_method_2_code 2 (none : Option Jvm.ClassFile.FieldType) 0 := ⟨wd_389, wd_124, wd_125, wd_46, wd_126, by decide +kernel⟩
theorem cw_X_79 : cs_CwV "ClassStarter" 79 "ClassStarter$Program" ⟨"ClassStarter$Program", "isDeclared", "(I)Z"⟩ prog_5_method_3_code 2 (some .boolean) 1 := ⟨wd_394, wd_200, wd_201, wd_44, wd_202, by decide +kernel⟩
theorem cw_X_82 : cs_CwV "ClassStarter" 82 "ClassStarter$Machine" ⟨"ClassStarter$Machine", "stateOf", "(I)I"⟩ prog_4_method_7_code 2 (some .int) 1 := ⟨wd_395, wd_313, wd_314, wd_46, wd_315, by decide +kernel⟩
theorem cw_X_85 : cs_CwV "ClassStarter" 85 "ClassStarter$Machine" ⟨"ClassStarter$Machine", "staticOf", "(II)I"⟩ prog_4_method_8_code 3 (some .int) 2 := ⟨wd_400, wd_361, wd_362, wd_46, wd_363, by decide +kernel⟩
theorem cw_Ma_70 : cs_CwV "ClassStarter$Machine" 70 "ClassStarter$Machine" ⟨"ClassStarter$Machine", "hasEnded", "(I)Z"⟩ prog_4_method_13_code 2 (some .boolean) 1 := ⟨wd_410, wd_269, wd_270, wd_46, wd_271, by decide +kernel⟩
theorem cw_Ma_73 : cs_CwV "ClassStarter$Machine" 73 "ClassStarter$Machine" ⟨"ClassStarter$Machine", "awaited", "(I)I"⟩ prog_4_method_15_code 4 (some .int) 1 := ⟨wd_415, wd_293, wd_294, wd_46, wd_295, by decide +kernel⟩
theorem cw_Ma_79 : cs_CwV "ClassStarter$Machine" 79 "ClassStarter$Machine" ⟨"ClassStarter$Machine", "lastResultOf", "(I)I"⟩ prog_4_method_18_code 2 (some .int) 1 := ⟨wd_416, wd_417, wd_418, wd_46, wd_419, by decide +kernel⟩
theorem cw_Ma_76 : cs_CwV "ClassStarter$Machine" 76 "ClassStarter$Machine" ⟨"ClassStarter$Machine", "nextAble", "(I)I"⟩ prog_4_method_16_code 3 (some .int) 1 := ⟨wd_411, wd_412, wd_413, wd_46, wd_414, by decide +kernel⟩
theorem cw_X_91 : cs_CwV "ClassStarter" 91 "ClassStarter$Machine" ⟨"ClassStarter$Machine", "resultOf", "(I)I"⟩ prog_4_method_17_code 2 (some .int) 1 := ⟨wd_406, wd_407, wd_408, wd_46, wd_409, by decide +kernel⟩
theorem cw_X_94 : cs_CwV "ClassStarter" 94 "ClassStarter$Machine" ⟨"ClassStarter$Machine", "isInClass", "(I)Z"⟩ prog_4_method_12_code 2 (some .boolean) 1 := ⟨wd_424, wd_273, wd_274, wd_46, wd_275, by decide +kernel⟩
theorem cw_X_97 : cs_CwV "ClassStarter" 97 "ClassStarter$Machine" ⟨"ClassStarter$Machine", "topFrame", "(I)I"⟩ prog_4_method_11_code 2 (some .int) 1 := ⟨wd_425, wd_277, wd_278, wd_46, wd_279, by decide +kernel⟩
theorem cw_X_100 : cs_CwV "ClassStarter" 100 "ClassStarter$Machine" ⟨"ClassStarter$Machine", "logSize", "()I"⟩ prog_4_method_9_code 1 (some .int) 0 := ⟨wd_434, wd_435, wd_436, wd_46, wd_437, by decide +kernel⟩
theorem cw_X_103 : cs_CwV "ClassStarter" 103 "ClassStarter$Machine" ⟨"ClassStarter$Machine", "logEntry", "(I)I"⟩ prog_4_method_10_code 2 (some .int) 1 := ⟨wd_438, wd_439, wd_440, wd_46, wd_441, by decide +kernel⟩
theorem cw_Ex_71 : cs_CwV "ClassStarter$Explorer" 71 "ClassStarter$Explorer" ⟨"ClassStarter$Explorer", "dropAll", "()V"⟩ prog_2_method_12_code 1 (none : Option Jvm.ClassFile.FieldType) 0 := ⟨wd_458, wd_460, wd_14, wd_48, wd_461, by decide +kernel⟩
theorem cw_Ex_74 : cs_CwV "ClassStarter$Explorer" 74 "ClassStarter$Machine" ⟨"ClassStarter$Machine", "restart", "()V"⟩ prog_4_method_2_code 2 (none : Option Jvm.ClassFile.FieldType) 0 := ⟨wd_462, wd_124, wd_125, wd_46, wd_126, by decide +kernel⟩
theorem cw_Ex_77 : cs_CwV "ClassStarter$Explorer" 77 "ClassStarter$Machine" ⟨"ClassStarter$Machine", "keepIn", "([II)V"⟩ prog_4_method_3_code 3 (none : Option Jvm.ClassFile.FieldType) 2 := ⟨wd_469, wd_470, wd_471, wd_46, wd_472, by decide +kernel⟩
theorem cw_Ex_81 : cs_CwV "ClassStarter$Explorer" 81 "ClassStarter$Machine" ⟨"ClassStarter$Machine", "bringBack", "([II)V"⟩ prog_4_method_4_code 3 (none : Option Jvm.ClassFile.FieldType) 2 := ⟨wd_503, wd_504, wd_505, wd_46, wd_506, by decide +kernel⟩
theorem cw_Ex_44 : cs_CwV "ClassStarter$Explorer" 44 "ClassStarter$Explorer" ⟨"ClassStarter$Explorer", "begin", "()V"⟩ prog_2_method_10_code 1 (none : Option Jvm.ClassFile.FieldType) 0 := ⟨wd_454, wd_456, wd_13, wd_48, wd_457, by decide +kernel⟩
theorem cw_Ex_68 : cs_CwV "ClassStarter$Explorer" 68 "ClassStarter$Explorer" ⟨"ClassStarter$Explorer", "finish", "()V"⟩ prog_2_method_11_code 1 (none : Option Jvm.ClassFile.FieldType) 0 := ⟨wd_507, wd_509, wd_19, wd_48, wd_510, by decide +kernel⟩
theorem cw_Ex_51 : cs_CwV "ClassStarter$Explorer" 51 "ClassStarter$Machine" ⟨"ClassStarter$Machine", "nextAble", "(I)I"⟩ prog_4_method_16_code 3 (some .int) 1 := ⟨wd_464, wd_412, wd_413, wd_46, wd_414, by decide +kernel⟩
theorem cw_Ex_55 : cs_CwV "ClassStarter$Explorer" 55 "ClassStarter$Explorer" ⟨"ClassStarter$Explorer", "goDown", "(I)V"⟩ prog_2_method_13_code 2 (none : Option Jvm.ClassFile.FieldType) 1 := ⟨wd_465, wd_467, wd_15, wd_48, wd_468, by decide +kernel⟩
theorem cw_Ex_59 : cs_CwV "ClassStarter$Explorer" 59 "ClassStarter$Machine" ⟨"ClassStarter$Machine", "advance", "(I)V"⟩ prog_4_method_19_code 4 (none : Option Jvm.ClassFile.FieldType) 1 := ⟨wd_474, wd_317, wd_318, wd_46, wd_319, by decide +kernel⟩
theorem cw_Ex_65 : cs_CwV "ClassStarter$Explorer" 65 "ClassStarter$Explorer" ⟨"ClassStarter$Explorer", "goUp", "()V"⟩ prog_2_method_14_code 1 (none : Option Jvm.ClassFile.FieldType) 0 := ⟨wd_499, wd_501, wd_18, wd_48, wd_502, by decide +kernel⟩
theorem cw_X_106 : cs_CwV "ClassStarter" 106 "ClassStarter$Explorer" ⟨"ClassStarter$Explorer", "isKnown", "()Z"⟩ prog_2_method_7_code 1 (some .boolean) 0 := ⟨wd_446, wd_447, wd_448, wd_48, wd_449, by decide +kernel⟩
theorem cw_X_112 : cs_CwV "ClassStarter" 112 "ClassStarter$Explorer" ⟨"ClassStarter$Explorer", "answer", "()I"⟩ prog_2_method_8_code 1 (some .int) 0 := ⟨wd_511, wd_512, wd_513, wd_48, wd_514, by decide +kernel⟩
theorem cw_X_115 : cs_CwV "ClassStarter" 115 "ClassStarter$Explorer" ⟨"ClassStarter$Explorer", "foundCount", "()I"⟩ prog_2_method_2_code 1 (some .int) 0 := ⟨wd_519, wd_520, wd_521, wd_48, wd_522, by decide +kernel⟩
theorem cw_X_118 : cs_CwV "ClassStarter" 118 "ClassStarter$Explorer" ⟨"ClassStarter$Explorer", "foundAt", "(I)I"⟩ prog_2_method_3_code 2 (some .int) 1 := ⟨wd_523, wd_524, wd_525, wd_48, wd_526, by decide +kernel⟩
theorem cw_X_121 : cs_CwV "ClassStarter" 121 "ClassStarter$Program" ⟨"ClassStarter$Program", "classCount", "()I"⟩ prog_5_method_2_code 1 (some .int) 0 := ⟨wd_531, wd_532, wd_533, wd_44, wd_534, by decide +kernel⟩
theorem cw_X_124 : cs_CwV "ClassStarter" 124 "ClassStarter$Explorer" ⟨"ClassStarter$Explorer", "orders", "()I"⟩ prog_2_method_4_code 1 (some .int) 0 := ⟨wd_535, wd_536, wd_537, wd_48, wd_538, by decide +kernel⟩
theorem cw_X_127 : cs_CwV "ClassStarter" 127 "ClassStarter$Explorer" ⟨"ClassStarter$Explorer", "stuckOrders", "()I"⟩ prog_2_method_5_code 1 (some .int) 0 := ⟨wd_539, wd_540, wd_541, wd_48, wd_542, by decide +kernel⟩
theorem cw_Mo_94 : cs_CwS "ClassStarterModel" 94 ⟨"ClassStarterModel", "out", "(II)Z"⟩ prog_8_method_2_code 2 (some .boolean) 2 := ⟨wd_654, wd_655, wd_49, wd_656, by decide +kernel⟩
theorem cw_Mo_98 : cs_CwS "ClassStarterModel" 98 ⟨"ClassStarterModel", "badOperands", "(III)Z"⟩ prog_8_method_5_code 3 (some .boolean) 3 := ⟨wd_661, wd_662, wd_49, wd_663, by decide +kernel⟩
theorem cw_Mo_105 : cs_CwV "ClassStarterModel" 105 "ClassStarterModel" ⟨"ClassStarterModel", "finish", "(I)V"⟩ prog_8_method_18_code 2 (none : Option Jvm.ClassFile.FieldType) 1 := ⟨wd_680, wd_682, wd_22, wd_49, wd_683, by decide +kernel⟩
theorem cw_Mo_109 : cs_CwV "ClassStarterModel" 109 "ClassStarterModel" ⟨"ClassStarterModel", "uses", "(I)I"⟩ prog_8_method_10_code 4 (some .int) 1 := ⟨wd_704, wd_706, wd_28, wd_49, wd_707, by decide +kernel⟩
theorem cw_Mo_113 : cs_CwV "ClassStarterModel" 113 "ClassStarterModel" ⟨"ClassStarterModel", "top", "(I)I"⟩ prog_8_method_9_code 2 (some .int) 1 := ⟨wd_692, wd_694, wd_25, wd_49, wd_695, by decide +kernel⟩
theorem cw_Mo_116 : cs_CwV "ClassStarterModel" 116 "ClassStarterModel" ⟨"ClassStarterModel", "parts", "(II)I"⟩ prog_8_method_11_code 3 (some .int) 2 := ⟨wd_708, wd_710, wd_29, wd_49, wd_711, by decide +kernel⟩
theorem cw_Mo_120 : cs_CwV "ClassStarterModel" 120 "ClassStarterModel" ⟨"ClassStarterModel", "actionAt", "(II)I"⟩ prog_8_method_13_code 5 (some .int) 2 := ⟨wd_700, wd_702, wd_27, wd_49, wd_703, by decide +kernel⟩
theorem cw_Mo_123 : cs_CwV "ClassStarterModel" 123 "ClassStarterModel" ⟨"ClassStarterModel", "useAt", "(II)I"⟩ prog_8_method_12_code 5 (some .int) 2 := ⟨wd_730, wd_732, wd_33, wd_49, wd_733, by decide +kernel⟩
theorem cw_Mo_126 : cs_CwV "ClassStarterModel" 126 "ClassStarterModel" ⟨"ClassStarterModel", "usedNow", "(I)I"⟩ prog_8_method_14_code 6 (some .int) 1 := ⟨wd_726, wd_728, wd_32, wd_49, wd_729, by decide +kernel⟩
theorem cw_Mo_129 : cs_CwV "ClassStarterModel" 129 "ClassStarterModel" ⟨"ClassStarterModel", "waits", "(I)Z"⟩ prog_8_method_15_code 3 (some .boolean) 1 := ⟨wd_746, wd_748, wd_37, wd_49, wd_749, by decide +kernel⟩
theorem cw_Mo_139 : cs_CwS "ClassStarterModel" 139 ⟨"ClassStarterModel", "resultOf", "(I)I"⟩ prog_8_method_19_code 1 (some .int) 1 := ⟨wd_719, wd_720, wd_49, wd_721, by decide +kernel⟩
theorem cw_Mo_133 : cs_CwS "ClassStarterModel" 133 ⟨"ClassStarterModel", "loggedAs", "(I)I"⟩ prog_8_method_20_code 1 (some .int) 1 := ⟨wd_712, wd_713, wd_49, wd_714, by decide +kernel⟩
theorem cw_Mo_136 : cs_CwV "ClassStarterModel" 136 "ClassStarterModel" ⟨"ClassStarterModel", "note", "(I)V"⟩ prog_8_method_17_code 2 (none : Option Jvm.ClassFile.FieldType) 1 := ⟨wd_715, wd_717, wd_30, wd_49, wd_718, by decide +kernel⟩
theorem cw_Mo_149 : cs_CwV "ClassStarterModel" 149 "ClassStarterModel" ⟨"ClassStarterModel", "enter", "(II)V"⟩ prog_8_method_25_code 3 (none : Option Jvm.ClassFile.FieldType) 2 := ⟨wd_738, wd_740, wd_35, wd_49, wd_741, by decide +kernel⟩
theorem cw_Mo_142 : cs_CwV "ClassStarterModel" 142 "ClassStarterModel" ⟨"ClassStarterModel", "come", "(II)V"⟩ prog_8_method_21_code 6 (none : Option Jvm.ClassFile.FieldType) 2 := ⟨wd_696, wd_698, wd_26, wd_49, wd_699, by decide +kernel⟩
theorem cw_Mo_146 : cs_CwV "ClassStarterModel" 146 "ClassStarterModel" ⟨"ClassStarterModel", "madeUse", "(I)V"⟩ prog_8_method_22_code 4 (none : Option Jvm.ClassFile.FieldType) 1 := ⟨wd_722, wd_724, wd_31, wd_49, wd_725, by decide +kernel⟩
theorem cw_Mo_158 : cs_CwV "ClassStarterModel" 158 "ClassStarterModel" ⟨"ClassStarterModel", "action", "(I)V"⟩ prog_8_method_26_code 4 (none : Option Jvm.ClassFile.FieldType) 1 := ⟨wd_742, wd_744, wd_36, wd_49, wd_745, by decide +kernel⟩
theorem cw_Mo_155 : cs_CwV "ClassStarterModel" 155 "ClassStarterModel" ⟨"ClassStarterModel", "useOf", "(II)V"⟩ prog_8_method_24_code 3 (none : Option Jvm.ClassFile.FieldType) 2 := ⟨wd_734, wd_736, wd_34, wd_49, wd_737, by decide +kernel⟩
theorem cw_Mo_152 : cs_CwV "ClassStarterModel" 152 "ClassStarterModel" ⟨"ClassStarterModel", "leave", "(II)V"⟩ prog_8_method_23_code 3 (none : Option Jvm.ClassFile.FieldType) 2 := ⟨wd_688, wd_690, wd_24, wd_49, wd_691, by decide +kernel⟩
theorem cw_Mo_161 : cs_CwV "ClassStarterModel" 161 "ClassStarterModel" ⟨"ClassStarterModel", "start", "()V"⟩ prog_8_method_8_code 2 (none : Option Jvm.ClassFile.FieldType) 0 := ⟨wd_676, wd_678, wd_21, wd_49, wd_679, by decide +kernel⟩
theorem cw_Mo_167 : cs_CwV "ClassStarterModel" 167 "ClassStarterModel" ⟨"ClassStarterModel", "stepOf", "(I)V"⟩ prog_8_method_27_code 4 (none : Option Jvm.ClassFile.FieldType) 1 := ⟨wd_684, wd_686, wd_23, wd_49, wd_687, by decide +kernel⟩
theorem cw_Mo_170 : cs_CwV "ClassStarterModel" 170 "ClassStarterModel" ⟨"ClassStarterModel", "canStep", "(I)Z"⟩ prog_8_method_16_code 2 (some .boolean) 1 := ⟨wd_771, wd_773, wd_39, wd_49, wd_774, by decide +kernel⟩
theorem cw_Mo_173 : cs_CwV "ClassStarterModel" 173 "ClassStarterModel" ⟨"ClassStarterModel", "work", "()V"⟩ prog_8_method_28_code 2 (none : Option Jvm.ClassFile.FieldType) 0 := ⟨wd_672, wd_674, wd_20, wd_49, wd_675, by decide +kernel⟩
theorem cw_Mo_178 : cs_CwV "ClassStarterModel" 178 "ClassStarterModel" ⟨"ClassStarterModel", "resultNow", "(I)I"⟩ prog_8_method_29_code 3 (some .int) 1 := ⟨wd_767, wd_769, wd_38, wd_49, wd_770, by decide +kernel⟩
theorem cw_Mo_190 : cs_CwV "ClassStarterModel" 190 "ClassStarterModel" ⟨"ClassStarterModel", "nextThread", "(I)I"⟩ prog_8_method_39_code 3 (some .int) 1 := ⟨wd_791, wd_793, wd_40, wd_49, wd_794, by decide +kernel⟩
theorem cw_Mo_193 : cs_CwV "ClassStarterModel" 193 "ClassStarterModel" ⟨"ClassStarterModel", "noteOrder", "()V"⟩ prog_8_method_38_code 5 (none : Option Jvm.ClassFile.FieldType) 0 := ⟨wd_795, wd_797, wd_41, wd_49, wd_798, by decide +kernel⟩
end
section
theorem d_Ar_fill_0 : decode prog_12_method_103_code 0 = .ok (.iconst 0, 1) := by decide +kernel
theorem d_Ar_fill_1 : decode prog_12_method_103_code 1 = .ok (.istore_n 2, 1) := by decide +kernel
theorem d_Ar_fill_2 : decode prog_12_method_103_code 2 = .ok (.aload_n 0, 1) := by decide +kernel
theorem d_Ar_fill_3 : decode prog_12_method_103_code 3 = .ok (.arraylength, 1) := by decide +kernel
theorem d_Ar_fill_4 : decode prog_12_method_103_code 4 = .ok (.istore_n 3, 1) := by decide +kernel
theorem d_Ar_fill_5 : decode prog_12_method_103_code 5 = .ok (.iload_n 2, 1) := by decide +kernel
theorem d_Ar_fill_6 : decode prog_12_method_103_code 6 = .ok (.iload_n 3, 1) := by decide +kernel
theorem d_Ar_fill_7 : decode prog_12_method_103_code 7 = .ok (.if_icmp .ge 13, 3) := by decide +kernel
theorem d_Ar_fill_10 : decode prog_12_method_103_code 10 = .ok (.aload_n 0, 1) := by decide +kernel
theorem d_Ar_fill_11 : decode prog_12_method_103_code 11 = .ok (.iload_n 2, 1) := by decide +kernel
theorem d_Ar_fill_12 : decode prog_12_method_103_code 12 = .ok (.iload_n 1, 1) := by decide +kernel
theorem d_Ar_fill_13 : decode prog_12_method_103_code 13 = .ok (.iastore, 1) := by decide +kernel
theorem d_Ar_fill_14 : decode prog_12_method_103_code 14 = .ok (.iinc 2 1, 3) := by decide +kernel
theorem d_Ar_fill_17 : decode prog_12_method_103_code 17 = .ok (.goto (-12), 3) := by decide +kernel
theorem d_Ar_fill_20 : decode prog_12_method_103_code 20 = .ok (.return_, 1) := by decide +kernel
def f_Ar_fill_L5 : Nat → cs_Mem → Nat → Int32 → Int32 → Int32 → cs_Mem
  | 0, M, y0, y1, y2, y3 => M
  | fuel + 1, M, y0, y1, y2, y3 =>
    if y3 ≤ y2 then
      M
    else
      cs_bd (cs_up M y0 (upd (M y0) y2.toNatClampNeg y1)) fun (N4 : cs_Mem) =>
      cs_bd (y2 + 1) fun (z5 : Int32) =>
      f_Ar_fill_L5 fuel N4 y0 y1 z5 y3
def pre_Ar_fill_L5 : Nat → cs_Mem → Nat → Int32 → Int32 → Int32 → Prop
  | 0, _, _, _, _, _ => False
  | fuel + 1, M, y0, y1, y2, y3 =>
    (y3 ≤ y2 →
      True
    ) ∧ (¬ (y3 ≤ y2) →
      (vp_in y2 (cs_ln M y0)) ∧
      cs_bd (cs_up M y0 (upd (M y0) y2.toNatClampNeg y1)) fun (N4 : cs_Mem) =>
      cs_bd (y2 + 1) fun (z5 : Int32) =>
      pre_Ar_fill_L5 fuel N4 y0 y1 z5 y3
    )
def f_Ar_fill (M : cs_Mem) (x0 : Nat) (x1 : Int32) : cs_Mem :=
  cs_bd (nI (cs_ln M x0)) fun (z1 : Int32) =>
  f_Ar_fill_L5 (cs_ln M x0 + 1) M x0 x1 0 z1
def pre_Ar_fill (M : cs_Mem) (x0 : Nat) (x1 : Int32) : Prop :=
  cs_bd (nI (cs_ln M x0)) fun (z1 : Int32) =>
  pre_Ar_fill_L5 (cs_ln M x0 + 1) M x0 x1 0 z1
set_option maxHeartbeats 4000000 in
set_option maxRecDepth 100000 in
theorem w_Ar_fill_L5 {p : Program} {l : Launch} {e : Env} {s : State} {m : MethodId} {args : Array Value} {below : List Frame} {meth : Method} {c : Code} {D : va_G} {cA : Nat → ClassId} {A : Nat → Prop} {ad : Nat → Nat} {F : cs_Mem} (hC : cs_Ctx p s m args c prog_12_method_103_code 4 "java/util/Arrays" D cA A) (hr : meth.sig.returnType = none) (hlk : meth.locks = false) (fuel : Nat) : ∀ (M : cs_Mem) (y0 : Nat) (y1 : Int32) (y2 : Int32) (y3 : Int32) (H : Heap) (locs : List Loc) (ls : Array Slot), cs_Wd D cA ad M A s H locs → lv_has ls 4 [(0, .ref (ad y0)), (1, .int y1), (2, .int y2), (3, .int y3)] → cs_is 20 y0 → pre_Ar_fill_L5 fuel M y0 y1 y2 y3 → F = f_Ar_fill_L5 fuel M y0 y1 y2 y3 → W p l e ({ frames := 0, cells := 0, slots := 0, locals := 0 }) s m args below meth c H locs 0 0 (MQ below (cs_Qv D cA ad F A) args s 0 0 A) (F0 m 5 ls []) := by
  have hx := hC.1
  have hb := hC.2.1
  induction fuel with
  | zero =>
    intro M y0 y1 y2 y3 H locs ls hw hl g0 hp hf
    exact absurd hp (by simp [pre_Ar_fill_L5])
  | succ fuel ih =>
    intro M y0 y1 y2 y3 H locs ls hw hl g0 hp hf
    rw [f_Ar_fill_L5] at hf
    rw [pre_Ar_fill_L5] at hp
    refine lv_iload_n hx hb d_Ar_fill_5 rfl (lv_at hl 2 rfl) ?_
    refine lv_iload_n hx hb d_Ar_fill_6 rfl (lv_at hl 3 rfl) ?_
    refine lv_icmp_ge (tgt := 20) hx hb d_Ar_fill_7 (by decide) (fun c2 => ?_) (fun c2 => ?_)
    · have hp := hp.1 c2
      have hf := hf.trans (if_pos c2)
      exact cs_vret hC hw hr hlk hf d_Ar_fill_20
    · have hp := hp.2 c2
      have hf := hf.trans (if_neg c2)
      refine lv_aload_n hx hb d_Ar_fill_10 rfl (lv_at hl 0 rfl) ?_
      refine lv_iload_n hx hb d_Ar_fill_11 rfl (lv_at hl 2 rfl) ?_
      refine lv_iload_n hx hb d_Ar_fill_12 rfl (lv_at hl 1 rfl) ?_
      have o3 := hp.1
      have hp := hp.2
      refine cs_iast hC hw g0 o3 d_Ar_fill_13 (fun N4 H locs eN4 hw => ?_)
      have hp := cs_bdP eN4 hp
      have hf := cs_bdE eN4 hf
      obtain ⟨z5, ez5⟩ : ∃ y : Int32, y = y2 + 1 := ⟨_, rfl⟩
      have hp := cs_bdP ez5 hp
      have hf := cs_bdE ez5 hf
      refine lv_iinc (v := z5) (lv' := [(2, .int z5), (0, .ref (ad y0)), (1, .int y1), (3, .int y3)]) hx hb d_Ar_fill_14 hl (k := 2) rfl (by rw [ez5]; rfl) (by decide) rfl (fun ls hl => ?_)
      refine lv_goto (tgt := 5) hx hb d_Ar_fill_17 (by decide) ?_
      exact ih N4 y0 y1 z5 y3 _ _ ls hw (lv_sub hl [1, 2, 0, 3] rfl) g0 hp hf
set_option maxHeartbeats 4000000 in
set_option maxRecDepth 100000 in
theorem c_Ar_fill (l : Launch) (D : va_G) (cA : Nat → ClassId) (ad : Nat → Nat) (M : cs_Mem) (x0 : Nat) (h0 : cs_is 20 x0) (x1 : Int32) (hp : pre_Ar_fill M x0 x1) : cs_Cv l ⟨"java/util/Arrays", "fill", "([II)V"⟩ prog_12_method_103_code 4 none ({ frames := 0, cells := 0, slots := 0, locals := 0 }) D cA ad M [.ref (ad x0), .int x1] (f_Ar_fill M x0 x1) := by
  refine cs_entry (by decide) (Nat.le_of_ble_eq_true rfl) (fun p e s m below meth c A ls hC hr hlk _ hw hl => ?_)
  have hx := hC.1
  have hb := hC.2.1
  have hl : lv_has ls 4 [(0, .ref (ad x0)), (1, .int x1)] := hl
  generalize hF : f_Ar_fill M x0 x1 = F
  have hf := hF.symm
  unfold f_Ar_fill at hf
  unfold pre_Ar_fill at hp
  refine lv_iconst (v := 0) hx hb d_Ar_fill_0 (by decide) ?_
  refine lv_istore_n (lv' := [(2, .int 0), (0, .ref (ad x0)), (1, .int x1)]) hx hb d_Ar_fill_1 rfl hl (by decide) rfl (fun ls hl => ?_)
  refine lv_aload_n hx hb d_Ar_fill_2 rfl (lv_at hl 1 rfl) ?_
  refine cs_ialen hC hw h0 d_Ar_fill_3 ?_
  refine lv_topi (fun z1 ez1 => ?_)
  have hp := cs_bdP ez1 hp
  have hf := cs_bdE ez1 hf
  refine lv_istore_n (lv' := [(3, .int z1), (2, .int 0), (0, .ref (ad x0)), (1, .int x1)]) hx hb d_Ar_fill_4 rfl hl (by decide) rfl (fun ls hl => ?_)
  exact w_Ar_fill_L5 hC hr hlk (cs_ln M x0 + 1) M x0 x1 0 z1 _ _ ls hw (lv_sub hl [2, 3, 1, 0] rfl) h0 hp hf
theorem d_Sc_write_0 : decode prog_6_method_4_code 0 = .ok (.aload_n 0, 1) := by decide +kernel
theorem d_Sc_write_1 : decode prog_6_method_4_code 1 = .ok (.getfield 15, 3) := by decide +kernel
theorem d_Sc_write_4 : decode prog_6_method_4_code 4 = .ok (.iload_n 1, 1) := by decide +kernel
theorem d_Sc_write_5 : decode prog_6_method_4_code 5 = .ok (.iload_n 2, 1) := by decide +kernel
theorem d_Sc_write_6 : decode prog_6_method_4_code 6 = .ok (.iastore, 1) := by decide +kernel
theorem d_Sc_write_7 : decode prog_6_method_4_code 7 = .ok (.aload_n 0, 1) := by decide +kernel
theorem d_Sc_write_8 : decode prog_6_method_4_code 8 = .ok (.getfield 19, 3) := by decide +kernel
theorem d_Sc_write_11 : decode prog_6_method_4_code 11 = .ok (.iload_n 1, 1) := by decide +kernel
theorem d_Sc_write_12 : decode prog_6_method_4_code 12 = .ok (.iload_n 3, 1) := by decide +kernel
theorem d_Sc_write_13 : decode prog_6_method_4_code 13 = .ok (.iastore, 1) := by decide +kernel
theorem d_Sc_write_14 : decode prog_6_method_4_code 14 = .ok (.aload_n 0, 1) := by decide +kernel
theorem d_Sc_write_15 : decode prog_6_method_4_code 15 = .ok (.getfield 22, 3) := by decide +kernel
theorem d_Sc_write_18 : decode prog_6_method_4_code 18 = .ok (.iload_n 1, 1) := by decide +kernel
theorem d_Sc_write_19 : decode prog_6_method_4_code 19 = .ok (.iload 4, 2) := by decide +kernel
theorem d_Sc_write_21 : decode prog_6_method_4_code 21 = .ok (.iastore, 1) := by decide +kernel
theorem d_Sc_write_22 : decode prog_6_method_4_code 22 = .ok (.return_, 1) := by decide +kernel
def f_Sc_write (M : cs_Mem) (j : Nat) (x1 : Int32) (x2 : Int32) (x3 : Int32) (x4 : Int32) : cs_Mem :=
  cs_bd (cs_up M (j + 1) (upd (M (j + 1)) x1.toNatClampNeg x2)) fun (N2 : cs_Mem) =>
  cs_bd (cs_up N2 (j + 2) (upd (N2 (j + 2)) x1.toNatClampNeg x3)) fun (N4 : cs_Mem) =>
  cs_bd (cs_up N4 (j + 3) (upd (N4 (j + 3)) x1.toNatClampNeg x4)) fun (N6 : cs_Mem) =>
  N6
def pre_Sc_write (M : cs_Mem) (j : Nat) (x1 : Int32) (x2 : Int32) (x3 : Int32) (x4 : Int32) : Prop :=
  (vp_in x1 (cs_ln M (j + 1))) ∧
  cs_bd (cs_up M (j + 1) (upd (M (j + 1)) x1.toNatClampNeg x2)) fun (N2 : cs_Mem) =>
  (vp_in x1 (cs_ln N2 (j + 2))) ∧
  cs_bd (cs_up N2 (j + 2) (upd (N2 (j + 2)) x1.toNatClampNeg x3)) fun (N4 : cs_Mem) =>
  (vp_in x1 (cs_ln N4 (j + 3))) ∧
  True
set_option maxHeartbeats 4000000 in
set_option maxRecDepth 100000 in
theorem c_Sc_write (l : Launch) (D : va_G) (cA : Nat → ClassId) (ad : Nat → Nat) (M : cs_Mem) (j : Nat) (hj : cs_is 2 j) (x1 : Int32) (x2 : Int32) (x3 : Int32) (x4 : Int32) (hp : pre_Sc_write M j x1 x2 x3 x4) : cs_Cv l ⟨"ClassStarter$Script", "write", "(IIII)V"⟩ prog_6_method_4_code 5 none ({ frames := 0, cells := 0, slots := 0, locals := 0 }) D cA ad M [.ref (ad j), .int x1, .int x2, .int x3, .int x4] (f_Sc_write M j x1 x2 x3 x4) := by
  refine cs_entry (by decide) (Nat.le_of_ble_eq_true rfl) (fun p e s m below meth c A ls hC hr hlk _ hw hl => ?_)
  have hx := hC.1
  have hb := hC.2.1
  have hl : lv_has ls 5 [(0, .ref (ad j)), (1, .int x1), (2, .int x2), (3, .int x3), (4, .int x4)] := hl
  generalize hF : f_Sc_write M j x1 x2 x3 x4 = F
  have hf := hF.symm
  unfold f_Sc_write at hf
  unfold pre_Sc_write at hp
  refine lv_aload_n hx hb d_Sc_write_0 rfl (lv_at hl 0 rfl) ?_
  refine gf_Sc_actions hC hw hj wd_75 d_Sc_write_1 ?_
  refine lv_iload_n hx hb d_Sc_write_4 rfl (lv_at hl 1 rfl) ?_
  refine lv_iload_n hx hb d_Sc_write_5 rfl (lv_at hl 2 rfl) ?_
  have o1 := hp.1
  have hp := hp.2
  refine cs_iast hC hw (is_Sc1 hj) o1 d_Sc_write_6 (fun N2 H locs eN2 hw => ?_)
  have hp := cs_bdP eN2 hp
  have hf := cs_bdE eN2 hf
  refine lv_aload_n hx hb d_Sc_write_7 rfl (lv_at hl 0 rfl) ?_
  refine gf_Sc_firstOperands hC hw hj wd_76 d_Sc_write_8 ?_
  refine lv_iload_n hx hb d_Sc_write_11 rfl (lv_at hl 1 rfl) ?_
  refine lv_iload_n hx hb d_Sc_write_12 rfl (lv_at hl 3 rfl) ?_
  have o3 := hp.1
  have hp := hp.2
  refine cs_iast hC hw (is_Sc2 hj) o3 d_Sc_write_13 (fun N4 H locs eN4 hw => ?_)
  have hp := cs_bdP eN4 hp
  have hf := cs_bdE eN4 hf
  refine lv_aload_n hx hb d_Sc_write_14 rfl (lv_at hl 0 rfl) ?_
  refine gf_Sc_secondOperands hC hw hj wd_77 d_Sc_write_15 ?_
  refine lv_iload_n hx hb d_Sc_write_18 rfl (lv_at hl 1 rfl) ?_
  refine lv_iload hx hb d_Sc_write_19 (lv_at hl 4 rfl) ?_
  have o5 := hp.1
  have hp := hp.2
  refine cs_iast hC hw (is_Sc3 hj) o5 d_Sc_write_21 (fun N6 H locs eN6 hw => ?_)
  have hf := cs_bdE eN6 hf
  exact cs_vret hC hw hr hlk hf d_Sc_write_22
theorem d_Sc_addUseAhead_0 : decode prog_6_method_2_code 0 = .ok (.aload_n 0, 1) := by decide +kernel
theorem d_Sc_addUseAhead_1 : decode prog_6_method_2_code 1 = .ok (.getfield 25, 3) := by decide +kernel
theorem d_Sc_addUseAhead_4 : decode prog_6_method_2_code 4 = .ok (.aload_n 0, 1) := by decide +kernel
theorem d_Sc_addUseAhead_5 : decode prog_6_method_2_code 5 = .ok (.getfield 15, 3) := by decide +kernel
theorem d_Sc_addUseAhead_8 : decode prog_6_method_2_code 8 = .ok (.arraylength, 1) := by decide +kernel
theorem d_Sc_addUseAhead_9 : decode prog_6_method_2_code 9 = .ok (.if_icmp .lt 4, 3) := by decide +kernel
theorem d_Sc_addUseAhead_12 : decode prog_6_method_2_code 12 = .ok (.return_, 1) := by decide +kernel
theorem d_Sc_addUseAhead_13 : decode prog_6_method_2_code 13 = .ok (.aload_n 0, 1) := by decide +kernel
theorem d_Sc_addUseAhead_14 : decode prog_6_method_2_code 14 = .ok (.getfield 25, 3) := by decide +kernel
theorem d_Sc_addUseAhead_17 : decode prog_6_method_2_code 17 = .ok (.aload_n 0, 1) := by decide +kernel
theorem d_Sc_addUseAhead_18 : decode prog_6_method_2_code 18 = .ok (.getfield 28, 3) := by decide +kernel
theorem d_Sc_addUseAhead_21 : decode prog_6_method_2_code 21 = .ok (.isub, 1) := by decide +kernel
theorem d_Sc_addUseAhead_22 : decode prog_6_method_2_code 22 = .ok (.istore_n 2, 1) := by decide +kernel
theorem d_Sc_addUseAhead_23 : decode prog_6_method_2_code 23 = .ok (.aload_n 0, 1) := by decide +kernel
theorem d_Sc_addUseAhead_24 : decode prog_6_method_2_code 24 = .ok (.getfield 15, 3) := by decide +kernel
theorem d_Sc_addUseAhead_27 : decode prog_6_method_2_code 27 = .ok (.aload_n 0, 1) := by decide +kernel
theorem d_Sc_addUseAhead_28 : decode prog_6_method_2_code 28 = .ok (.getfield 28, 3) := by decide +kernel
theorem d_Sc_addUseAhead_31 : decode prog_6_method_2_code 31 = .ok (.aload_n 0, 1) := by decide +kernel
theorem d_Sc_addUseAhead_32 : decode prog_6_method_2_code 32 = .ok (.getfield 15, 3) := by decide +kernel
theorem d_Sc_addUseAhead_35 : decode prog_6_method_2_code 35 = .ok (.aload_n 0, 1) := by decide +kernel
theorem d_Sc_addUseAhead_36 : decode prog_6_method_2_code 36 = .ok (.getfield 28, 3) := by decide +kernel
theorem d_Sc_addUseAhead_39 : decode prog_6_method_2_code 39 = .ok (.iconst 1, 1) := by decide +kernel
theorem d_Sc_addUseAhead_40 : decode prog_6_method_2_code 40 = .ok (.iadd, 1) := by decide +kernel
theorem d_Sc_addUseAhead_41 : decode prog_6_method_2_code 41 = .ok (.iload_n 2, 1) := by decide +kernel
theorem d_Sc_addUseAhead_42 : decode prog_6_method_2_code 42 = .ok (.invokestatic 31, 3) := by decide +kernel
theorem d_Sc_addUseAhead_45 : decode prog_6_method_2_code 45 = .ok (.aload_n 0, 1) := by decide +kernel
theorem d_Sc_addUseAhead_46 : decode prog_6_method_2_code 46 = .ok (.getfield 19, 3) := by decide +kernel
theorem d_Sc_addUseAhead_49 : decode prog_6_method_2_code 49 = .ok (.aload_n 0, 1) := by decide +kernel
theorem d_Sc_addUseAhead_50 : decode prog_6_method_2_code 50 = .ok (.getfield 28, 3) := by decide +kernel
theorem d_Sc_addUseAhead_53 : decode prog_6_method_2_code 53 = .ok (.aload_n 0, 1) := by decide +kernel
theorem d_Sc_addUseAhead_54 : decode prog_6_method_2_code 54 = .ok (.getfield 19, 3) := by decide +kernel
theorem d_Sc_addUseAhead_57 : decode prog_6_method_2_code 57 = .ok (.aload_n 0, 1) := by decide +kernel
theorem d_Sc_addUseAhead_58 : decode prog_6_method_2_code 58 = .ok (.getfield 28, 3) := by decide +kernel
theorem d_Sc_addUseAhead_61 : decode prog_6_method_2_code 61 = .ok (.iconst 1, 1) := by decide +kernel
theorem d_Sc_addUseAhead_62 : decode prog_6_method_2_code 62 = .ok (.iadd, 1) := by decide +kernel
theorem d_Sc_addUseAhead_63 : decode prog_6_method_2_code 63 = .ok (.iload_n 2, 1) := by decide +kernel
theorem d_Sc_addUseAhead_64 : decode prog_6_method_2_code 64 = .ok (.invokestatic 31, 3) := by decide +kernel
theorem d_Sc_addUseAhead_67 : decode prog_6_method_2_code 67 = .ok (.aload_n 0, 1) := by decide +kernel
theorem d_Sc_addUseAhead_68 : decode prog_6_method_2_code 68 = .ok (.getfield 22, 3) := by decide +kernel
theorem d_Sc_addUseAhead_71 : decode prog_6_method_2_code 71 = .ok (.aload_n 0, 1) := by decide +kernel
theorem d_Sc_addUseAhead_72 : decode prog_6_method_2_code 72 = .ok (.getfield 28, 3) := by decide +kernel
theorem d_Sc_addUseAhead_75 : decode prog_6_method_2_code 75 = .ok (.aload_n 0, 1) := by decide +kernel
theorem d_Sc_addUseAhead_76 : decode prog_6_method_2_code 76 = .ok (.getfield 22, 3) := by decide +kernel
theorem d_Sc_addUseAhead_79 : decode prog_6_method_2_code 79 = .ok (.aload_n 0, 1) := by decide +kernel
theorem d_Sc_addUseAhead_80 : decode prog_6_method_2_code 80 = .ok (.getfield 28, 3) := by decide +kernel
theorem d_Sc_addUseAhead_83 : decode prog_6_method_2_code 83 = .ok (.iconst 1, 1) := by decide +kernel
theorem d_Sc_addUseAhead_84 : decode prog_6_method_2_code 84 = .ok (.iadd, 1) := by decide +kernel
theorem d_Sc_addUseAhead_85 : decode prog_6_method_2_code 85 = .ok (.iload_n 2, 1) := by decide +kernel
theorem d_Sc_addUseAhead_86 : decode prog_6_method_2_code 86 = .ok (.invokestatic 31, 3) := by decide +kernel
theorem d_Sc_addUseAhead_89 : decode prog_6_method_2_code 89 = .ok (.aload_n 0, 1) := by decide +kernel
theorem d_Sc_addUseAhead_90 : decode prog_6_method_2_code 90 = .ok (.dup, 1) := by decide +kernel
theorem d_Sc_addUseAhead_91 : decode prog_6_method_2_code 91 = .ok (.getfield 25, 3) := by decide +kernel
theorem d_Sc_addUseAhead_94 : decode prog_6_method_2_code 94 = .ok (.iconst 1, 1) := by decide +kernel
theorem d_Sc_addUseAhead_95 : decode prog_6_method_2_code 95 = .ok (.iadd, 1) := by decide +kernel
theorem d_Sc_addUseAhead_96 : decode prog_6_method_2_code 96 = .ok (.putfield 25, 3) := by decide +kernel
theorem d_Sc_addUseAhead_99 : decode prog_6_method_2_code 99 = .ok (.aload_n 0, 1) := by decide +kernel
theorem d_Sc_addUseAhead_100 : decode prog_6_method_2_code 100 = .ok (.aload_n 0, 1) := by decide +kernel
theorem d_Sc_addUseAhead_101 : decode prog_6_method_2_code 101 = .ok (.getfield 28, 3) := by decide +kernel
theorem d_Sc_addUseAhead_104 : decode prog_6_method_2_code 104 = .ok (.iconst 0, 1) := by decide +kernel
theorem d_Sc_addUseAhead_105 : decode prog_6_method_2_code 105 = .ok (.iload_n 1, 1) := by decide +kernel
theorem d_Sc_addUseAhead_106 : decode prog_6_method_2_code 106 = .ok (.iconst 0, 1) := by decide +kernel
theorem d_Sc_addUseAhead_107 : decode prog_6_method_2_code 107 = .ok (.invokevirtual 37, 3) := by decide +kernel
theorem d_Sc_addUseAhead_110 : decode prog_6_method_2_code 110 = .ok (.aload_n 0, 1) := by decide +kernel
theorem d_Sc_addUseAhead_111 : decode prog_6_method_2_code 111 = .ok (.dup, 1) := by decide +kernel
theorem d_Sc_addUseAhead_112 : decode prog_6_method_2_code 112 = .ok (.getfield 28, 3) := by decide +kernel
theorem d_Sc_addUseAhead_115 : decode prog_6_method_2_code 115 = .ok (.iconst 1, 1) := by decide +kernel
theorem d_Sc_addUseAhead_116 : decode prog_6_method_2_code 116 = .ok (.iadd, 1) := by decide +kernel
theorem d_Sc_addUseAhead_117 : decode prog_6_method_2_code 117 = .ok (.putfield 28, 3) := by decide +kernel
theorem d_Sc_addUseAhead_120 : decode prog_6_method_2_code 120 = .ok (.return_, 1) := by decide +kernel
def f_Sc_addUseAhead (M : cs_Mem) (j : Nat) (x1 : Int32) : cs_Mem :=
  if (M j 5) < (nI (cs_ln M (j + 1))) then
    cs_bd ((M j 5) - (M j 4)) fun (z2 : Int32) =>
    cs_bd (cs_up M (j + 1) (va_cpy (M (j + 1)) (M (j + 1)) (M j 4).toNatClampNeg ((M j 4) + 1).toNatClampNeg z2.toNatClampNeg)) fun (N8 : cs_Mem) =>
    cs_bd (cs_up N8 (j + 2) (va_cpy (N8 (j + 2)) (N8 (j + 2)) (N8 j 4).toNatClampNeg ((N8 j 4) + 1).toNatClampNeg z2.toNatClampNeg)) fun (N14 : cs_Mem) =>
    cs_bd (cs_up N14 (j + 3) (va_cpy (N14 (j + 3)) (N14 (j + 3)) (N14 j 4).toNatClampNeg ((N14 j 4) + 1).toNatClampNeg z2.toNatClampNeg)) fun (N20 : cs_Mem) =>
    cs_bd (cs_up N20 j (upd (N20 j) 5 ((N20 j 5) + 1))) fun (N21 : cs_Mem) =>
    cs_bd (f_Sc_write N21 j (N21 j 4) 0 x1 0) fun (u23 : cs_Mem) =>
    cs_bd (cs_up u23 j (upd (u23 j) 4 ((u23 j 4) + 1))) fun (N24 : cs_Mem) =>
    N24
  else
    M
def pre_Sc_addUseAhead (M : cs_Mem) (j : Nat) (x1 : Int32) : Prop :=
  ((M j 5) < (nI (cs_ln M (j + 1))) →
    cs_bd ((M j 5) - (M j 4)) fun (z2 : Int32) =>
    (¬ ((M j 4) : Int32) < 0) ∧
    (¬ (((M j 4) + 1) : Int32) < 0) ∧
    (¬ (z2 : Int32) < 0) ∧
    ((M j 4).toNatClampNeg + z2.toNatClampNeg ≤ cs_ln M (j + 1)) ∧
    (((M j 4) + 1).toNatClampNeg + z2.toNatClampNeg ≤ cs_ln M (j + 1)) ∧
    cs_bd (cs_up M (j + 1) (va_cpy (M (j + 1)) (M (j + 1)) (M j 4).toNatClampNeg ((M j 4) + 1).toNatClampNeg z2.toNatClampNeg)) fun (N8 : cs_Mem) =>
    (¬ ((N8 j 4) : Int32) < 0) ∧
    (¬ (((N8 j 4) + 1) : Int32) < 0) ∧
    (¬ (z2 : Int32) < 0) ∧
    ((N8 j 4).toNatClampNeg + z2.toNatClampNeg ≤ cs_ln N8 (j + 2)) ∧
    (((N8 j 4) + 1).toNatClampNeg + z2.toNatClampNeg ≤ cs_ln N8 (j + 2)) ∧
    cs_bd (cs_up N8 (j + 2) (va_cpy (N8 (j + 2)) (N8 (j + 2)) (N8 j 4).toNatClampNeg ((N8 j 4) + 1).toNatClampNeg z2.toNatClampNeg)) fun (N14 : cs_Mem) =>
    (¬ ((N14 j 4) : Int32) < 0) ∧
    (¬ (((N14 j 4) + 1) : Int32) < 0) ∧
    (¬ (z2 : Int32) < 0) ∧
    ((N14 j 4).toNatClampNeg + z2.toNatClampNeg ≤ cs_ln N14 (j + 3)) ∧
    (((N14 j 4) + 1).toNatClampNeg + z2.toNatClampNeg ≤ cs_ln N14 (j + 3)) ∧
    cs_bd (cs_up N14 (j + 3) (va_cpy (N14 (j + 3)) (N14 (j + 3)) (N14 j 4).toNatClampNeg ((N14 j 4) + 1).toNatClampNeg z2.toNatClampNeg)) fun (N20 : cs_Mem) =>
    cs_bd (cs_up N20 j (upd (N20 j) 5 ((N20 j 5) + 1))) fun (N21 : cs_Mem) =>
    (pre_Sc_write N21 j (N21 j 4) 0 x1 0) ∧
    True
  ) ∧ (¬ ((M j 5) < (nI (cs_ln M (j + 1)))) →
    True
  )
set_option maxHeartbeats 4000000 in
set_option maxRecDepth 100000 in
theorem c_Sc_addUseAhead (l : Launch) (D : va_G) (cA : Nat → ClassId) (ad : Nat → Nat) (M : cs_Mem) (j : Nat) (hj : cs_is 2 j) (x1 : Int32) (hp : pre_Sc_addUseAhead M j x1) : cs_Cv l ⟨"ClassStarter$Script", "addUseAhead", "(I)V"⟩ prog_6_method_2_code 3 none ({ frames := 1, cells := 0, slots := 0, locals := 40 }) D cA ad M [.ref (ad j), .int x1] (f_Sc_addUseAhead M j x1) := by
  refine cs_entry (by decide) (Nat.le_of_ble_eq_true rfl) (fun p e s m below meth c A ls hC hr hlk _ hw hl => ?_)
  have hx := hC.1
  have hb := hC.2.1
  have hl : lv_has ls 3 [(0, .ref (ad j)), (1, .int x1)] := hl
  generalize hF : f_Sc_addUseAhead M j x1 = F
  have hf := hF.symm
  unfold f_Sc_addUseAhead at hf
  unfold pre_Sc_addUseAhead at hp
  refine lv_aload_n hx hb d_Sc_addUseAhead_0 rfl (lv_at hl 0 rfl) ?_
  refine gf_Sc_length hC hw hj wd_79 d_Sc_addUseAhead_1 ?_
  refine lv_aload_n hx hb d_Sc_addUseAhead_4 rfl (lv_at hl 0 rfl) ?_
  refine gf_Sc_actions hC hw hj wd_75 d_Sc_addUseAhead_5 ?_
  refine cs_ialen hC hw (is_Sc1 hj) d_Sc_addUseAhead_8 ?_
  refine lv_icmp_lt (tgt := 13) hx hb d_Sc_addUseAhead_9 (by decide) (fun c1 => ?_) (fun c1 => ?_)
  · have hp := hp.1 c1
    have hf := hf.trans (if_pos c1)
    refine lv_aload_n hx hb d_Sc_addUseAhead_13 rfl (lv_at hl 0 rfl) ?_
    refine gf_Sc_length hC hw hj wd_79 d_Sc_addUseAhead_14 ?_
    refine lv_aload_n hx hb d_Sc_addUseAhead_17 rfl (lv_at hl 0 rfl) ?_
    refine gf_Sc_usesAhead hC hw hj wd_78 d_Sc_addUseAhead_18 ?_
    refine lv_isub hx hb d_Sc_addUseAhead_21 ?_
    refine lv_topi (fun z2 ez2 => ?_)
    have hp := cs_bdP ez2 hp
    have hf := cs_bdE ez2 hf
    refine lv_istore_n (lv' := [(2, .int z2), (0, .ref (ad j)), (1, .int x1)]) hx hb d_Sc_addUseAhead_22 rfl hl (by decide) rfl (fun ls hl => ?_)
    refine lv_aload_n hx hb d_Sc_addUseAhead_23 rfl (lv_at hl 1 rfl) ?_
    refine gf_Sc_actions hC hw hj wd_75 d_Sc_addUseAhead_24 ?_
    refine lv_aload_n hx hb d_Sc_addUseAhead_27 rfl (lv_at hl 1 rfl) ?_
    refine gf_Sc_usesAhead hC hw hj wd_78 d_Sc_addUseAhead_28 ?_
    refine lv_aload_n hx hb d_Sc_addUseAhead_31 rfl (lv_at hl 1 rfl) ?_
    refine gf_Sc_actions hC hw hj wd_75 d_Sc_addUseAhead_32 ?_
    refine lv_aload_n hx hb d_Sc_addUseAhead_35 rfl (lv_at hl 1 rfl) ?_
    refine gf_Sc_usesAhead hC hw hj wd_78 d_Sc_addUseAhead_36 ?_
    refine lv_iconst (v := 1) hx hb d_Sc_addUseAhead_39 (by decide) ?_
    refine lv_iadd hx hb d_Sc_addUseAhead_40 ?_
    refine lv_iload_n hx hb d_Sc_addUseAhead_41 rfl (lv_at hl 0 rfl) ?_
    have o3 := hp.1
    have hp := hp.2
    have o4 := hp.1
    have hp := hp.2
    have o5 := hp.1
    have hp := hp.2
    have o6 := hp.1
    have hp := hp.2
    have o7 := hp.1
    have hp := hp.2
    refine cs_icpy hC hw hl.1 (is_Sc1 hj) (is_Sc1 hj) wd_207 cs_acN cs_acS cs_acI o3 o4 o5 o6 o7 (Nat.le_of_ble_eq_true rfl) (Nat.le_of_ble_eq_true rfl) d_Sc_addUseAhead_42 (fun N8 H locs eN8 hw => ?_)
    have hp := cs_bdP eN8 hp
    have hf := cs_bdE eN8 hf
    refine lv_aload_n hx hb d_Sc_addUseAhead_45 rfl (lv_at hl 1 rfl) ?_
    refine gf_Sc_firstOperands hC hw hj wd_76 d_Sc_addUseAhead_46 ?_
    refine lv_aload_n hx hb d_Sc_addUseAhead_49 rfl (lv_at hl 1 rfl) ?_
    refine gf_Sc_usesAhead hC hw hj wd_78 d_Sc_addUseAhead_50 ?_
    refine lv_aload_n hx hb d_Sc_addUseAhead_53 rfl (lv_at hl 1 rfl) ?_
    refine gf_Sc_firstOperands hC hw hj wd_76 d_Sc_addUseAhead_54 ?_
    refine lv_aload_n hx hb d_Sc_addUseAhead_57 rfl (lv_at hl 1 rfl) ?_
    refine gf_Sc_usesAhead hC hw hj wd_78 d_Sc_addUseAhead_58 ?_
    refine lv_iconst (v := 1) hx hb d_Sc_addUseAhead_61 (by decide) ?_
    refine lv_iadd hx hb d_Sc_addUseAhead_62 ?_
    refine lv_iload_n hx hb d_Sc_addUseAhead_63 rfl (lv_at hl 0 rfl) ?_
    have o9 := hp.1
    have hp := hp.2
    have o10 := hp.1
    have hp := hp.2
    have o11 := hp.1
    have hp := hp.2
    have o12 := hp.1
    have hp := hp.2
    have o13 := hp.1
    have hp := hp.2
    refine cs_icpy hC hw hl.1 (is_Sc2 hj) (is_Sc2 hj) wd_207 cs_acN cs_acS cs_acI o9 o10 o11 o12 o13 (Nat.le_of_ble_eq_true rfl) (Nat.le_of_ble_eq_true rfl) d_Sc_addUseAhead_64 (fun N14 H locs eN14 hw => ?_)
    have hp := cs_bdP eN14 hp
    have hf := cs_bdE eN14 hf
    refine lv_aload_n hx hb d_Sc_addUseAhead_67 rfl (lv_at hl 1 rfl) ?_
    refine gf_Sc_secondOperands hC hw hj wd_77 d_Sc_addUseAhead_68 ?_
    refine lv_aload_n hx hb d_Sc_addUseAhead_71 rfl (lv_at hl 1 rfl) ?_
    refine gf_Sc_usesAhead hC hw hj wd_78 d_Sc_addUseAhead_72 ?_
    refine lv_aload_n hx hb d_Sc_addUseAhead_75 rfl (lv_at hl 1 rfl) ?_
    refine gf_Sc_secondOperands hC hw hj wd_77 d_Sc_addUseAhead_76 ?_
    refine lv_aload_n hx hb d_Sc_addUseAhead_79 rfl (lv_at hl 1 rfl) ?_
    refine gf_Sc_usesAhead hC hw hj wd_78 d_Sc_addUseAhead_80 ?_
    refine lv_iconst (v := 1) hx hb d_Sc_addUseAhead_83 (by decide) ?_
    refine lv_iadd hx hb d_Sc_addUseAhead_84 ?_
    refine lv_iload_n hx hb d_Sc_addUseAhead_85 rfl (lv_at hl 0 rfl) ?_
    have o15 := hp.1
    have hp := hp.2
    have o16 := hp.1
    have hp := hp.2
    have o17 := hp.1
    have hp := hp.2
    have o18 := hp.1
    have hp := hp.2
    have o19 := hp.1
    have hp := hp.2
    refine cs_icpy hC hw hl.1 (is_Sc3 hj) (is_Sc3 hj) wd_207 cs_acN cs_acS cs_acI o15 o16 o17 o18 o19 (Nat.le_of_ble_eq_true rfl) (Nat.le_of_ble_eq_true rfl) d_Sc_addUseAhead_86 (fun N20 H locs eN20 hw => ?_)
    have hp := cs_bdP eN20 hp
    have hf := cs_bdE eN20 hf
    refine lv_aload_n hx hb d_Sc_addUseAhead_89 rfl (lv_at hl 1 rfl) ?_
    refine lv_dup hx hb d_Sc_addUseAhead_90 rfl ?_
    refine gf_Sc_length hC hw hj wd_79 d_Sc_addUseAhead_91 ?_
    refine lv_iconst (v := 1) hx hb d_Sc_addUseAhead_94 (by decide) ?_
    refine lv_iadd hx hb d_Sc_addUseAhead_95 ?_
    refine pf_Sc_length hC hw hj wd_79 d_Sc_addUseAhead_96 (fun N21 H locs eN21 hw => ?_)
    have hp := cs_bdP eN21 hp
    have hf := cs_bdE eN21 hf
    refine lv_aload_n hx hb d_Sc_addUseAhead_99 rfl (lv_at hl 1 rfl) ?_
    refine lv_aload_n hx hb d_Sc_addUseAhead_100 rfl (lv_at hl 1 rfl) ?_
    refine gf_Sc_usesAhead hC hw hj wd_78 d_Sc_addUseAhead_101 ?_
    refine lv_iconst (v := 0) hx hb d_Sc_addUseAhead_104 (by decide) ?_
    refine lv_iload_n hx hb d_Sc_addUseAhead_105 rfl (lv_at hl 2 rfl) ?_
    refine lv_iconst (v := 0) hx hb d_Sc_addUseAhead_106 (by decide) ?_
    have o22 := hp.1
    have hp := hp.2
    refine cs_ret_v hC hw (cs_runV (As := [.int (N21 j 4), .int 0, .int x1, .int 0]) (rest := []) hC hw hj.2 (ci := 2) rfl rfl (cs_sg_is hj) (c_Sc_write l D cA ad N21 j hj (N21 j 4) 0 x1 0 o22 _) rfl rfl cw_Sc_37 ⟨Nat.le_of_ble_eq_true rfl, Nat.le_of_ble_eq_true rfl⟩ hl.1 rfl rfl (Nat.le_of_ble_eq_true rfl) d_Sc_addUseAhead_107 ⟨Nat.zero_le _, Nat.zero_le _⟩) (fun u23 H locs eu23 hw => ?_)
    have hf := cs_bdE eu23 hf
    refine lv_aload_n hx hb d_Sc_addUseAhead_110 rfl (lv_at hl 1 rfl) ?_
    refine lv_dup hx hb d_Sc_addUseAhead_111 rfl ?_
    refine gf_Sc_usesAhead hC hw hj wd_78 d_Sc_addUseAhead_112 ?_
    refine lv_iconst (v := 1) hx hb d_Sc_addUseAhead_115 (by decide) ?_
    refine lv_iadd hx hb d_Sc_addUseAhead_116 ?_
    refine pf_Sc_usesAhead hC hw hj wd_78 d_Sc_addUseAhead_117 (fun N24 H locs eN24 hw => ?_)
    have hf := cs_bdE eN24 hf
    exact cs_vret hC hw hr hlk hf d_Sc_addUseAhead_120
  · have hp := hp.2 c1
    have hf := hf.trans (if_neg c1)
    exact cs_vret hC hw hr hlk hf d_Sc_addUseAhead_12
theorem d_Sc_addLast_0 : decode prog_6_method_3_code 0 = .ok (.aload_n 0, 1) := by decide +kernel
theorem d_Sc_addLast_1 : decode prog_6_method_3_code 1 = .ok (.getfield 25, 3) := by decide +kernel
theorem d_Sc_addLast_4 : decode prog_6_method_3_code 4 = .ok (.aload_n 0, 1) := by decide +kernel
theorem d_Sc_addLast_5 : decode prog_6_method_3_code 5 = .ok (.getfield 28, 3) := by decide +kernel
theorem d_Sc_addLast_8 : decode prog_6_method_3_code 8 = .ok (.isub, 1) := by decide +kernel
theorem d_Sc_addLast_9 : decode prog_6_method_3_code 9 = .ok (.aload_n 0, 1) := by decide +kernel
theorem d_Sc_addLast_10 : decode prog_6_method_3_code 10 = .ok (.getfield 9, 3) := by decide +kernel
theorem d_Sc_addLast_13 : decode prog_6_method_3_code 13 = .ok (.if_icmp .lt 6, 3) := by decide +kernel
theorem d_Sc_addLast_16 : decode prog_6_method_3_code 16 = .ok (.bipush (-2), 2) := by decide +kernel
theorem d_Sc_addLast_18 : decode prog_6_method_3_code 18 = .ok (.ireturn, 1) := by decide +kernel
theorem d_Sc_addLast_19 : decode prog_6_method_3_code 19 = .ok (.aload_n 0, 1) := by decide +kernel
theorem d_Sc_addLast_20 : decode prog_6_method_3_code 20 = .ok (.aload_n 0, 1) := by decide +kernel
theorem d_Sc_addLast_21 : decode prog_6_method_3_code 21 = .ok (.getfield 25, 3) := by decide +kernel
theorem d_Sc_addLast_24 : decode prog_6_method_3_code 24 = .ok (.iload_n 1, 1) := by decide +kernel
theorem d_Sc_addLast_25 : decode prog_6_method_3_code 25 = .ok (.iload_n 2, 1) := by decide +kernel
theorem d_Sc_addLast_26 : decode prog_6_method_3_code 26 = .ok (.iload_n 3, 1) := by decide +kernel
theorem d_Sc_addLast_27 : decode prog_6_method_3_code 27 = .ok (.invokevirtual 37, 3) := by decide +kernel
theorem d_Sc_addLast_30 : decode prog_6_method_3_code 30 = .ok (.aload_n 0, 1) := by decide +kernel
theorem d_Sc_addLast_31 : decode prog_6_method_3_code 31 = .ok (.dup, 1) := by decide +kernel
theorem d_Sc_addLast_32 : decode prog_6_method_3_code 32 = .ok (.getfield 25, 3) := by decide +kernel
theorem d_Sc_addLast_35 : decode prog_6_method_3_code 35 = .ok (.iconst 1, 1) := by decide +kernel
theorem d_Sc_addLast_36 : decode prog_6_method_3_code 36 = .ok (.iadd, 1) := by decide +kernel
theorem d_Sc_addLast_37 : decode prog_6_method_3_code 37 = .ok (.putfield 25, 3) := by decide +kernel
theorem d_Sc_addLast_40 : decode prog_6_method_3_code 40 = .ok (.aload_n 0, 1) := by decide +kernel
theorem d_Sc_addLast_41 : decode prog_6_method_3_code 41 = .ok (.getfield 25, 3) := by decide +kernel
theorem d_Sc_addLast_44 : decode prog_6_method_3_code 44 = .ok (.aload_n 0, 1) := by decide +kernel
theorem d_Sc_addLast_45 : decode prog_6_method_3_code 45 = .ok (.getfield 28, 3) := by decide +kernel
theorem d_Sc_addLast_48 : decode prog_6_method_3_code 48 = .ok (.isub, 1) := by decide +kernel
theorem d_Sc_addLast_49 : decode prog_6_method_3_code 49 = .ok (.ireturn, 1) := by decide +kernel
def f_Sc_addLast (M : cs_Mem) (j : Nat) (x1 : Int32) (x2 : Int32) (x3 : Int32) : Int32 × cs_Mem :=
  if ((M j 5) - (M j 4)) < (M j 0) then
    cs_bd (f_Sc_write M j (M j 5) x1 x2 x3) fun (u3 : cs_Mem) =>
    cs_bd (cs_up u3 j (upd (u3 j) 5 ((u3 j 5) + 1))) fun (N4 : cs_Mem) =>
    ((N4 j 5) - (N4 j 4), N4)
  else
    ((-2), M)
def pre_Sc_addLast (M : cs_Mem) (j : Nat) (x1 : Int32) (x2 : Int32) (x3 : Int32) : Prop :=
  (((M j 5) - (M j 4)) < (M j 0) →
    (pre_Sc_write M j (M j 5) x1 x2 x3) ∧
    True
  ) ∧ (¬ (((M j 5) - (M j 4)) < (M j 0)) →
    True
  )
set_option maxHeartbeats 4000000 in
set_option maxRecDepth 100000 in
theorem c_Sc_addLast (l : Launch) (D : va_G) (cA : Nat → ClassId) (ad : Nat → Nat) (M : cs_Mem) (j : Nat) (hj : cs_is 2 j) (x1 : Int32) (x2 : Int32) (x3 : Int32) (hp : pre_Sc_addLast M j x1 x2 x3) : cs_Ci l ⟨"ClassStarter$Script", "addLast", "(III)I"⟩ prog_6_method_3_code 4 (some .int) ({ frames := 1, cells := 0, slots := 0, locals := 24 }) D cA ad M [.ref (ad j), .int x1, .int x2, .int x3] (f_Sc_addLast M j x1 x2 x3) := by
  refine cs_entry (by decide) (Nat.le_of_ble_eq_true rfl) (fun p e s m below meth c A ls hC hr hlk _ hw hl => ?_)
  have hx := hC.1
  have hb := hC.2.1
  have hl : lv_has ls 4 [(0, .ref (ad j)), (1, .int x1), (2, .int x2), (3, .int x3)] := hl
  generalize hF : f_Sc_addLast M j x1 x2 x3 = F
  have hf := hF.symm
  unfold f_Sc_addLast at hf
  unfold pre_Sc_addLast at hp
  refine lv_aload_n hx hb d_Sc_addLast_0 rfl (lv_at hl 0 rfl) ?_
  refine gf_Sc_length hC hw hj wd_79 d_Sc_addLast_1 ?_
  refine lv_aload_n hx hb d_Sc_addLast_4 rfl (lv_at hl 0 rfl) ?_
  refine gf_Sc_usesAhead hC hw hj wd_78 d_Sc_addLast_5 ?_
  refine lv_isub hx hb d_Sc_addLast_8 ?_
  refine lv_aload_n hx hb d_Sc_addLast_9 rfl (lv_at hl 0 rfl) ?_
  refine gf_Sc_mostActions hC hw hj wd_74 d_Sc_addLast_10 ?_
  refine lv_icmp_lt (tgt := 19) hx hb d_Sc_addLast_13 (by decide) (fun c1 => ?_) (fun c1 => ?_)
  · have hp := hp.1 c1
    have hf := hf.trans (if_pos c1)
    refine lv_aload_n hx hb d_Sc_addLast_19 rfl (lv_at hl 0 rfl) ?_
    refine lv_aload_n hx hb d_Sc_addLast_20 rfl (lv_at hl 0 rfl) ?_
    refine gf_Sc_length hC hw hj wd_79 d_Sc_addLast_21 ?_
    refine lv_iload_n hx hb d_Sc_addLast_24 rfl (lv_at hl 1 rfl) ?_
    refine lv_iload_n hx hb d_Sc_addLast_25 rfl (lv_at hl 2 rfl) ?_
    refine lv_iload_n hx hb d_Sc_addLast_26 rfl (lv_at hl 3 rfl) ?_
    have o2 := hp.1
    have hp := hp.2
    refine cs_ret_v hC hw (cs_runV (As := [.int (M j 5), .int x1, .int x2, .int x3]) (rest := []) hC hw hj.2 (ci := 2) rfl rfl (cs_sg_is hj) (c_Sc_write l D cA ad M j hj (M j 5) x1 x2 x3 o2 _) rfl rfl cw_Sc_37 ⟨Nat.le_of_ble_eq_true rfl, Nat.le_of_ble_eq_true rfl⟩ hl.1 rfl rfl (Nat.le_of_ble_eq_true rfl) d_Sc_addLast_27 ⟨Nat.zero_le _, Nat.zero_le _⟩) (fun u3 H locs eu3 hw => ?_)
    have hf := cs_bdE eu3 hf
    refine lv_aload_n hx hb d_Sc_addLast_30 rfl (lv_at hl 0 rfl) ?_
    refine lv_dup hx hb d_Sc_addLast_31 rfl ?_
    refine gf_Sc_length hC hw hj wd_79 d_Sc_addLast_32 ?_
    refine lv_iconst (v := 1) hx hb d_Sc_addLast_35 (by decide) ?_
    refine lv_iadd hx hb d_Sc_addLast_36 ?_
    refine pf_Sc_length hC hw hj wd_79 d_Sc_addLast_37 (fun N4 H locs eN4 hw => ?_)
    have hf := cs_bdE eN4 hf
    refine lv_aload_n hx hb d_Sc_addLast_40 rfl (lv_at hl 0 rfl) ?_
    refine gf_Sc_length hC hw hj wd_79 d_Sc_addLast_41 ?_
    refine lv_aload_n hx hb d_Sc_addLast_44 rfl (lv_at hl 0 rfl) ?_
    refine gf_Sc_usesAhead hC hw hj wd_78 d_Sc_addLast_45 ?_
    refine lv_isub hx hb d_Sc_addLast_48 ?_
    exact cs_iret hC hw hr hlk hf d_Sc_addLast_49
  · have hp := hp.2 c1
    have hf := hf.trans (if_neg c1)
    refine lv_bipush (v := (-2)) hx hb d_Sc_addLast_16 (by decide) ?_
    exact cs_iret hC hw hr hlk hf d_Sc_addLast_18
theorem d_X_isThread_0 : decode prog_1_method_18_code 0 = .ok (.iload_n 0, 1) := by decide +kernel
theorem d_X_isThread_1 : decode prog_1_method_18_code 1 = .ok (.ifCond .lt 12, 3) := by decide +kernel
theorem d_X_isThread_4 : decode prog_1_method_18_code 4 = .ok (.iload_n 0, 1) := by decide +kernel
theorem d_X_isThread_5 : decode prog_1_method_18_code 5 = .ok (.iconst 3, 1) := by decide +kernel
theorem d_X_isThread_6 : decode prog_1_method_18_code 6 = .ok (.if_icmp .ge 7, 3) := by decide +kernel
theorem d_X_isThread_9 : decode prog_1_method_18_code 9 = .ok (.iconst 1, 1) := by decide +kernel
theorem d_X_isThread_10 : decode prog_1_method_18_code 10 = .ok (.goto 4, 3) := by decide +kernel
theorem d_X_isThread_13 : decode prog_1_method_18_code 13 = .ok (.iconst 0, 1) := by decide +kernel
theorem d_X_isThread_14 : decode prog_1_method_18_code 14 = .ok (.ireturn, 1) := by decide +kernel
def f_X_isThread (M : cs_Mem) (x0 : Int32) : Int32 :=
  if x0 < 0 then
    0
  else
    if 3 ≤ x0 then
      0
    else
      1
set_option maxHeartbeats 4000000 in
set_option maxRecDepth 100000 in
theorem c_X_isThread (l : Launch) (D : va_G) (cA : Nat → ClassId) (ad : Nat → Nat) (M : cs_Mem) (x0 : Int32) : cs_Ci l ⟨"ClassStarter", "isThread", "(I)Z"⟩ prog_1_method_18_code 1 (some .boolean) ({ frames := 0, cells := 0, slots := 0, locals := 0 }) D cA ad M [.int x0] ((f_X_isThread M x0, M)) := by
  refine cs_entry (by decide) (Nat.le_of_ble_eq_true rfl) (fun p e s m below meth c A ls hC hr hlk _ hw hl => ?_)
  have hx := hC.1
  have hb := hC.2.1
  have hl : lv_has ls 1 [(0, .int x0)] := hl
  generalize hF : f_X_isThread M x0 = F
  have hf := hF.symm
  unfold f_X_isThread at hf
  refine lv_iload_n hx hb d_X_isThread_0 rfl (lv_at hl 0 rfl) ?_
  refine lv_if_lt (tgt := 13) hx hb d_X_isThread_1 (by decide) (fun c1 => ?_) (fun c1 => ?_)
  · have hf := hf.trans (if_pos c1)
    refine lv_iconst (v := 0) hx hb d_X_isThread_13 (by decide) ?_
    exact cs_zret hC hw hr hlk (Or.inl rfl) (congrArg (fun z => (z, M)) hf) d_X_isThread_14
  · have hf := hf.trans (if_neg c1)
    refine lv_iload_n hx hb d_X_isThread_4 rfl (lv_at hl 0 rfl) ?_
    refine lv_iconst (v := 3) hx hb d_X_isThread_5 (by decide) ?_
    refine lv_icmp_ge (tgt := 13) hx hb d_X_isThread_6 (by decide) (fun c2 => ?_) (fun c2 => ?_)
    · have hf := hf.trans (if_pos c2)
      refine lv_iconst (v := 0) hx hb d_X_isThread_13 (by decide) ?_
      exact cs_zret hC hw hr hlk (Or.inl rfl) (congrArg (fun z => (z, M)) hf) d_X_isThread_14
    · have hf := hf.trans (if_neg c2)
      refine lv_iconst (v := 1) hx hb d_X_isThread_9 (by decide) ?_
      refine lv_goto (tgt := 14) hx hb d_X_isThread_10 (by decide) ?_
      exact cs_zret hC hw hr hlk (Or.inr rfl) (congrArg (fun z => (z, M)) hf) d_X_isThread_14
theorem d_Sc_length_0 : decode prog_6_method_5_code 0 = .ok (.aload_n 0, 1) := by decide +kernel
theorem d_Sc_length_1 : decode prog_6_method_5_code 1 = .ok (.getfield 25, 3) := by decide +kernel
theorem d_Sc_length_4 : decode prog_6_method_5_code 4 = .ok (.ireturn, 1) := by decide +kernel
def f_Sc_length (M : cs_Mem) (j : Nat) : Int32 :=
  M j 5
set_option maxHeartbeats 4000000 in
set_option maxRecDepth 100000 in
theorem c_Sc_length (l : Launch) (D : va_G) (cA : Nat → ClassId) (ad : Nat → Nat) (M : cs_Mem) (j : Nat) (hj : cs_is 2 j) : cs_Ci l ⟨"ClassStarter$Script", "length", "()I"⟩ prog_6_method_5_code 1 (some .int) ({ frames := 0, cells := 0, slots := 0, locals := 0 }) D cA ad M [.ref (ad j)] ((f_Sc_length M j, M)) := by
  refine cs_entry (by decide) (Nat.le_of_ble_eq_true rfl) (fun p e s m below meth c A ls hC hr hlk _ hw hl => ?_)
  have hx := hC.1
  have hb := hC.2.1
  have hl : lv_has ls 1 [(0, .ref (ad j))] := hl
  generalize hF : f_Sc_length M j = F
  have hf := hF.symm
  unfold f_Sc_length at hf
  refine lv_aload_n hx hb d_Sc_length_0 rfl (lv_at hl 0 rfl) ?_
  refine gf_Sc_length hC hw hj wd_79 d_Sc_length_1 ?_
  exact cs_iret hC hw hr hlk (congrArg (fun z => (z, M)) hf) d_Sc_length_4
theorem d_Sc_actionAt_0 : decode prog_6_method_6_code 0 = .ok (.iload_n 1, 1) := by decide +kernel
theorem d_Sc_actionAt_1 : decode prog_6_method_6_code 1 = .ok (.aload_n 0, 1) := by decide +kernel
theorem d_Sc_actionAt_2 : decode prog_6_method_6_code 2 = .ok (.getfield 25, 3) := by decide +kernel
theorem d_Sc_actionAt_5 : decode prog_6_method_6_code 5 = .ok (.if_icmp .ge 12, 3) := by decide +kernel
theorem d_Sc_actionAt_8 : decode prog_6_method_6_code 8 = .ok (.aload_n 0, 1) := by decide +kernel
theorem d_Sc_actionAt_9 : decode prog_6_method_6_code 9 = .ok (.getfield 15, 3) := by decide +kernel
theorem d_Sc_actionAt_12 : decode prog_6_method_6_code 12 = .ok (.iload_n 1, 1) := by decide +kernel
theorem d_Sc_actionAt_13 : decode prog_6_method_6_code 13 = .ok (.iaload, 1) := by decide +kernel
theorem d_Sc_actionAt_14 : decode prog_6_method_6_code 14 = .ok (.goto 4, 3) := by decide +kernel
theorem d_Sc_actionAt_17 : decode prog_6_method_6_code 17 = .ok (.iconst (-1), 1) := by decide +kernel
theorem d_Sc_actionAt_18 : decode prog_6_method_6_code 18 = .ok (.ireturn, 1) := by decide +kernel
def f_Sc_actionAt (M : cs_Mem) (j : Nat) (x1 : Int32) : Int32 :=
  if (M j 5) ≤ x1 then
    (-1)
  else
    M (j + 1) x1.toNatClampNeg
def pre_Sc_actionAt (M : cs_Mem) (j : Nat) (x1 : Int32) : Prop :=
  ((M j 5) ≤ x1 →
    True
  ) ∧ (¬ ((M j 5) ≤ x1) →
    (vp_in x1 (cs_ln M (j + 1))) ∧
    True
  )
set_option maxHeartbeats 4000000 in
set_option maxRecDepth 100000 in
theorem c_Sc_actionAt (l : Launch) (D : va_G) (cA : Nat → ClassId) (ad : Nat → Nat) (M : cs_Mem) (j : Nat) (hj : cs_is 2 j) (x1 : Int32) (hp : pre_Sc_actionAt M j x1) : cs_Ci l ⟨"ClassStarter$Script", "actionAt", "(I)I"⟩ prog_6_method_6_code 2 (some .int) ({ frames := 0, cells := 0, slots := 0, locals := 0 }) D cA ad M [.ref (ad j), .int x1] ((f_Sc_actionAt M j x1, M)) := by
  refine cs_entry (by decide) (Nat.le_of_ble_eq_true rfl) (fun p e s m below meth c A ls hC hr hlk _ hw hl => ?_)
  have hx := hC.1
  have hb := hC.2.1
  have hl : lv_has ls 2 [(0, .ref (ad j)), (1, .int x1)] := hl
  generalize hF : f_Sc_actionAt M j x1 = F
  have hf := hF.symm
  unfold f_Sc_actionAt at hf
  unfold pre_Sc_actionAt at hp
  refine lv_iload_n hx hb d_Sc_actionAt_0 rfl (lv_at hl 1 rfl) ?_
  refine lv_aload_n hx hb d_Sc_actionAt_1 rfl (lv_at hl 0 rfl) ?_
  refine gf_Sc_length hC hw hj wd_79 d_Sc_actionAt_2 ?_
  refine lv_icmp_ge (tgt := 17) hx hb d_Sc_actionAt_5 (by decide) (fun c1 => ?_) (fun c1 => ?_)
  · have hp := hp.1 c1
    have hf := hf.trans (if_pos c1)
    refine lv_iconst (v := (-1)) hx hb d_Sc_actionAt_17 (by decide) ?_
    exact cs_iret hC hw hr hlk (congrArg (fun z => (z, M)) hf) d_Sc_actionAt_18
  · have hp := hp.2 c1
    have hf := hf.trans (if_neg c1)
    refine lv_aload_n hx hb d_Sc_actionAt_8 rfl (lv_at hl 0 rfl) ?_
    refine gf_Sc_actions hC hw hj wd_75 d_Sc_actionAt_9 ?_
    refine lv_iload_n hx hb d_Sc_actionAt_12 rfl (lv_at hl 1 rfl) ?_
    have o2 := hp.1
    have hp := hp.2
    refine cs_iald hC hw (is_Sc1 hj) o2 d_Sc_actionAt_13 ?_
    refine lv_goto (tgt := 18) hx hb d_Sc_actionAt_14 (by decide) ?_
    exact cs_iret hC hw hr hlk (congrArg (fun z => (z, M)) hf) d_Sc_actionAt_18
theorem d_Sc_firstOperandAt_0 : decode prog_6_method_7_code 0 = .ok (.aload_n 0, 1) := by decide +kernel
theorem d_Sc_firstOperandAt_1 : decode prog_6_method_7_code 1 = .ok (.getfield 19, 3) := by decide +kernel
theorem d_Sc_firstOperandAt_4 : decode prog_6_method_7_code 4 = .ok (.iload_n 1, 1) := by decide +kernel
theorem d_Sc_firstOperandAt_5 : decode prog_6_method_7_code 5 = .ok (.iaload, 1) := by decide +kernel
theorem d_Sc_firstOperandAt_6 : decode prog_6_method_7_code 6 = .ok (.ireturn, 1) := by decide +kernel
def f_Sc_firstOperandAt (M : cs_Mem) (j : Nat) (x1 : Int32) : Int32 :=
  M (j + 2) x1.toNatClampNeg
def pre_Sc_firstOperandAt (M : cs_Mem) (j : Nat) (x1 : Int32) : Prop :=
  (vp_in x1 (cs_ln M (j + 2))) ∧
  True
set_option maxHeartbeats 4000000 in
set_option maxRecDepth 100000 in
theorem c_Sc_firstOperandAt (l : Launch) (D : va_G) (cA : Nat → ClassId) (ad : Nat → Nat) (M : cs_Mem) (j : Nat) (hj : cs_is 2 j) (x1 : Int32) (hp : pre_Sc_firstOperandAt M j x1) : cs_Ci l ⟨"ClassStarter$Script", "firstOperandAt", "(I)I"⟩ prog_6_method_7_code 2 (some .int) ({ frames := 0, cells := 0, slots := 0, locals := 0 }) D cA ad M [.ref (ad j), .int x1] ((f_Sc_firstOperandAt M j x1, M)) := by
  refine cs_entry (by decide) (Nat.le_of_ble_eq_true rfl) (fun p e s m below meth c A ls hC hr hlk _ hw hl => ?_)
  have hx := hC.1
  have hb := hC.2.1
  have hl : lv_has ls 2 [(0, .ref (ad j)), (1, .int x1)] := hl
  generalize hF : f_Sc_firstOperandAt M j x1 = F
  have hf := hF.symm
  unfold f_Sc_firstOperandAt at hf
  unfold pre_Sc_firstOperandAt at hp
  refine lv_aload_n hx hb d_Sc_firstOperandAt_0 rfl (lv_at hl 0 rfl) ?_
  refine gf_Sc_firstOperands hC hw hj wd_76 d_Sc_firstOperandAt_1 ?_
  refine lv_iload_n hx hb d_Sc_firstOperandAt_4 rfl (lv_at hl 1 rfl) ?_
  have o1 := hp.1
  have hp := hp.2
  refine cs_iald hC hw (is_Sc2 hj) o1 d_Sc_firstOperandAt_5 ?_
  exact cs_iret hC hw hr hlk (congrArg (fun z => (z, M)) hf) d_Sc_firstOperandAt_6
theorem d_Sc_secondOperandAt_0 : decode prog_6_method_8_code 0 = .ok (.aload_n 0, 1) := by decide +kernel
theorem d_Sc_secondOperandAt_1 : decode prog_6_method_8_code 1 = .ok (.getfield 22, 3) := by decide +kernel
theorem d_Sc_secondOperandAt_4 : decode prog_6_method_8_code 4 = .ok (.iload_n 1, 1) := by decide +kernel
theorem d_Sc_secondOperandAt_5 : decode prog_6_method_8_code 5 = .ok (.iaload, 1) := by decide +kernel
theorem d_Sc_secondOperandAt_6 : decode prog_6_method_8_code 6 = .ok (.ireturn, 1) := by decide +kernel
def f_Sc_secondOperandAt (M : cs_Mem) (j : Nat) (x1 : Int32) : Int32 :=
  M (j + 3) x1.toNatClampNeg
def pre_Sc_secondOperandAt (M : cs_Mem) (j : Nat) (x1 : Int32) : Prop :=
  (vp_in x1 (cs_ln M (j + 3))) ∧
  True
set_option maxHeartbeats 4000000 in
set_option maxRecDepth 100000 in
theorem c_Sc_secondOperandAt (l : Launch) (D : va_G) (cA : Nat → ClassId) (ad : Nat → Nat) (M : cs_Mem) (j : Nat) (hj : cs_is 2 j) (x1 : Int32) (hp : pre_Sc_secondOperandAt M j x1) : cs_Ci l ⟨"ClassStarter$Script", "secondOperandAt", "(I)I"⟩ prog_6_method_8_code 2 (some .int) ({ frames := 0, cells := 0, slots := 0, locals := 0 }) D cA ad M [.ref (ad j), .int x1] ((f_Sc_secondOperandAt M j x1, M)) := by
  refine cs_entry (by decide) (Nat.le_of_ble_eq_true rfl) (fun p e s m below meth c A ls hC hr hlk _ hw hl => ?_)
  have hx := hC.1
  have hb := hC.2.1
  have hl : lv_has ls 2 [(0, .ref (ad j)), (1, .int x1)] := hl
  generalize hF : f_Sc_secondOperandAt M j x1 = F
  have hf := hF.symm
  unfold f_Sc_secondOperandAt at hf
  unfold pre_Sc_secondOperandAt at hp
  refine lv_aload_n hx hb d_Sc_secondOperandAt_0 rfl (lv_at hl 0 rfl) ?_
  refine gf_Sc_secondOperands hC hw hj wd_77 d_Sc_secondOperandAt_1 ?_
  refine lv_iload_n hx hb d_Sc_secondOperandAt_4 rfl (lv_at hl 1 rfl) ?_
  have o1 := hp.1
  have hp := hp.2
  refine cs_iald hC hw (is_Sc3 hj) o1 d_Sc_secondOperandAt_5 ?_
  exact cs_iret hC hw hr hlk (congrArg (fun z => (z, M)) hf) d_Sc_secondOperandAt_6
theorem d_Fa_isException_0 : decode prog_3_method_4_code 0 = .ok (.iload_n 0, 1) := by decide +kernel
theorem d_Fa_isException_1 : decode prog_3_method_4_code 1 = .ok (.iconst 1, 1) := by decide +kernel
theorem d_Fa_isException_2 : decode prog_3_method_4_code 2 = .ok (.if_icmp .lt 13, 3) := by decide +kernel
theorem d_Fa_isException_5 : decode prog_3_method_4_code 5 = .ok (.iload_n 0, 1) := by decide +kernel
theorem d_Fa_isException_6 : decode prog_3_method_4_code 6 = .ok (.bipush 11, 2) := by decide +kernel
theorem d_Fa_isException_8 : decode prog_3_method_4_code 8 = .ok (.if_icmp .ge 7, 3) := by decide +kernel
theorem d_Fa_isException_11 : decode prog_3_method_4_code 11 = .ok (.iconst 1, 1) := by decide +kernel
theorem d_Fa_isException_12 : decode prog_3_method_4_code 12 = .ok (.goto 4, 3) := by decide +kernel
theorem d_Fa_isException_15 : decode prog_3_method_4_code 15 = .ok (.iconst 0, 1) := by decide +kernel
theorem d_Fa_isException_16 : decode prog_3_method_4_code 16 = .ok (.ireturn, 1) := by decide +kernel
def f_Fa_isException (M : cs_Mem) (x0 : Int32) : Int32 :=
  if x0 < 1 then
    0
  else
    if 11 ≤ x0 then
      0
    else
      1
set_option maxHeartbeats 4000000 in
set_option maxRecDepth 100000 in
theorem c_Fa_isException (l : Launch) (D : va_G) (cA : Nat → ClassId) (ad : Nat → Nat) (M : cs_Mem) (x0 : Int32) : cs_Ci l ⟨"ClassStarter$Fault", "isException", "(I)Z"⟩ prog_3_method_4_code 1 (some .boolean) ({ frames := 0, cells := 0, slots := 0, locals := 0 }) D cA ad M [.int x0] ((f_Fa_isException M x0, M)) := by
  refine cs_entry (by decide) (Nat.le_of_ble_eq_true rfl) (fun p e s m below meth c A ls hC hr hlk _ hw hl => ?_)
  have hx := hC.1
  have hb := hC.2.1
  have hl : lv_has ls 1 [(0, .int x0)] := hl
  generalize hF : f_Fa_isException M x0 = F
  have hf := hF.symm
  unfold f_Fa_isException at hf
  refine lv_iload_n hx hb d_Fa_isException_0 rfl (lv_at hl 0 rfl) ?_
  refine lv_iconst (v := 1) hx hb d_Fa_isException_1 (by decide) ?_
  refine lv_icmp_lt (tgt := 15) hx hb d_Fa_isException_2 (by decide) (fun c1 => ?_) (fun c1 => ?_)
  · have hf := hf.trans (if_pos c1)
    refine lv_iconst (v := 0) hx hb d_Fa_isException_15 (by decide) ?_
    exact cs_zret hC hw hr hlk (Or.inl rfl) (congrArg (fun z => (z, M)) hf) d_Fa_isException_16
  · have hf := hf.trans (if_neg c1)
    refine lv_iload_n hx hb d_Fa_isException_5 rfl (lv_at hl 0 rfl) ?_
    refine lv_bipush (v := 11) hx hb d_Fa_isException_6 (by decide) ?_
    refine lv_icmp_ge (tgt := 15) hx hb d_Fa_isException_8 (by decide) (fun c2 => ?_) (fun c2 => ?_)
    · have hf := hf.trans (if_pos c2)
      refine lv_iconst (v := 0) hx hb d_Fa_isException_15 (by decide) ?_
      exact cs_zret hC hw hr hlk (Or.inl rfl) (congrArg (fun z => (z, M)) hf) d_Fa_isException_16
    · have hf := hf.trans (if_neg c2)
      refine lv_iconst (v := 1) hx hb d_Fa_isException_11 (by decide) ?_
      refine lv_goto (tgt := 16) hx hb d_Fa_isException_12 (by decide) ?_
      exact cs_zret hC hw hr hlk (Or.inr rfl) (congrArg (fun z => (z, M)) hf) d_Fa_isException_16
theorem d_Fa_outside_0 : decode prog_3_method_2_code 0 = .ok (.iload_n 0, 1) := by decide +kernel
theorem d_Fa_outside_1 : decode prog_3_method_2_code 1 = .ok (.invokestatic 9, 3) := by decide +kernel
theorem d_Fa_outside_4 : decode prog_3_method_2_code 4 = .ok (.ifCond .eq 12, 3) := by decide +kernel
theorem d_Fa_outside_7 : decode prog_3_method_2_code 7 = .ok (.bipush 31, 2) := by decide +kernel
theorem d_Fa_outside_9 : decode prog_3_method_2_code 9 = .ok (.iload_n 0, 1) := by decide +kernel
theorem d_Fa_outside_10 : decode prog_3_method_2_code 10 = .ok (.iadd, 1) := by decide +kernel
theorem d_Fa_outside_11 : decode prog_3_method_2_code 11 = .ok (.iconst 1, 1) := by decide +kernel
theorem d_Fa_outside_12 : decode prog_3_method_2_code 12 = .ok (.isub, 1) := by decide +kernel
theorem d_Fa_outside_13 : decode prog_3_method_2_code 13 = .ok (.goto 4, 3) := by decide +kernel
theorem d_Fa_outside_16 : decode prog_3_method_2_code 16 = .ok (.iload_n 0, 1) := by decide +kernel
theorem d_Fa_outside_17 : decode prog_3_method_2_code 17 = .ok (.ireturn, 1) := by decide +kernel
def f_Fa_outside (M : cs_Mem) (x0 : Int32) : Int32 :=
  cs_bd (f_Fa_isException M x0) fun (r1 : Int32) =>
  if r1 = 0 then
    x0
  else
    (31 + x0) - 1
set_option maxHeartbeats 4000000 in
set_option maxRecDepth 100000 in
theorem c_Fa_outside (l : Launch) (D : va_G) (cA : Nat → ClassId) (ad : Nat → Nat) (M : cs_Mem) (x0 : Int32) : cs_Ci l ⟨"ClassStarter$Fault", "outside", "(I)I"⟩ prog_3_method_2_code 1 (some .int) ({ frames := 1, cells := 0, slots := 0, locals := 20 }) D cA ad M [.int x0] ((f_Fa_outside M x0, M)) := by
  refine cs_entry (by decide) (Nat.le_of_ble_eq_true rfl) (fun p e s m below meth c A ls hC hr hlk _ hw hl => ?_)
  have hx := hC.1
  have hb := hC.2.1
  have hl : lv_has ls 1 [(0, .int x0)] := hl
  generalize hF : f_Fa_outside M x0 = F
  have hf := hF.symm
  unfold f_Fa_outside at hf
  refine lv_iload_n hx hb d_Fa_outside_0 rfl (lv_at hl 0 rfl) ?_
  refine cs_ret_p hC hw (cs_runS (As := [.int x0]) (rest := []) hC hw (c_Fa_isException l D cA ad M x0 _) rfl rfl cw_Fa_9 ⟨Nat.le_of_ble_eq_true rfl, Nat.le_of_ble_eq_true rfl⟩ hl.1 rfl rfl (Nat.le_of_ble_eq_true rfl) d_Fa_outside_1 ⟨Nat.zero_le _, Nat.zero_le _⟩) (fun r1 H locs er1 hw => ?_)
  have hf := cs_bdE er1 hf
  refine lv_if_eq (tgt := 16) hx hb d_Fa_outside_4 (by decide) (fun c2 => ?_) (fun c2 => ?_)
  · have hf := hf.trans (if_pos c2)
    refine lv_iload_n hx hb d_Fa_outside_16 rfl (lv_at hl 0 rfl) ?_
    exact cs_iret hC hw hr hlk (congrArg (fun z => (z, M)) hf) d_Fa_outside_17
  · have hf := hf.trans (if_neg c2)
    refine lv_bipush (v := 31) hx hb d_Fa_outside_7 (by decide) ?_
    refine lv_iload_n hx hb d_Fa_outside_9 rfl (lv_at hl 0 rfl) ?_
    refine lv_iadd hx hb d_Fa_outside_10 ?_
    refine lv_iconst (v := 1) hx hb d_Fa_outside_11 (by decide) ?_
    refine lv_isub hx hb d_Fa_outside_12 ?_
    refine lv_goto (tgt := 17) hx hb d_Fa_outside_13 (by decide) ?_
    exact cs_iret hC hw hr hlk (congrArg (fun z => (z, M)) hf) d_Fa_outside_17
theorem d_Sc_isGuarded_0 : decode prog_6_method_9_code 0 = .ok (.iload_n 1, 1) := by decide +kernel
theorem d_Sc_isGuarded_1 : decode prog_6_method_9_code 1 = .ok (.ifCond .le 20, 3) := by decide +kernel
theorem d_Sc_isGuarded_4 : decode prog_6_method_9_code 4 = .ok (.aload_n 0, 1) := by decide +kernel
theorem d_Sc_isGuarded_5 : decode prog_6_method_9_code 5 = .ok (.getfield 15, 3) := by decide +kernel
theorem d_Sc_isGuarded_8 : decode prog_6_method_9_code 8 = .ok (.iload_n 1, 1) := by decide +kernel
theorem d_Sc_isGuarded_9 : decode prog_6_method_9_code 9 = .ok (.iconst 1, 1) := by decide +kernel
theorem d_Sc_isGuarded_10 : decode prog_6_method_9_code 10 = .ok (.isub, 1) := by decide +kernel
theorem d_Sc_isGuarded_11 : decode prog_6_method_9_code 11 = .ok (.iaload, 1) := by decide +kernel
theorem d_Sc_isGuarded_12 : decode prog_6_method_9_code 12 = .ok (.bipush 6, 2) := by decide +kernel
theorem d_Sc_isGuarded_14 : decode prog_6_method_9_code 14 = .ok (.if_icmp .ne 7, 3) := by decide +kernel
theorem d_Sc_isGuarded_17 : decode prog_6_method_9_code 17 = .ok (.iconst 1, 1) := by decide +kernel
theorem d_Sc_isGuarded_18 : decode prog_6_method_9_code 18 = .ok (.goto 4, 3) := by decide +kernel
theorem d_Sc_isGuarded_21 : decode prog_6_method_9_code 21 = .ok (.iconst 0, 1) := by decide +kernel
theorem d_Sc_isGuarded_22 : decode prog_6_method_9_code 22 = .ok (.ireturn, 1) := by decide +kernel
def f_Sc_isGuarded (M : cs_Mem) (j : Nat) (x1 : Int32) : Int32 :=
  if x1 ≤ 0 then
    0
  else
    if (M (j + 1) (x1 - 1).toNatClampNeg) = 6 then
      1
    else
      0
def pre_Sc_isGuarded (M : cs_Mem) (j : Nat) (x1 : Int32) : Prop :=
  (x1 ≤ 0 →
    True
  ) ∧ (¬ (x1 ≤ 0) →
    (vp_in (x1 - 1) (cs_ln M (j + 1))) ∧
    True
  )
set_option maxHeartbeats 4000000 in
set_option maxRecDepth 100000 in
theorem c_Sc_isGuarded (l : Launch) (D : va_G) (cA : Nat → ClassId) (ad : Nat → Nat) (M : cs_Mem) (j : Nat) (hj : cs_is 2 j) (x1 : Int32) (hp : pre_Sc_isGuarded M j x1) : cs_Ci l ⟨"ClassStarter$Script", "isGuarded", "(I)Z"⟩ prog_6_method_9_code 2 (some .boolean) ({ frames := 0, cells := 0, slots := 0, locals := 0 }) D cA ad M [.ref (ad j), .int x1] ((f_Sc_isGuarded M j x1, M)) := by
  refine cs_entry (by decide) (Nat.le_of_ble_eq_true rfl) (fun p e s m below meth c A ls hC hr hlk _ hw hl => ?_)
  have hx := hC.1
  have hb := hC.2.1
  have hl : lv_has ls 2 [(0, .ref (ad j)), (1, .int x1)] := hl
  generalize hF : f_Sc_isGuarded M j x1 = F
  have hf := hF.symm
  unfold f_Sc_isGuarded at hf
  unfold pre_Sc_isGuarded at hp
  refine lv_iload_n hx hb d_Sc_isGuarded_0 rfl (lv_at hl 1 rfl) ?_
  refine lv_if_le (tgt := 21) hx hb d_Sc_isGuarded_1 (by decide) (fun c1 => ?_) (fun c1 => ?_)
  · have hp := hp.1 c1
    have hf := hf.trans (if_pos c1)
    refine lv_iconst (v := 0) hx hb d_Sc_isGuarded_21 (by decide) ?_
    exact cs_zret hC hw hr hlk (Or.inl rfl) (congrArg (fun z => (z, M)) hf) d_Sc_isGuarded_22
  · have hp := hp.2 c1
    have hf := hf.trans (if_neg c1)
    refine lv_aload_n hx hb d_Sc_isGuarded_4 rfl (lv_at hl 0 rfl) ?_
    refine gf_Sc_actions hC hw hj wd_75 d_Sc_isGuarded_5 ?_
    refine lv_iload_n hx hb d_Sc_isGuarded_8 rfl (lv_at hl 1 rfl) ?_
    refine lv_iconst (v := 1) hx hb d_Sc_isGuarded_9 (by decide) ?_
    refine lv_isub hx hb d_Sc_isGuarded_10 ?_
    have o2 := hp.1
    have hp := hp.2
    refine cs_iald hC hw (is_Sc1 hj) o2 d_Sc_isGuarded_11 ?_
    refine lv_bipush (v := 6) hx hb d_Sc_isGuarded_12 (by decide) ?_
    refine lv_icmp_ne (tgt := 21) hx hb d_Sc_isGuarded_14 (by decide) (fun c3 => ?_) (fun c3 => ?_)
    · have hf := hf.trans (if_neg c3)
      refine lv_iconst (v := 0) hx hb d_Sc_isGuarded_21 (by decide) ?_
      exact cs_zret hC hw hr hlk (Or.inl rfl) (congrArg (fun z => (z, M)) hf) d_Sc_isGuarded_22
    · have hf := hf.trans (if_pos c3)
      refine lv_iconst (v := 1) hx hb d_Sc_isGuarded_17 (by decide) ?_
      refine lv_goto (tgt := 22) hx hb d_Sc_isGuarded_18 (by decide) ?_
      exact cs_zret hC hw hr hlk (Or.inr rfl) (congrArg (fun z => (z, M)) hf) d_Sc_isGuarded_22
theorem d_Fa_number_0 : decode prog_3_method_3_code 0 = .ok (.iload_n 0, 1) := by decide +kernel
theorem d_Fa_number_1 : decode prog_3_method_3_code 1 = .ok (.bipush 31, 2) := by decide +kernel
theorem d_Fa_number_3 : decode prog_3_method_3_code 3 = .ok (.if_icmp .lt 11, 3) := by decide +kernel
theorem d_Fa_number_6 : decode prog_3_method_3_code 6 = .ok (.bipush 100, 2) := by decide +kernel
theorem d_Fa_number_8 : decode prog_3_method_3_code 8 = .ok (.iload_n 0, 1) := by decide +kernel
theorem d_Fa_number_9 : decode prog_3_method_3_code 9 = .ok (.iadd, 1) := by decide +kernel
theorem d_Fa_number_10 : decode prog_3_method_3_code 10 = .ok (.bipush 31, 2) := by decide +kernel
theorem d_Fa_number_12 : decode prog_3_method_3_code 12 = .ok (.isub, 1) := by decide +kernel
theorem d_Fa_number_13 : decode prog_3_method_3_code 13 = .ok (.ireturn, 1) := by decide +kernel
theorem d_Fa_number_14 : decode prog_3_method_3_code 14 = .ok (.iload_n 0, 1) := by decide +kernel
theorem d_Fa_number_15 : decode prog_3_method_3_code 15 = .ok (.bipush 21, 2) := by decide +kernel
theorem d_Fa_number_17 : decode prog_3_method_3_code 17 = .ok (.if_icmp .ne 5, 3) := by decide +kernel
theorem d_Fa_number_20 : decode prog_3_method_3_code 20 = .ok (.iconst (-1), 1) := by decide +kernel
theorem d_Fa_number_21 : decode prog_3_method_3_code 21 = .ok (.ireturn, 1) := by decide +kernel
theorem d_Fa_number_22 : decode prog_3_method_3_code 22 = .ok (.iload_n 0, 1) := by decide +kernel
theorem d_Fa_number_23 : decode prog_3_method_3_code 23 = .ok (.bipush 22, 2) := by decide +kernel
theorem d_Fa_number_25 : decode prog_3_method_3_code 25 = .ok (.if_icmp .ne 6, 3) := by decide +kernel
theorem d_Fa_number_28 : decode prog_3_method_3_code 28 = .ok (.bipush (-2), 2) := by decide +kernel
theorem d_Fa_number_30 : decode prog_3_method_3_code 30 = .ok (.ireturn, 1) := by decide +kernel
theorem d_Fa_number_31 : decode prog_3_method_3_code 31 = .ok (.iload_n 0, 1) := by decide +kernel
theorem d_Fa_number_32 : decode prog_3_method_3_code 32 = .ok (.invokestatic 9, 3) := by decide +kernel
theorem d_Fa_number_35 : decode prog_3_method_3_code 35 = .ok (.ifCond .eq 9, 3) := by decide +kernel
theorem d_Fa_number_38 : decode prog_3_method_3_code 38 = .ok (.iload_n 0, 1) := by decide +kernel
theorem d_Fa_number_39 : decode prog_3_method_3_code 39 = .ok (.iconst 1, 1) := by decide +kernel
theorem d_Fa_number_40 : decode prog_3_method_3_code 40 = .ok (.isub, 1) := by decide +kernel
theorem d_Fa_number_41 : decode prog_3_method_3_code 41 = .ok (.goto 7, 3) := by decide +kernel
theorem d_Fa_number_44 : decode prog_3_method_3_code 44 = .ok (.iload_n 0, 1) := by decide +kernel
theorem d_Fa_number_45 : decode prog_3_method_3_code 45 = .ok (.bipush 11, 2) := by decide +kernel
theorem d_Fa_number_47 : decode prog_3_method_3_code 47 = .ok (.isub, 1) := by decide +kernel
theorem d_Fa_number_48 : decode prog_3_method_3_code 48 = .ok (.ireturn, 1) := by decide +kernel
def f_Fa_number (M : cs_Mem) (x0 : Int32) : Int32 :=
  if x0 < 31 then
    if x0 = 21 then
      (-1)
    else
      if x0 = 22 then
        (-2)
      else
        cs_bd (f_Fa_isException M x0) fun (r4 : Int32) =>
        if r4 = 0 then
          x0 - 11
        else
          x0 - 1
  else
    (100 + x0) - 31
set_option maxHeartbeats 4000000 in
set_option maxRecDepth 100000 in
theorem c_Fa_number (l : Launch) (D : va_G) (cA : Nat → ClassId) (ad : Nat → Nat) (M : cs_Mem) (x0 : Int32) : cs_Ci l ⟨"ClassStarter$Fault", "number", "(I)I"⟩ prog_3_method_3_code 1 (some .int) ({ frames := 1, cells := 0, slots := 0, locals := 20 }) D cA ad M [.int x0] ((f_Fa_number M x0, M)) := by
  refine cs_entry (by decide) (Nat.le_of_ble_eq_true rfl) (fun p e s m below meth c A ls hC hr hlk _ hw hl => ?_)
  have hx := hC.1
  have hb := hC.2.1
  have hl : lv_has ls 1 [(0, .int x0)] := hl
  generalize hF : f_Fa_number M x0 = F
  have hf := hF.symm
  unfold f_Fa_number at hf
  refine lv_iload_n hx hb d_Fa_number_0 rfl (lv_at hl 0 rfl) ?_
  refine lv_bipush (v := 31) hx hb d_Fa_number_1 (by decide) ?_
  refine lv_icmp_lt (tgt := 14) hx hb d_Fa_number_3 (by decide) (fun c1 => ?_) (fun c1 => ?_)
  · have hf := hf.trans (if_pos c1)
    refine lv_iload_n hx hb d_Fa_number_14 rfl (lv_at hl 0 rfl) ?_
    refine lv_bipush (v := 21) hx hb d_Fa_number_15 (by decide) ?_
    refine lv_icmp_ne (tgt := 22) hx hb d_Fa_number_17 (by decide) (fun c2 => ?_) (fun c2 => ?_)
    · have hf := hf.trans (if_neg c2)
      refine lv_iload_n hx hb d_Fa_number_22 rfl (lv_at hl 0 rfl) ?_
      refine lv_bipush (v := 22) hx hb d_Fa_number_23 (by decide) ?_
      refine lv_icmp_ne (tgt := 31) hx hb d_Fa_number_25 (by decide) (fun c3 => ?_) (fun c3 => ?_)
      · have hf := hf.trans (if_neg c3)
        refine lv_iload_n hx hb d_Fa_number_31 rfl (lv_at hl 0 rfl) ?_
        refine cs_ret_p hC hw (cs_runS (As := [.int x0]) (rest := []) hC hw (c_Fa_isException l D cA ad M x0 _) rfl rfl cw_Fa_9 ⟨Nat.le_of_ble_eq_true rfl, Nat.le_of_ble_eq_true rfl⟩ hl.1 rfl rfl (Nat.le_of_ble_eq_true rfl) d_Fa_number_32 ⟨Nat.zero_le _, Nat.zero_le _⟩) (fun r4 H locs er4 hw => ?_)
        have hf := cs_bdE er4 hf
        refine lv_if_eq (tgt := 44) hx hb d_Fa_number_35 (by decide) (fun c5 => ?_) (fun c5 => ?_)
        · have hf := hf.trans (if_pos c5)
          refine lv_iload_n hx hb d_Fa_number_44 rfl (lv_at hl 0 rfl) ?_
          refine lv_bipush (v := 11) hx hb d_Fa_number_45 (by decide) ?_
          refine lv_isub hx hb d_Fa_number_47 ?_
          exact cs_iret hC hw hr hlk (congrArg (fun z => (z, M)) hf) d_Fa_number_48
        · have hf := hf.trans (if_neg c5)
          refine lv_iload_n hx hb d_Fa_number_38 rfl (lv_at hl 0 rfl) ?_
          refine lv_iconst (v := 1) hx hb d_Fa_number_39 (by decide) ?_
          refine lv_isub hx hb d_Fa_number_40 ?_
          refine lv_goto (tgt := 48) hx hb d_Fa_number_41 (by decide) ?_
          exact cs_iret hC hw hr hlk (congrArg (fun z => (z, M)) hf) d_Fa_number_48
      · have hf := hf.trans (if_pos c3)
        refine lv_bipush (v := (-2)) hx hb d_Fa_number_28 (by decide) ?_
        exact cs_iret hC hw hr hlk (congrArg (fun z => (z, M)) hf) d_Fa_number_30
    · have hf := hf.trans (if_pos c2)
      refine lv_iconst (v := (-1)) hx hb d_Fa_number_20 (by decide) ?_
      exact cs_iret hC hw hr hlk (congrArg (fun z => (z, M)) hf) d_Fa_number_21
  · have hf := hf.trans (if_neg c1)
    refine lv_bipush (v := 100) hx hb d_Fa_number_6 (by decide) ?_
    refine lv_iload_n hx hb d_Fa_number_8 rfl (lv_at hl 0 rfl) ?_
    refine lv_iadd hx hb d_Fa_number_9 ?_
    refine lv_bipush (v := 31) hx hb d_Fa_number_10 (by decide) ?_
    refine lv_isub hx hb d_Fa_number_12 ?_
    exact cs_iret hC hw hr hlk (congrArg (fun z => (z, M)) hf) d_Fa_number_13
end
section
theorem d_Pr_isDeclared_0 : decode prog_5_method_3_code 0 = .ok (.iload_n 1, 1) := by decide +kernel
theorem d_Pr_isDeclared_1 : decode prog_5_method_3_code 1 = .ok (.ifCond .lt 15, 3) := by decide +kernel
theorem d_Pr_isDeclared_4 : decode prog_5_method_3_code 4 = .ok (.iload_n 1, 1) := by decide +kernel
theorem d_Pr_isDeclared_5 : decode prog_5_method_3_code 5 = .ok (.aload_n 0, 1) := by decide +kernel
theorem d_Pr_isDeclared_6 : decode prog_5_method_3_code 6 = .ok (.getfield 37, 3) := by decide +kernel
theorem d_Pr_isDeclared_9 : decode prog_5_method_3_code 9 = .ok (.if_icmp .ge 7, 3) := by decide +kernel
theorem d_Pr_isDeclared_12 : decode prog_5_method_3_code 12 = .ok (.iconst 1, 1) := by decide +kernel
theorem d_Pr_isDeclared_13 : decode prog_5_method_3_code 13 = .ok (.goto 4, 3) := by decide +kernel
theorem d_Pr_isDeclared_16 : decode prog_5_method_3_code 16 = .ok (.iconst 0, 1) := by decide +kernel
theorem d_Pr_isDeclared_17 : decode prog_5_method_3_code 17 = .ok (.ireturn, 1) := by decide +kernel
def f_Pr_isDeclared (M : cs_Mem) (j : Nat) (x1 : Int32) : Int32 :=
  if x1 < 0 then
    0
  else
    if (M j 6) ≤ x1 then
      0
    else
      1
set_option maxHeartbeats 4000000 in
set_option maxRecDepth 100000 in
theorem c_Pr_isDeclared (l : Launch) (D : va_G) (cA : Nat → ClassId) (ad : Nat → Nat) (M : cs_Mem) (j : Nat) (hj : cs_is 1 j) (x1 : Int32) : cs_Ci l ⟨"ClassStarter$Program", "isDeclared", "(I)Z"⟩ prog_5_method_3_code 2 (some .boolean) ({ frames := 0, cells := 0, slots := 0, locals := 0 }) D cA ad M [.ref (ad j), .int x1] ((f_Pr_isDeclared M j x1, M)) := by
  refine cs_entry (by decide) (Nat.le_of_ble_eq_true rfl) (fun p e s m below meth c A ls hC hr hlk _ hw hl => ?_)
  have hx := hC.1
  have hb := hC.2.1
  have hl : lv_has ls 2 [(0, .ref (ad j)), (1, .int x1)] := hl
  generalize hF : f_Pr_isDeclared M j x1 = F
  have hf := hF.symm
  unfold f_Pr_isDeclared at hf
  refine lv_iload_n hx hb d_Pr_isDeclared_0 rfl (lv_at hl 1 rfl) ?_
  refine lv_if_lt (tgt := 16) hx hb d_Pr_isDeclared_1 (by decide) (fun c1 => ?_) (fun c1 => ?_)
  · have hf := hf.trans (if_pos c1)
    refine lv_iconst (v := 0) hx hb d_Pr_isDeclared_16 (by decide) ?_
    exact cs_zret hC hw hr hlk (Or.inl rfl) (congrArg (fun z => (z, M)) hf) d_Pr_isDeclared_17
  · have hf := hf.trans (if_neg c1)
    refine lv_iload_n hx hb d_Pr_isDeclared_4 rfl (lv_at hl 1 rfl) ?_
    refine lv_aload_n hx hb d_Pr_isDeclared_5 rfl (lv_at hl 0 rfl) ?_
    refine gf_Pr_classCount hC hw hj wd_101 d_Pr_isDeclared_6 ?_
    refine lv_icmp_ge (tgt := 16) hx hb d_Pr_isDeclared_9 (by decide) (fun c2 => ?_) (fun c2 => ?_)
    · have hf := hf.trans (if_pos c2)
      refine lv_iconst (v := 0) hx hb d_Pr_isDeclared_16 (by decide) ?_
      exact cs_zret hC hw hr hlk (Or.inl rfl) (congrArg (fun z => (z, M)) hf) d_Pr_isDeclared_17
    · have hf := hf.trans (if_neg c2)
      refine lv_iconst (v := 1) hx hb d_Pr_isDeclared_12 (by decide) ?_
      refine lv_goto (tgt := 17) hx hb d_Pr_isDeclared_13 (by decide) ?_
      exact cs_zret hC hw hr hlk (Or.inr rfl) (congrArg (fun z => (z, M)) hf) d_Pr_isDeclared_17
theorem d_Pr_addClass_0 : decode prog_5_method_6_code 0 = .ok (.iload_n 1, 1) := by decide +kernel
theorem d_Pr_addClass_1 : decode prog_5_method_6_code 1 = .ok (.iconst (-1), 1) := by decide +kernel
theorem d_Pr_addClass_2 : decode prog_5_method_6_code 2 = .ok (.if_icmp .eq 26, 3) := by decide +kernel
theorem d_Pr_addClass_5 : decode prog_5_method_6_code 5 = .ok (.iload_n 2, 1) := by decide +kernel
theorem d_Pr_addClass_6 : decode prog_5_method_6_code 6 = .ok (.ifCond .ne 20, 3) := by decide +kernel
theorem d_Pr_addClass_9 : decode prog_5_method_6_code 9 = .ok (.aload_n 0, 1) := by decide +kernel
theorem d_Pr_addClass_10 : decode prog_5_method_6_code 10 = .ok (.iload_n 1, 1) := by decide +kernel
theorem d_Pr_addClass_11 : decode prog_5_method_6_code 11 = .ok (.invokevirtual 41, 3) := by decide +kernel
theorem d_Pr_addClass_14 : decode prog_5_method_6_code 14 = .ok (.ifCond .eq 12, 3) := by decide +kernel
theorem d_Pr_addClass_17 : decode prog_5_method_6_code 17 = .ok (.aload_n 0, 1) := by decide +kernel
theorem d_Pr_addClass_18 : decode prog_5_method_6_code 18 = .ok (.getfield 9, 3) := by decide +kernel
theorem d_Pr_addClass_21 : decode prog_5_method_6_code 21 = .ok (.iload_n 1, 1) := by decide +kernel
theorem d_Pr_addClass_22 : decode prog_5_method_6_code 22 = .ok (.baload, 1) := by decide +kernel
theorem d_Pr_addClass_23 : decode prog_5_method_6_code 23 = .ok (.ifCond .eq 5, 3) := by decide +kernel
theorem d_Pr_addClass_26 : decode prog_5_method_6_code 26 = .ok (.iconst (-1), 1) := by decide +kernel
theorem d_Pr_addClass_27 : decode prog_5_method_6_code 27 = .ok (.ireturn, 1) := by decide +kernel
theorem d_Pr_addClass_28 : decode prog_5_method_6_code 28 = .ok (.aload_n 0, 1) := by decide +kernel
theorem d_Pr_addClass_29 : decode prog_5_method_6_code 29 = .ok (.getfield 37, 3) := by decide +kernel
theorem d_Pr_addClass_32 : decode prog_5_method_6_code 32 = .ok (.bipush 8, 2) := by decide +kernel
theorem d_Pr_addClass_34 : decode prog_5_method_6_code 34 = .ok (.if_icmp .lt 6, 3) := by decide +kernel
theorem d_Pr_addClass_37 : decode prog_5_method_6_code 37 = .ok (.bipush (-2), 2) := by decide +kernel
theorem d_Pr_addClass_39 : decode prog_5_method_6_code 39 = .ok (.ireturn, 1) := by decide +kernel
theorem d_Pr_addClass_40 : decode prog_5_method_6_code 40 = .ok (.aload_n 0, 1) := by decide +kernel
theorem d_Pr_addClass_41 : decode prog_5_method_6_code 41 = .ok (.getfield 37, 3) := by decide +kernel
theorem d_Pr_addClass_44 : decode prog_5_method_6_code 44 = .ok (.istore 5, 2) := by decide +kernel
theorem d_Pr_addClass_46 : decode prog_5_method_6_code 46 = .ok (.aload_n 0, 1) := by decide +kernel
theorem d_Pr_addClass_47 : decode prog_5_method_6_code 47 = .ok (.dup, 1) := by decide +kernel
theorem d_Pr_addClass_48 : decode prog_5_method_6_code 48 = .ok (.getfield 37, 3) := by decide +kernel
theorem d_Pr_addClass_51 : decode prog_5_method_6_code 51 = .ok (.iconst 1, 1) := by decide +kernel
theorem d_Pr_addClass_52 : decode prog_5_method_6_code 52 = .ok (.iadd, 1) := by decide +kernel
theorem d_Pr_addClass_53 : decode prog_5_method_6_code 53 = .ok (.putfield 37, 3) := by decide +kernel
theorem d_Pr_addClass_56 : decode prog_5_method_6_code 56 = .ok (.aload_n 0, 1) := by decide +kernel
theorem d_Pr_addClass_57 : decode prog_5_method_6_code 57 = .ok (.getfield 9, 3) := by decide +kernel
theorem d_Pr_addClass_60 : decode prog_5_method_6_code 60 = .ok (.iload 5, 2) := by decide +kernel
theorem d_Pr_addClass_62 : decode prog_5_method_6_code 62 = .ok (.iload_n 2, 1) := by decide +kernel
theorem d_Pr_addClass_63 : decode prog_5_method_6_code 63 = .ok (.bastore, 1) := by decide +kernel
theorem d_Pr_addClass_64 : decode prog_5_method_6_code 64 = .ok (.aload_n 0, 1) := by decide +kernel
theorem d_Pr_addClass_65 : decode prog_5_method_6_code 65 = .ok (.getfield 15, 3) := by decide +kernel
theorem d_Pr_addClass_68 : decode prog_5_method_6_code 68 = .ok (.iload 5, 2) := by decide +kernel
theorem d_Pr_addClass_70 : decode prog_5_method_6_code 70 = .ok (.iload_n 3, 1) := by decide +kernel
theorem d_Pr_addClass_71 : decode prog_5_method_6_code 71 = .ok (.bastore, 1) := by decide +kernel
theorem d_Pr_addClass_72 : decode prog_5_method_6_code 72 = .ok (.aload_n 0, 1) := by decide +kernel
theorem d_Pr_addClass_73 : decode prog_5_method_6_code 73 = .ok (.getfield 18, 3) := by decide +kernel
theorem d_Pr_addClass_76 : decode prog_5_method_6_code 76 = .ok (.iload 5, 2) := by decide +kernel
theorem d_Pr_addClass_78 : decode prog_5_method_6_code 78 = .ok (.iload_n 3, 1) := by decide +kernel
theorem d_Pr_addClass_79 : decode prog_5_method_6_code 79 = .ok (.ifCond .eq 8, 3) := by decide +kernel
theorem d_Pr_addClass_82 : decode prog_5_method_6_code 82 = .ok (.iload 4, 2) := by decide +kernel
theorem d_Pr_addClass_84 : decode prog_5_method_6_code 84 = .ok (.goto 4, 3) := by decide +kernel
theorem d_Pr_addClass_87 : decode prog_5_method_6_code 87 = .ok (.iconst 0, 1) := by decide +kernel
theorem d_Pr_addClass_88 : decode prog_5_method_6_code 88 = .ok (.iastore, 1) := by decide +kernel
theorem d_Pr_addClass_89 : decode prog_5_method_6_code 89 = .ok (.iload_n 1, 1) := by decide +kernel
theorem d_Pr_addClass_90 : decode prog_5_method_6_code 90 = .ok (.iconst (-1), 1) := by decide +kernel
theorem d_Pr_addClass_91 : decode prog_5_method_6_code 91 = .ok (.if_icmp .eq 14, 3) := by decide +kernel
theorem d_Pr_addClass_94 : decode prog_5_method_6_code 94 = .ok (.aload_n 0, 1) := by decide +kernel
theorem d_Pr_addClass_95 : decode prog_5_method_6_code 95 = .ok (.getfield 30, 3) := by decide +kernel
theorem d_Pr_addClass_98 : decode prog_5_method_6_code 98 = .ok (.iload 5, 2) := by decide +kernel
theorem d_Pr_addClass_100 : decode prog_5_method_6_code 100 = .ok (.aaload, 1) := by decide +kernel
theorem d_Pr_addClass_101 : decode prog_5_method_6_code 101 = .ok (.iload_n 1, 1) := by decide +kernel
theorem d_Pr_addClass_102 : decode prog_5_method_6_code 102 = .ok (.invokevirtual 45, 3) := by decide +kernel
theorem d_Pr_addClass_105 : decode prog_5_method_6_code 105 = .ok (.iload 5, 2) := by decide +kernel
theorem d_Pr_addClass_107 : decode prog_5_method_6_code 107 = .ok (.ireturn, 1) := by decide +kernel
def f_Pr_addClass_J28 (M : cs_Mem) (j : Nat) (y1 : Int32) (y2 : Int32) (y3 : Int32) (y4 : Int32) : Int32 × cs_Mem :=
  if (M j 6) < 8 then
    cs_bd (M j 6) fun (z8 : Int32) =>
    cs_bd (cs_up M j (upd (M j) 6 ((M j 6) + 1))) fun (N9 : cs_Mem) =>
    cs_bd (cs_up N9 2 (upd (N9 2) z8.toNatClampNeg (vp_nar .boolean y2))) fun (N11 : cs_Mem) =>
    cs_bd (cs_up N11 3 (upd (N11 3) z8.toNatClampNeg (vp_nar .boolean y3))) fun (N13 : cs_Mem) =>
    if y3 = 0 then
      cs_bd (cs_up N13 4 (upd (N13 4) z8.toNatClampNeg 0)) fun (N16 : cs_Mem) =>
      if y1 = (-1) then
        (z8, N16)
      else
        cs_bd (f_Sc_addUseAhead N16 (8 + 4 * z8.toNatClampNeg) y1) fun (u20 : cs_Mem) =>
        (z8, u20)
    else
      cs_bd (cs_up N13 4 (upd (N13 4) z8.toNatClampNeg y4)) fun (N22 : cs_Mem) =>
      if y1 = (-1) then
        (z8, N22)
      else
        cs_bd (f_Sc_addUseAhead N22 (8 + 4 * z8.toNatClampNeg) y1) fun (u26 : cs_Mem) =>
        (z8, u26)
  else
    ((-2), M)
def pre_Pr_addClass_J28 (M : cs_Mem) (j : Nat) (y1 : Int32) (y2 : Int32) (y3 : Int32) (y4 : Int32) : Prop :=
  ((M j 6) < 8 →
    cs_bd (M j 6) fun (z8 : Int32) =>
    cs_bd (cs_up M j (upd (M j) 6 ((M j 6) + 1))) fun (N9 : cs_Mem) =>
    (vp_in z8 (cs_ln N9 2)) ∧
    cs_bd (cs_up N9 2 (upd (N9 2) z8.toNatClampNeg (vp_nar .boolean y2))) fun (N11 : cs_Mem) =>
    (vp_in z8 (cs_ln N11 3)) ∧
    cs_bd (cs_up N11 3 (upd (N11 3) z8.toNatClampNeg (vp_nar .boolean y3))) fun (N13 : cs_Mem) =>
    (y3 = 0 →
      (vp_in z8 (cs_ln N13 4)) ∧
      cs_bd (cs_up N13 4 (upd (N13 4) z8.toNatClampNeg 0)) fun (N16 : cs_Mem) =>
      (y1 = (-1) →
        True
      ) ∧ (¬ (y1 = (-1)) →
        (vp_in z8 11) ∧
        (pre_Sc_addUseAhead N16 (8 + 4 * z8.toNatClampNeg) y1) ∧
        True
      )
    ) ∧ (¬ (y3 = 0) →
      (vp_in z8 (cs_ln N13 4)) ∧
      cs_bd (cs_up N13 4 (upd (N13 4) z8.toNatClampNeg y4)) fun (N22 : cs_Mem) =>
      (y1 = (-1) →
        True
      ) ∧ (¬ (y1 = (-1)) →
        (vp_in z8 11) ∧
        (pre_Sc_addUseAhead N22 (8 + 4 * z8.toNatClampNeg) y1) ∧
        True
      )
    )
  ) ∧ (¬ ((M j 6) < 8) →
    True
  )
def f_Pr_addClass_J26 (M : cs_Mem)  : Int32 × cs_Mem :=
  ((-1), M)
def f_Pr_addClass (M : cs_Mem) (j : Nat) (x1 : Int32) (x2 : Int32) (x3 : Int32) (x4 : Int32) : Int32 × cs_Mem :=
  if x1 = (-1) then
    f_Pr_addClass_J28 M j x1 x2 x3 x4
  else
    if x2 = 0 then
      cs_bd (f_Pr_isDeclared M j x1) fun (r3 : Int32) =>
      if r3 = 0 then
        f_Pr_addClass_J26 M 
      else
        if (M 2 x1.toNatClampNeg) = 0 then
          f_Pr_addClass_J28 M j x1 x2 x3 x4
        else
          f_Pr_addClass_J26 M 
    else
      f_Pr_addClass_J26 M 
def pre_Pr_addClass (M : cs_Mem) (j : Nat) (x1 : Int32) (x2 : Int32) (x3 : Int32) (x4 : Int32) : Prop :=
  (x1 = (-1) →
    pre_Pr_addClass_J28 M j x1 x2 x3 x4
  ) ∧ (¬ (x1 = (-1)) →
    (x2 = 0 →
      cs_bd (f_Pr_isDeclared M j x1) fun (r3 : Int32) =>
      (r3 = 0 →
        True
      ) ∧ (¬ (r3 = 0) →
        (vp_in x1 (cs_ln M 2)) ∧
        ((M 2 x1.toNatClampNeg) = 0 →
          pre_Pr_addClass_J28 M j x1 x2 x3 x4
        ) ∧ (¬ ((M 2 x1.toNatClampNeg) = 0) →
          True
        )
      )
    ) ∧ (¬ (x2 = 0) →
      True
    )
  )
set_option maxHeartbeats 4000000 in
set_option maxRecDepth 100000 in
theorem w_Pr_addClass_J28 {p : Program} {l : Launch} {e : Env} {s : State} {m : MethodId} {args : Array Value} {below : List Frame} {meth : Method} {c : Code} {D : va_G} {cA : Nat → ClassId} {A : Nat → Prop} {ad : Nat → Nat} {F : Int32 × cs_Mem} (hC : cs_Ctx p s m args c prog_5_method_6_code 6 "ClassStarter$Program" D cA A) (hr : meth.sig.returnType = (some .int)) (hlk : meth.locks = false) : ∀ (M : cs_Mem) (j : Nat) (y1 : Int32) (y2 : Int32) (y3 : Int32) (y4 : Int32) (H : Heap) (locs : List Loc) (ls : Array Slot), cs_Wd D cA ad M A s H locs → lv_has ls 6 [(0, .ref (ad j)), (1, .int y1), (2, .int y2), (3, .int y3), (4, .int y4)] → cs_is 1 j → pre_Pr_addClass_J28 M j y1 y2 y3 y4 → F = f_Pr_addClass_J28 M j y1 y2 y3 y4 → W p l e ({ frames := 2, cells := 0, slots := 0, locals := 62 }) s m args below meth c H locs 0 0 (MQ below (cs_Qi D cA ad F A) args s 0 0 A) (F0 m 28 ls []) := by
  have hx := hC.1
  have hb := hC.2.1
  intro M j y1 y2 y3 y4 H locs ls hw hl g0 hp hf
  unfold f_Pr_addClass_J28 at hf
  unfold pre_Pr_addClass_J28 at hp
  refine lv_aload_n hx hb d_Pr_addClass_28 rfl (lv_at hl 0 rfl) ?_
  refine gf_Pr_classCount hC hw g0 wd_101 d_Pr_addClass_29 ?_
  refine lv_bipush (v := 8) hx hb d_Pr_addClass_32 (by decide) ?_
  refine lv_icmp_lt (tgt := 40) hx hb d_Pr_addClass_34 (by decide) (fun c7 => ?_) (fun c7 => ?_)
  · have hp := hp.1 c7
    have hf := hf.trans (if_pos c7)
    refine lv_aload_n hx hb d_Pr_addClass_40 rfl (lv_at hl 0 rfl) ?_
    refine gf_Pr_classCount hC hw g0 wd_101 d_Pr_addClass_41 ?_
    refine lv_topi (fun z8 ez8 => ?_)
    have hp := cs_bdP ez8 hp
    have hf := cs_bdE ez8 hf
    refine lv_istore (lv' := [(5, .int z8), (0, .ref (ad j)), (1, .int y1), (2, .int y2), (3, .int y3), (4, .int y4)]) hx hb d_Pr_addClass_44 hl (by decide) rfl (fun ls hl => ?_)
    refine lv_aload_n hx hb d_Pr_addClass_46 rfl (lv_at hl 1 rfl) ?_
    refine lv_dup hx hb d_Pr_addClass_47 rfl ?_
    refine gf_Pr_classCount hC hw g0 wd_101 d_Pr_addClass_48 ?_
    refine lv_iconst (v := 1) hx hb d_Pr_addClass_51 (by decide) ?_
    refine lv_iadd hx hb d_Pr_addClass_52 ?_
    refine pf_Pr_classCount hC hw g0 wd_101 d_Pr_addClass_53 (fun N9 H locs eN9 hw => ?_)
    have hp := cs_bdP eN9 hp
    have hf := cs_bdE eN9 hf
    refine lv_aload_n hx hb d_Pr_addClass_56 rfl (lv_at hl 1 rfl) ?_
    refine gf_Pr_interfaces hC hw g0 wd_95 d_Pr_addClass_57 ?_
    refine lv_iload hx hb d_Pr_addClass_60 (lv_at hl 0 rfl) ?_
    refine lv_iload_n hx hb d_Pr_addClass_62 rfl (lv_at hl 3 rfl) ?_
    have o10 := hp.1
    have hp := hp.2
    refine cs_zast hC hw is_2 o10 d_Pr_addClass_63 (fun N11 H locs eN11 hw => ?_)
    have hp := cs_bdP eN11 hp
    have hf := cs_bdE eN11 hf
    refine lv_aload_n hx hb d_Pr_addClass_64 rfl (lv_at hl 1 rfl) ?_
    refine gf_Pr_constants hC hw g0 wd_96 d_Pr_addClass_65 ?_
    refine lv_iload hx hb d_Pr_addClass_68 (lv_at hl 0 rfl) ?_
    refine lv_iload_n hx hb d_Pr_addClass_70 rfl (lv_at hl 4 rfl) ?_
    have o12 := hp.1
    have hp := hp.2
    refine cs_zast hC hw is_3 o12 d_Pr_addClass_71 (fun N13 H locs eN13 hw => ?_)
    have hp := cs_bdP eN13 hp
    have hf := cs_bdE eN13 hf
    refine lv_aload_n hx hb d_Pr_addClass_72 rfl (lv_at hl 1 rfl) ?_
    refine gf_Pr_constantValues hC hw g0 wd_97 d_Pr_addClass_73 ?_
    refine lv_iload hx hb d_Pr_addClass_76 (lv_at hl 0 rfl) ?_
    refine lv_iload_n hx hb d_Pr_addClass_78 rfl (lv_at hl 4 rfl) ?_
    refine lv_if_eq (tgt := 87) hx hb d_Pr_addClass_79 (by decide) (fun c14 => ?_) (fun c14 => ?_)
    · have hp := hp.1 c14
      have hf := hf.trans (if_pos c14)
      refine lv_iconst (v := 0) hx hb d_Pr_addClass_87 (by decide) ?_
      have o15 := hp.1
      have hp := hp.2
      refine cs_iast hC hw is_4 o15 d_Pr_addClass_88 (fun N16 H locs eN16 hw => ?_)
      have hp := cs_bdP eN16 hp
      have hf := cs_bdE eN16 hf
      refine lv_iload_n hx hb d_Pr_addClass_89 rfl (lv_at hl 2 rfl) ?_
      refine lv_iconst (v := (-1)) hx hb d_Pr_addClass_90 (by decide) ?_
      refine lv_icmp_eq (tgt := 105) hx hb d_Pr_addClass_91 (by decide) (fun c17 => ?_) (fun c17 => ?_)
      · have hp := hp.1 c17
        have hf := hf.trans (if_pos c17)
        refine lv_iload hx hb d_Pr_addClass_105 (lv_at hl 0 rfl) ?_
        exact cs_iret hC hw hr hlk hf d_Pr_addClass_107
      · have hp := hp.2 c17
        have hf := hf.trans (if_neg c17)
        refine lv_aload_n hx hb d_Pr_addClass_94 rfl (lv_at hl 1 rfl) ?_
        refine gf_Pr_scripts hC hw g0 wd_100 d_Pr_addClass_95 ?_
        refine lv_iload hx hb d_Pr_addClass_98 (lv_at hl 0 rfl) ?_
        have o18 := hp.1
        have hp := hp.2
        refine cs_aald22 hC hw is_7 o18 d_Pr_addClass_100 ?_
        refine lv_iload_n hx hb d_Pr_addClass_101 rfl (lv_at hl 2 rfl) ?_
        have o19 := hp.1
        have hp := hp.2
        refine cs_ret_v hC hw (cs_runV (As := [.int y1]) (rest := []) hC hw (is_scr o18).2 (ci := 2) rfl rfl (cs_sg_is (is_scr o18)) (c_Sc_addUseAhead l D cA ad N16 (8 + 4 * z8.toNatClampNeg) (is_scr o18) y1 o19 _) rfl rfl cw_Pr_45 ⟨Nat.le_of_ble_eq_true rfl, Nat.le_of_ble_eq_true rfl⟩ hl.1 rfl rfl (Nat.le_of_ble_eq_true rfl) d_Pr_addClass_102 ⟨Nat.zero_le _, Nat.zero_le _⟩) (fun u20 H locs eu20 hw => ?_)
        have hf := cs_bdE eu20 hf
        refine lv_iload hx hb d_Pr_addClass_105 (lv_at hl 0 rfl) ?_
        exact cs_iret hC hw hr hlk hf d_Pr_addClass_107
    · have hp := hp.2 c14
      have hf := hf.trans (if_neg c14)
      refine lv_iload hx hb d_Pr_addClass_82 (lv_at hl 5 rfl) ?_
      refine lv_goto (tgt := 88) hx hb d_Pr_addClass_84 (by decide) ?_
      have o21 := hp.1
      have hp := hp.2
      refine cs_iast hC hw is_4 o21 d_Pr_addClass_88 (fun N22 H locs eN22 hw => ?_)
      have hp := cs_bdP eN22 hp
      have hf := cs_bdE eN22 hf
      refine lv_iload_n hx hb d_Pr_addClass_89 rfl (lv_at hl 2 rfl) ?_
      refine lv_iconst (v := (-1)) hx hb d_Pr_addClass_90 (by decide) ?_
      refine lv_icmp_eq (tgt := 105) hx hb d_Pr_addClass_91 (by decide) (fun c23 => ?_) (fun c23 => ?_)
      · have hp := hp.1 c23
        have hf := hf.trans (if_pos c23)
        refine lv_iload hx hb d_Pr_addClass_105 (lv_at hl 0 rfl) ?_
        exact cs_iret hC hw hr hlk hf d_Pr_addClass_107
      · have hp := hp.2 c23
        have hf := hf.trans (if_neg c23)
        refine lv_aload_n hx hb d_Pr_addClass_94 rfl (lv_at hl 1 rfl) ?_
        refine gf_Pr_scripts hC hw g0 wd_100 d_Pr_addClass_95 ?_
        refine lv_iload hx hb d_Pr_addClass_98 (lv_at hl 0 rfl) ?_
        have o24 := hp.1
        have hp := hp.2
        refine cs_aald22 hC hw is_7 o24 d_Pr_addClass_100 ?_
        refine lv_iload_n hx hb d_Pr_addClass_101 rfl (lv_at hl 2 rfl) ?_
        have o25 := hp.1
        have hp := hp.2
        refine cs_ret_v hC hw (cs_runV (As := [.int y1]) (rest := []) hC hw (is_scr o24).2 (ci := 2) rfl rfl (cs_sg_is (is_scr o24)) (c_Sc_addUseAhead l D cA ad N22 (8 + 4 * z8.toNatClampNeg) (is_scr o24) y1 o25 _) rfl rfl cw_Pr_45 ⟨Nat.le_of_ble_eq_true rfl, Nat.le_of_ble_eq_true rfl⟩ hl.1 rfl rfl (Nat.le_of_ble_eq_true rfl) d_Pr_addClass_102 ⟨Nat.zero_le _, Nat.zero_le _⟩) (fun u26 H locs eu26 hw => ?_)
        have hf := cs_bdE eu26 hf
        refine lv_iload hx hb d_Pr_addClass_105 (lv_at hl 0 rfl) ?_
        exact cs_iret hC hw hr hlk hf d_Pr_addClass_107
  · have hp := hp.2 c7
    have hf := hf.trans (if_neg c7)
    refine lv_bipush (v := (-2)) hx hb d_Pr_addClass_37 (by decide) ?_
    exact cs_iret hC hw hr hlk hf d_Pr_addClass_39
set_option maxHeartbeats 4000000 in
set_option maxRecDepth 100000 in
theorem w_Pr_addClass_J26 {p : Program} {l : Launch} {e : Env} {s : State} {m : MethodId} {args : Array Value} {below : List Frame} {meth : Method} {c : Code} {D : va_G} {cA : Nat → ClassId} {A : Nat → Prop} {ad : Nat → Nat} {F : Int32 × cs_Mem} (hC : cs_Ctx p s m args c prog_5_method_6_code 6 "ClassStarter$Program" D cA A) (hr : meth.sig.returnType = (some .int)) (hlk : meth.locks = false) : ∀ (M : cs_Mem) (H : Heap) (locs : List Loc) (ls : Array Slot), cs_Wd D cA ad M A s H locs → lv_has ls 6 [] → F = f_Pr_addClass_J26 M  → W p l e ({ frames := 2, cells := 0, slots := 0, locals := 62 }) s m args below meth c H locs 0 0 (MQ below (cs_Qi D cA ad F A) args s 0 0 A) (F0 m 26 ls []) := by
  have hx := hC.1
  have hb := hC.2.1
  intro M  H locs ls hw hl  hf
  unfold f_Pr_addClass_J26 at hf
  refine lv_iconst (v := (-1)) hx hb d_Pr_addClass_26 (by decide) ?_
  exact cs_iret hC hw hr hlk hf d_Pr_addClass_27
set_option maxHeartbeats 4000000 in
set_option maxRecDepth 100000 in
theorem c_Pr_addClass (l : Launch) (D : va_G) (cA : Nat → ClassId) (ad : Nat → Nat) (M : cs_Mem) (j : Nat) (hj : cs_is 1 j) (x1 : Int32) (x2 : Int32) (x3 : Int32) (x4 : Int32) (hp : pre_Pr_addClass M j x1 x2 x3 x4) : cs_Ci l ⟨"ClassStarter$Program", "addClass", "(IZZI)I"⟩ prog_5_method_6_code 6 (some .int) ({ frames := 2, cells := 0, slots := 0, locals := 62 }) D cA ad M [.ref (ad j), .int x1, .int x2, .int x3, .int x4] (f_Pr_addClass M j x1 x2 x3 x4) := by
  refine cs_entry (by decide) (Nat.le_of_ble_eq_true rfl) (fun p e s m below meth c A ls hC hr hlk _ hw hl => ?_)
  have hx := hC.1
  have hb := hC.2.1
  have hl : lv_has ls 6 [(0, .ref (ad j)), (1, .int x1), (2, .int x2), (3, .int x3), (4, .int x4)] := hl
  generalize hF : f_Pr_addClass M j x1 x2 x3 x4 = F
  have hf := hF.symm
  unfold f_Pr_addClass at hf
  unfold pre_Pr_addClass at hp
  refine lv_iload_n hx hb d_Pr_addClass_0 rfl (lv_at hl 1 rfl) ?_
  refine lv_iconst (v := (-1)) hx hb d_Pr_addClass_1 (by decide) ?_
  refine lv_icmp_eq (tgt := 28) hx hb d_Pr_addClass_2 (by decide) (fun c1 => ?_) (fun c1 => ?_)
  · have hp := hp.1 c1
    have hf := hf.trans (if_pos c1)
    exact w_Pr_addClass_J28 hC hr hlk M j x1 x2 x3 x4 _ _ ls hw (lv_sub hl [0, 1, 2, 3, 4] rfl) hj hp hf
  · have hp := hp.2 c1
    have hf := hf.trans (if_neg c1)
    refine lv_iload_n hx hb d_Pr_addClass_5 rfl (lv_at hl 2 rfl) ?_
    refine lv_if_ne (tgt := 26) hx hb d_Pr_addClass_6 (by decide) (fun c2 => ?_) (fun c2 => ?_)
    · have hp := hp.2 c2
      have hf := hf.trans (if_neg c2)
      exact w_Pr_addClass_J26 hC hr hlk M  _ _ ls hw (lv_sub hl [] rfl) hf
    · have hp := hp.1 c2
      have hf := hf.trans (if_pos c2)
      refine lv_aload_n hx hb d_Pr_addClass_9 rfl (lv_at hl 0 rfl) ?_
      refine lv_iload_n hx hb d_Pr_addClass_10 rfl (lv_at hl 1 rfl) ?_
      refine cs_ret_p hC hw (cs_runV (As := [.int x1]) (rest := []) hC hw hj.2 (ci := 1) rfl rfl (cs_sg_is hj) (c_Pr_isDeclared l D cA ad M j hj x1 _) rfl rfl cw_Pr_41 ⟨Nat.le_of_ble_eq_true rfl, Nat.le_of_ble_eq_true rfl⟩ hl.1 rfl rfl (Nat.le_of_ble_eq_true rfl) d_Pr_addClass_11 ⟨Nat.zero_le _, Nat.zero_le _⟩) (fun r3 H locs er3 hw => ?_)
      have hp := cs_bdP er3 hp
      have hf := cs_bdE er3 hf
      refine lv_if_eq (tgt := 26) hx hb d_Pr_addClass_14 (by decide) (fun c4 => ?_) (fun c4 => ?_)
      · have hp := hp.1 c4
        have hf := hf.trans (if_pos c4)
        exact w_Pr_addClass_J26 hC hr hlk M  _ _ ls hw (lv_sub hl [] rfl) hf
      · have hp := hp.2 c4
        have hf := hf.trans (if_neg c4)
        refine lv_aload_n hx hb d_Pr_addClass_17 rfl (lv_at hl 0 rfl) ?_
        refine gf_Pr_interfaces hC hw hj wd_95 d_Pr_addClass_18 ?_
        refine lv_iload_n hx hb d_Pr_addClass_21 rfl (lv_at hl 1 rfl) ?_
        have o5 := hp.1
        have hp := hp.2
        refine cs_zald hC hw is_2 o5 d_Pr_addClass_22 ?_
        refine lv_if_eq (tgt := 28) hx hb d_Pr_addClass_23 (by decide) (fun c6 => ?_) (fun c6 => ?_)
        · have hp := hp.1 c6
          have hf := hf.trans (if_pos c6)
          exact w_Pr_addClass_J28 hC hr hlk M j x1 x2 x3 x4 _ _ ls hw (lv_sub hl [0, 1, 2, 3, 4] rfl) hj hp hf
        · have hp := hp.2 c6
          have hf := hf.trans (if_neg c6)
          exact w_Pr_addClass_J26 hC hr hlk M  _ _ ls hw (lv_sub hl [] rfl) hf
theorem d_Pr_inherits_0 : decode prog_5_method_8_code 0 = .ok (.iconst 0, 1) := by decide +kernel
theorem d_Pr_inherits_1 : decode prog_5_method_8_code 1 = .ok (.istore_n 3, 1) := by decide +kernel
theorem d_Pr_inherits_2 : decode prog_5_method_8_code 2 = .ok (.iload_n 3, 1) := by decide +kernel
theorem d_Pr_inherits_3 : decode prog_5_method_8_code 3 = .ok (.aload_n 0, 1) := by decide +kernel
theorem d_Pr_inherits_4 : decode prog_5_method_8_code 4 = .ok (.getfield 25, 3) := by decide +kernel
theorem d_Pr_inherits_7 : decode prog_5_method_8_code 7 = .ok (.iload_n 1, 1) := by decide +kernel
theorem d_Pr_inherits_8 : decode prog_5_method_8_code 8 = .ok (.iaload, 1) := by decide +kernel
theorem d_Pr_inherits_9 : decode prog_5_method_8_code 9 = .ok (.if_icmp .ge 25, 3) := by decide +kernel
theorem d_Pr_inherits_12 : decode prog_5_method_8_code 12 = .ok (.aload_n 0, 1) := by decide +kernel
theorem d_Pr_inherits_13 : decode prog_5_method_8_code 13 = .ok (.getfield 22, 3) := by decide +kernel
theorem d_Pr_inherits_16 : decode prog_5_method_8_code 16 = .ok (.iload_n 1, 1) := by decide +kernel
theorem d_Pr_inherits_17 : decode prog_5_method_8_code 17 = .ok (.iconst 2, 1) := by decide +kernel
theorem d_Pr_inherits_18 : decode prog_5_method_8_code 18 = .ok (.imul, 1) := by decide +kernel
theorem d_Pr_inherits_19 : decode prog_5_method_8_code 19 = .ok (.iload_n 3, 1) := by decide +kernel
theorem d_Pr_inherits_20 : decode prog_5_method_8_code 20 = .ok (.iadd, 1) := by decide +kernel
theorem d_Pr_inherits_21 : decode prog_5_method_8_code 21 = .ok (.iaload, 1) := by decide +kernel
theorem d_Pr_inherits_22 : decode prog_5_method_8_code 22 = .ok (.iload_n 2, 1) := by decide +kernel
theorem d_Pr_inherits_23 : decode prog_5_method_8_code 23 = .ok (.if_icmp .ne 5, 3) := by decide +kernel
theorem d_Pr_inherits_26 : decode prog_5_method_8_code 26 = .ok (.iconst 1, 1) := by decide +kernel
theorem d_Pr_inherits_27 : decode prog_5_method_8_code 27 = .ok (.ireturn, 1) := by decide +kernel
theorem d_Pr_inherits_28 : decode prog_5_method_8_code 28 = .ok (.iinc 3 1, 3) := by decide +kernel
theorem d_Pr_inherits_31 : decode prog_5_method_8_code 31 = .ok (.goto (-29), 3) := by decide +kernel
theorem d_Pr_inherits_34 : decode prog_5_method_8_code 34 = .ok (.iconst 0, 1) := by decide +kernel
theorem d_Pr_inherits_35 : decode prog_5_method_8_code 35 = .ok (.ireturn, 1) := by decide +kernel
def f_Pr_inherits_L2 : Nat → cs_Mem → Nat → Int32 → Int32 → Int32 → Int32
  | 0, M, j, y1, y2, y3 => 0
  | fuel + 1, M, j, y1, y2, y3 =>
    if (M 6 y1.toNatClampNeg) ≤ y3 then
      0
    else
      if (M 5 ((y1 * 2) + y3).toNatClampNeg) = y2 then
        1
      else
        cs_bd (y3 + 1) fun (z5 : Int32) =>
        f_Pr_inherits_L2 fuel M j y1 y2 z5
def pre_Pr_inherits_L2 : Nat → cs_Mem → Nat → Int32 → Int32 → Int32 → Prop
  | 0, _, _, _, _, _ => False
  | fuel + 1, M, j, y1, y2, y3 =>
    (vp_in y1 (cs_ln M 6)) ∧
    ((M 6 y1.toNatClampNeg) ≤ y3 →
      True
    ) ∧ (¬ ((M 6 y1.toNatClampNeg) ≤ y3) →
      (vp_in ((y1 * 2) + y3) (cs_ln M 5)) ∧
      ((M 5 ((y1 * 2) + y3).toNatClampNeg) = y2 →
        True
      ) ∧ (¬ ((M 5 ((y1 * 2) + y3).toNatClampNeg) = y2) →
        cs_bd (y3 + 1) fun (z5 : Int32) =>
        pre_Pr_inherits_L2 fuel M j y1 y2 z5
      )
    )
def f_Pr_inherits (M : cs_Mem) (j : Nat) (x1 : Int32) (x2 : Int32) : Int32 :=
  f_Pr_inherits_L2 10 M j x1 x2 0
def pre_Pr_inherits (M : cs_Mem) (j : Nat) (x1 : Int32) (x2 : Int32) : Prop :=
  pre_Pr_inherits_L2 10 M j x1 x2 0
set_option maxHeartbeats 4000000 in
set_option maxRecDepth 100000 in
theorem w_Pr_inherits_L2 {p : Program} {l : Launch} {e : Env} {s : State} {m : MethodId} {args : Array Value} {below : List Frame} {meth : Method} {c : Code} {D : va_G} {cA : Nat → ClassId} {A : Nat → Prop} {ad : Nat → Nat} {F : Int32} (hC : cs_Ctx p s m args c prog_5_method_8_code 4 "ClassStarter$Program" D cA A) (hr : meth.sig.returnType = (some .boolean)) (hlk : meth.locks = false) (fuel : Nat) : ∀ (M : cs_Mem) (j : Nat) (y1 : Int32) (y2 : Int32) (y3 : Int32) (H : Heap) (locs : List Loc) (ls : Array Slot), cs_Wd D cA ad M A s H locs → lv_has ls 4 [(0, .ref (ad j)), (1, .int y1), (2, .int y2), (3, .int y3)] → cs_is 1 j → pre_Pr_inherits_L2 fuel M j y1 y2 y3 → F = f_Pr_inherits_L2 fuel M j y1 y2 y3 → W p l e ({ frames := 0, cells := 0, slots := 0, locals := 0 }) s m args below meth c H locs 0 0 (MQ below (cs_Qi D cA ad (F, M) A) args s 0 0 A) (F0 m 2 ls []) := by
  have hx := hC.1
  have hb := hC.2.1
  induction fuel with
  | zero =>
    intro M j y1 y2 y3 H locs ls hw hl g0 hp hf
    exact absurd hp (by simp [pre_Pr_inherits_L2])
  | succ fuel ih =>
    intro M j y1 y2 y3 H locs ls hw hl g0 hp hf
    rw [f_Pr_inherits_L2] at hf
    rw [pre_Pr_inherits_L2] at hp
    refine lv_iload_n hx hb d_Pr_inherits_2 rfl (lv_at hl 3 rfl) ?_
    refine lv_aload_n hx hb d_Pr_inherits_3 rfl (lv_at hl 0 rfl) ?_
    refine gf_Pr_inheritedCounts hC hw g0 wd_99 d_Pr_inherits_4 ?_
    refine lv_iload_n hx hb d_Pr_inherits_7 rfl (lv_at hl 1 rfl) ?_
    have o1 := hp.1
    have hp := hp.2
    refine cs_iald hC hw is_6 o1 d_Pr_inherits_8 ?_
    refine lv_icmp_ge (tgt := 34) hx hb d_Pr_inherits_9 (by decide) (fun c2 => ?_) (fun c2 => ?_)
    · have hp := hp.1 c2
      have hf := hf.trans (if_pos c2)
      refine lv_iconst (v := 0) hx hb d_Pr_inherits_34 (by decide) ?_
      exact cs_zret hC hw hr hlk (Or.inl rfl) (congrArg (fun z => (z, M)) hf) d_Pr_inherits_35
    · have hp := hp.2 c2
      have hf := hf.trans (if_neg c2)
      refine lv_aload_n hx hb d_Pr_inherits_12 rfl (lv_at hl 0 rfl) ?_
      refine gf_Pr_inherited hC hw g0 wd_98 d_Pr_inherits_13 ?_
      refine lv_iload_n hx hb d_Pr_inherits_16 rfl (lv_at hl 1 rfl) ?_
      refine lv_iconst (v := 2) hx hb d_Pr_inherits_17 (by decide) ?_
      refine lv_imul hx hb d_Pr_inherits_18 ?_
      refine lv_iload_n hx hb d_Pr_inherits_19 rfl (lv_at hl 3 rfl) ?_
      refine lv_iadd hx hb d_Pr_inherits_20 ?_
      have o3 := hp.1
      have hp := hp.2
      refine cs_iald hC hw is_5 o3 d_Pr_inherits_21 ?_
      refine lv_iload_n hx hb d_Pr_inherits_22 rfl (lv_at hl 2 rfl) ?_
      refine lv_icmp_ne (tgt := 28) hx hb d_Pr_inherits_23 (by decide) (fun c4 => ?_) (fun c4 => ?_)
      · have hp := hp.2 c4
        have hf := hf.trans (if_neg c4)
        obtain ⟨z5, ez5⟩ : ∃ y : Int32, y = y3 + 1 := ⟨_, rfl⟩
        have hp := cs_bdP ez5 hp
        have hf := cs_bdE ez5 hf
        refine lv_iinc (v := z5) (lv' := [(3, .int z5), (0, .ref (ad j)), (1, .int y1), (2, .int y2)]) hx hb d_Pr_inherits_28 hl (k := 3) rfl (by rw [ez5]; rfl) (by decide) rfl (fun ls hl => ?_)
        refine lv_goto (tgt := 2) hx hb d_Pr_inherits_31 (by decide) ?_
        exact ih M j y1 y2 z5 _ _ ls hw (lv_sub hl [1, 2, 3, 0] rfl) g0 hp hf
      · have hp := hp.1 c4
        have hf := hf.trans (if_pos c4)
        refine lv_iconst (v := 1) hx hb d_Pr_inherits_26 (by decide) ?_
        exact cs_zret hC hw hr hlk (Or.inr rfl) (congrArg (fun z => (z, M)) hf) d_Pr_inherits_27
set_option maxHeartbeats 4000000 in
set_option maxRecDepth 100000 in
theorem c_Pr_inherits (l : Launch) (D : va_G) (cA : Nat → ClassId) (ad : Nat → Nat) (M : cs_Mem) (j : Nat) (hj : cs_is 1 j) (x1 : Int32) (x2 : Int32) (hp : pre_Pr_inherits M j x1 x2) : cs_Ci l ⟨"ClassStarter$Program", "inherits", "(II)Z"⟩ prog_5_method_8_code 4 (some .boolean) ({ frames := 0, cells := 0, slots := 0, locals := 0 }) D cA ad M [.ref (ad j), .int x1, .int x2] ((f_Pr_inherits M j x1 x2, M)) := by
  refine cs_entry (by decide) (Nat.le_of_ble_eq_true rfl) (fun p e s m below meth c A ls hC hr hlk _ hw hl => ?_)
  have hx := hC.1
  have hb := hC.2.1
  have hl : lv_has ls 4 [(0, .ref (ad j)), (1, .int x1), (2, .int x2)] := hl
  generalize hF : f_Pr_inherits M j x1 x2 = F
  have hf := hF.symm
  unfold f_Pr_inherits at hf
  unfold pre_Pr_inherits at hp
  refine lv_iconst (v := 0) hx hb d_Pr_inherits_0 (by decide) ?_
  refine lv_istore_n (lv' := [(3, .int 0), (0, .ref (ad j)), (1, .int x1), (2, .int x2)]) hx hb d_Pr_inherits_1 rfl hl (by decide) rfl (fun ls hl => ?_)
  exact w_Pr_inherits_L2 hC hr hlk 10 M j x1 x2 0 _ _ ls hw (lv_sub hl [1, 2, 3, 0] rfl) hj hp hf
theorem d_Pr_addInterface_0 : decode prog_5_method_7_code 0 = .ok (.aload_n 0, 1) := by decide +kernel
theorem d_Pr_addInterface_1 : decode prog_5_method_7_code 1 = .ok (.iload_n 1, 1) := by decide +kernel
theorem d_Pr_addInterface_2 : decode prog_5_method_7_code 2 = .ok (.invokevirtual 41, 3) := by decide +kernel
theorem d_Pr_addInterface_5 : decode prog_5_method_7_code 5 = .ok (.ifCond .eq 39, 3) := by decide +kernel
theorem d_Pr_addInterface_8 : decode prog_5_method_7_code 8 = .ok (.aload_n 0, 1) := by decide +kernel
theorem d_Pr_addInterface_9 : decode prog_5_method_7_code 9 = .ok (.getfield 9, 3) := by decide +kernel
theorem d_Pr_addInterface_12 : decode prog_5_method_7_code 12 = .ok (.iload_n 1, 1) := by decide +kernel
theorem d_Pr_addInterface_13 : decode prog_5_method_7_code 13 = .ok (.baload, 1) := by decide +kernel
theorem d_Pr_addInterface_14 : decode prog_5_method_7_code 14 = .ok (.ifCond .ne 30, 3) := by decide +kernel
theorem d_Pr_addInterface_17 : decode prog_5_method_7_code 17 = .ok (.iload_n 2, 1) := by decide +kernel
theorem d_Pr_addInterface_18 : decode prog_5_method_7_code 18 = .ok (.ifCond .lt 26, 3) := by decide +kernel
theorem d_Pr_addInterface_21 : decode prog_5_method_7_code 21 = .ok (.iload_n 2, 1) := by decide +kernel
theorem d_Pr_addInterface_22 : decode prog_5_method_7_code 22 = .ok (.iload_n 1, 1) := by decide +kernel
theorem d_Pr_addInterface_23 : decode prog_5_method_7_code 23 = .ok (.if_icmp .ge 21, 3) := by decide +kernel
theorem d_Pr_addInterface_26 : decode prog_5_method_7_code 26 = .ok (.aload_n 0, 1) := by decide +kernel
theorem d_Pr_addInterface_27 : decode prog_5_method_7_code 27 = .ok (.getfield 9, 3) := by decide +kernel
theorem d_Pr_addInterface_30 : decode prog_5_method_7_code 30 = .ok (.iload_n 2, 1) := by decide +kernel
theorem d_Pr_addInterface_31 : decode prog_5_method_7_code 31 = .ok (.baload, 1) := by decide +kernel
theorem d_Pr_addInterface_32 : decode prog_5_method_7_code 32 = .ok (.ifCond .eq 12, 3) := by decide +kernel
theorem d_Pr_addInterface_35 : decode prog_5_method_7_code 35 = .ok (.aload_n 0, 1) := by decide +kernel
theorem d_Pr_addInterface_36 : decode prog_5_method_7_code 36 = .ok (.iload_n 1, 1) := by decide +kernel
theorem d_Pr_addInterface_37 : decode prog_5_method_7_code 37 = .ok (.iload_n 2, 1) := by decide +kernel
theorem d_Pr_addInterface_38 : decode prog_5_method_7_code 38 = .ok (.invokevirtual 49, 3) := by decide +kernel
theorem d_Pr_addInterface_41 : decode prog_5_method_7_code 41 = .ok (.ifCond .eq 5, 3) := by decide +kernel
theorem d_Pr_addInterface_44 : decode prog_5_method_7_code 44 = .ok (.iconst (-1), 1) := by decide +kernel
theorem d_Pr_addInterface_45 : decode prog_5_method_7_code 45 = .ok (.ireturn, 1) := by decide +kernel
theorem d_Pr_addInterface_46 : decode prog_5_method_7_code 46 = .ok (.aload_n 0, 1) := by decide +kernel
theorem d_Pr_addInterface_47 : decode prog_5_method_7_code 47 = .ok (.getfield 25, 3) := by decide +kernel
theorem d_Pr_addInterface_50 : decode prog_5_method_7_code 50 = .ok (.iload_n 1, 1) := by decide +kernel
theorem d_Pr_addInterface_51 : decode prog_5_method_7_code 51 = .ok (.iaload, 1) := by decide +kernel
theorem d_Pr_addInterface_52 : decode prog_5_method_7_code 52 = .ok (.iconst 2, 1) := by decide +kernel
theorem d_Pr_addInterface_53 : decode prog_5_method_7_code 53 = .ok (.if_icmp .lt 6, 3) := by decide +kernel
theorem d_Pr_addInterface_56 : decode prog_5_method_7_code 56 = .ok (.bipush (-2), 2) := by decide +kernel
theorem d_Pr_addInterface_58 : decode prog_5_method_7_code 58 = .ok (.ireturn, 1) := by decide +kernel
theorem d_Pr_addInterface_59 : decode prog_5_method_7_code 59 = .ok (.aload_n 0, 1) := by decide +kernel
theorem d_Pr_addInterface_60 : decode prog_5_method_7_code 60 = .ok (.getfield 22, 3) := by decide +kernel
theorem d_Pr_addInterface_63 : decode prog_5_method_7_code 63 = .ok (.iload_n 1, 1) := by decide +kernel
theorem d_Pr_addInterface_64 : decode prog_5_method_7_code 64 = .ok (.iconst 2, 1) := by decide +kernel
theorem d_Pr_addInterface_65 : decode prog_5_method_7_code 65 = .ok (.imul, 1) := by decide +kernel
theorem d_Pr_addInterface_66 : decode prog_5_method_7_code 66 = .ok (.aload_n 0, 1) := by decide +kernel
theorem d_Pr_addInterface_67 : decode prog_5_method_7_code 67 = .ok (.getfield 25, 3) := by decide +kernel
theorem d_Pr_addInterface_70 : decode prog_5_method_7_code 70 = .ok (.iload_n 1, 1) := by decide +kernel
theorem d_Pr_addInterface_71 : decode prog_5_method_7_code 71 = .ok (.iaload, 1) := by decide +kernel
theorem d_Pr_addInterface_72 : decode prog_5_method_7_code 72 = .ok (.iadd, 1) := by decide +kernel
theorem d_Pr_addInterface_73 : decode prog_5_method_7_code 73 = .ok (.iload_n 2, 1) := by decide +kernel
theorem d_Pr_addInterface_74 : decode prog_5_method_7_code 74 = .ok (.iastore, 1) := by decide +kernel
theorem d_Pr_addInterface_75 : decode prog_5_method_7_code 75 = .ok (.aload_n 0, 1) := by decide +kernel
theorem d_Pr_addInterface_76 : decode prog_5_method_7_code 76 = .ok (.getfield 25, 3) := by decide +kernel
theorem d_Pr_addInterface_79 : decode prog_5_method_7_code 79 = .ok (.iload_n 1, 1) := by decide +kernel
theorem d_Pr_addInterface_80 : decode prog_5_method_7_code 80 = .ok (.dup2, 1) := by decide +kernel
theorem d_Pr_addInterface_81 : decode prog_5_method_7_code 81 = .ok (.iaload, 1) := by decide +kernel
theorem d_Pr_addInterface_82 : decode prog_5_method_7_code 82 = .ok (.iconst 1, 1) := by decide +kernel
theorem d_Pr_addInterface_83 : decode prog_5_method_7_code 83 = .ok (.iadd, 1) := by decide +kernel
theorem d_Pr_addInterface_84 : decode prog_5_method_7_code 84 = .ok (.iastore, 1) := by decide +kernel
theorem d_Pr_addInterface_85 : decode prog_5_method_7_code 85 = .ok (.iload_n 3, 1) := by decide +kernel
theorem d_Pr_addInterface_86 : decode prog_5_method_7_code 86 = .ok (.ifCond .eq 13, 3) := by decide +kernel
theorem d_Pr_addInterface_89 : decode prog_5_method_7_code 89 = .ok (.aload_n 0, 1) := by decide +kernel
theorem d_Pr_addInterface_90 : decode prog_5_method_7_code 90 = .ok (.getfield 30, 3) := by decide +kernel
theorem d_Pr_addInterface_93 : decode prog_5_method_7_code 93 = .ok (.iload_n 1, 1) := by decide +kernel
theorem d_Pr_addInterface_94 : decode prog_5_method_7_code 94 = .ok (.aaload, 1) := by decide +kernel
theorem d_Pr_addInterface_95 : decode prog_5_method_7_code 95 = .ok (.iload_n 2, 1) := by decide +kernel
theorem d_Pr_addInterface_96 : decode prog_5_method_7_code 96 = .ok (.invokevirtual 45, 3) := by decide +kernel
theorem d_Pr_addInterface_99 : decode prog_5_method_7_code 99 = .ok (.aload_n 0, 1) := by decide +kernel
theorem d_Pr_addInterface_100 : decode prog_5_method_7_code 100 = .ok (.getfield 25, 3) := by decide +kernel
theorem d_Pr_addInterface_103 : decode prog_5_method_7_code 103 = .ok (.iload_n 1, 1) := by decide +kernel
theorem d_Pr_addInterface_104 : decode prog_5_method_7_code 104 = .ok (.iaload, 1) := by decide +kernel
theorem d_Pr_addInterface_105 : decode prog_5_method_7_code 105 = .ok (.ireturn, 1) := by decide +kernel
def f_Pr_addInterface_J44 (M : cs_Mem)  : Int32 × cs_Mem :=
  ((-1), M)
def f_Pr_addInterface (M : cs_Mem) (j : Nat) (x1 : Int32) (x2 : Int32) (x3 : Int32) : Int32 × cs_Mem :=
  cs_bd (f_Pr_isDeclared M j x1) fun (r1 : Int32) =>
  if r1 = 0 then
    f_Pr_addInterface_J44 M 
  else
    if (M 2 x1.toNatClampNeg) = 0 then
      if x2 < 0 then
        f_Pr_addInterface_J44 M 
      else
        if x1 ≤ x2 then
          f_Pr_addInterface_J44 M 
        else
          if (M 2 x2.toNatClampNeg) = 0 then
            f_Pr_addInterface_J44 M 
          else
            cs_bd (f_Pr_inherits M j x1 x2) fun (r10 : Int32) =>
            if r10 = 0 then
              if (M 6 x1.toNatClampNeg) < 2 then
                cs_bd (cs_up M 5 (upd (M 5) ((x1 * 2) + (M 6 x1.toNatClampNeg)).toNatClampNeg x2)) fun (N16 : cs_Mem) =>
                cs_bd (cs_up N16 6 (upd (N16 6) x1.toNatClampNeg ((N16 6 x1.toNatClampNeg) + 1))) fun (N19 : cs_Mem) =>
                if x3 = 0 then
                  (N19 6 x1.toNatClampNeg, N19)
                else
                  cs_bd (f_Sc_addUseAhead N19 (8 + 4 * x1.toNatClampNeg) x2) fun (u24 : cs_Mem) =>
                  (u24 6 x1.toNatClampNeg, u24)
              else
                ((-2), M)
            else
              f_Pr_addInterface_J44 M 
    else
      f_Pr_addInterface_J44 M 
def pre_Pr_addInterface (M : cs_Mem) (j : Nat) (x1 : Int32) (x2 : Int32) (x3 : Int32) : Prop :=
  cs_bd (f_Pr_isDeclared M j x1) fun (r1 : Int32) =>
  (r1 = 0 →
    True
  ) ∧ (¬ (r1 = 0) →
    (vp_in x1 (cs_ln M 2)) ∧
    ((M 2 x1.toNatClampNeg) = 0 →
      (x2 < 0 →
        True
      ) ∧ (¬ (x2 < 0) →
        (x1 ≤ x2 →
          True
        ) ∧ (¬ (x1 ≤ x2) →
          (vp_in x2 (cs_ln M 2)) ∧
          ((M 2 x2.toNatClampNeg) = 0 →
            True
          ) ∧ (¬ ((M 2 x2.toNatClampNeg) = 0) →
            (pre_Pr_inherits M j x1 x2) ∧
            cs_bd (f_Pr_inherits M j x1 x2) fun (r10 : Int32) =>
            (r10 = 0 →
              (vp_in x1 (cs_ln M 6)) ∧
              ((M 6 x1.toNatClampNeg) < 2 →
                (vp_in x1 (cs_ln M 6)) ∧
                (vp_in ((x1 * 2) + (M 6 x1.toNatClampNeg)) (cs_ln M 5)) ∧
                cs_bd (cs_up M 5 (upd (M 5) ((x1 * 2) + (M 6 x1.toNatClampNeg)).toNatClampNeg x2)) fun (N16 : cs_Mem) =>
                (vp_in x1 (cs_ln N16 6)) ∧
                (vp_in x1 (cs_ln N16 6)) ∧
                cs_bd (cs_up N16 6 (upd (N16 6) x1.toNatClampNeg ((N16 6 x1.toNatClampNeg) + 1))) fun (N19 : cs_Mem) =>
                (x3 = 0 →
                  (vp_in x1 (cs_ln N19 6)) ∧
                  True
                ) ∧ (¬ (x3 = 0) →
                  (vp_in x1 11) ∧
                  (pre_Sc_addUseAhead N19 (8 + 4 * x1.toNatClampNeg) x2) ∧
                  cs_bd (f_Sc_addUseAhead N19 (8 + 4 * x1.toNatClampNeg) x2) fun (u24 : cs_Mem) =>
                  (vp_in x1 (cs_ln u24 6)) ∧
                  True
                )
              ) ∧ (¬ ((M 6 x1.toNatClampNeg) < 2) →
                True
              )
            ) ∧ (¬ (r10 = 0) →
              True
            )
          )
        )
      )
    ) ∧ (¬ ((M 2 x1.toNatClampNeg) = 0) →
      True
    )
  )
set_option maxHeartbeats 4000000 in
set_option maxRecDepth 100000 in
theorem w_Pr_addInterface_J44 {p : Program} {l : Launch} {e : Env} {s : State} {m : MethodId} {args : Array Value} {below : List Frame} {meth : Method} {c : Code} {D : va_G} {cA : Nat → ClassId} {A : Nat → Prop} {ad : Nat → Nat} {F : Int32 × cs_Mem} (hC : cs_Ctx p s m args c prog_5_method_7_code 4 "ClassStarter$Program" D cA A) (hr : meth.sig.returnType = (some .int)) (hlk : meth.locks = false) : ∀ (M : cs_Mem) (H : Heap) (locs : List Loc) (ls : Array Slot), cs_Wd D cA ad M A s H locs → lv_has ls 4 [] → F = f_Pr_addInterface_J44 M  → W p l e ({ frames := 2, cells := 0, slots := 0, locals := 62 }) s m args below meth c H locs 0 0 (MQ below (cs_Qi D cA ad F A) args s 0 0 A) (F0 m 44 ls []) := by
  have hx := hC.1
  have hb := hC.2.1
  intro M  H locs ls hw hl  hf
  unfold f_Pr_addInterface_J44 at hf
  refine lv_iconst (v := (-1)) hx hb d_Pr_addInterface_44 (by decide) ?_
  exact cs_iret hC hw hr hlk hf d_Pr_addInterface_45
set_option maxHeartbeats 4000000 in
set_option maxRecDepth 100000 in
theorem c_Pr_addInterface (l : Launch) (D : va_G) (cA : Nat → ClassId) (ad : Nat → Nat) (M : cs_Mem) (j : Nat) (hj : cs_is 1 j) (x1 : Int32) (x2 : Int32) (x3 : Int32) (hp : pre_Pr_addInterface M j x1 x2 x3) : cs_Ci l ⟨"ClassStarter$Program", "addInterface", "(IIZ)I"⟩ prog_5_method_7_code 4 (some .int) ({ frames := 2, cells := 0, slots := 0, locals := 62 }) D cA ad M [.ref (ad j), .int x1, .int x2, .int x3] (f_Pr_addInterface M j x1 x2 x3) := by
  refine cs_entry (by decide) (Nat.le_of_ble_eq_true rfl) (fun p e s m below meth c A ls hC hr hlk _ hw hl => ?_)
  have hx := hC.1
  have hb := hC.2.1
  have hl : lv_has ls 4 [(0, .ref (ad j)), (1, .int x1), (2, .int x2), (3, .int x3)] := hl
  generalize hF : f_Pr_addInterface M j x1 x2 x3 = F
  have hf := hF.symm
  unfold f_Pr_addInterface at hf
  unfold pre_Pr_addInterface at hp
  refine lv_aload_n hx hb d_Pr_addInterface_0 rfl (lv_at hl 0 rfl) ?_
  refine lv_iload_n hx hb d_Pr_addInterface_1 rfl (lv_at hl 1 rfl) ?_
  refine cs_ret_p hC hw (cs_runV (As := [.int x1]) (rest := []) hC hw hj.2 (ci := 1) rfl rfl (cs_sg_is hj) (c_Pr_isDeclared l D cA ad M j hj x1 _) rfl rfl cw_Pr_41 ⟨Nat.le_of_ble_eq_true rfl, Nat.le_of_ble_eq_true rfl⟩ hl.1 rfl rfl (Nat.le_of_ble_eq_true rfl) d_Pr_addInterface_2 ⟨Nat.zero_le _, Nat.zero_le _⟩) (fun r1 H locs er1 hw => ?_)
  have hp := cs_bdP er1 hp
  have hf := cs_bdE er1 hf
  refine lv_if_eq (tgt := 44) hx hb d_Pr_addInterface_5 (by decide) (fun c2 => ?_) (fun c2 => ?_)
  · have hp := hp.1 c2
    have hf := hf.trans (if_pos c2)
    exact w_Pr_addInterface_J44 hC hr hlk M  _ _ ls hw (lv_sub hl [] rfl) hf
  · have hp := hp.2 c2
    have hf := hf.trans (if_neg c2)
    refine lv_aload_n hx hb d_Pr_addInterface_8 rfl (lv_at hl 0 rfl) ?_
    refine gf_Pr_interfaces hC hw hj wd_95 d_Pr_addInterface_9 ?_
    refine lv_iload_n hx hb d_Pr_addInterface_12 rfl (lv_at hl 1 rfl) ?_
    have o3 := hp.1
    have hp := hp.2
    refine cs_zald hC hw is_2 o3 d_Pr_addInterface_13 ?_
    refine lv_if_ne (tgt := 44) hx hb d_Pr_addInterface_14 (by decide) (fun c4 => ?_) (fun c4 => ?_)
    · have hp := hp.2 c4
      have hf := hf.trans (if_neg c4)
      exact w_Pr_addInterface_J44 hC hr hlk M  _ _ ls hw (lv_sub hl [] rfl) hf
    · have hp := hp.1 c4
      have hf := hf.trans (if_pos c4)
      refine lv_iload_n hx hb d_Pr_addInterface_17 rfl (lv_at hl 2 rfl) ?_
      refine lv_if_lt (tgt := 44) hx hb d_Pr_addInterface_18 (by decide) (fun c5 => ?_) (fun c5 => ?_)
      · have hp := hp.1 c5
        have hf := hf.trans (if_pos c5)
        exact w_Pr_addInterface_J44 hC hr hlk M  _ _ ls hw (lv_sub hl [] rfl) hf
      · have hp := hp.2 c5
        have hf := hf.trans (if_neg c5)
        refine lv_iload_n hx hb d_Pr_addInterface_21 rfl (lv_at hl 2 rfl) ?_
        refine lv_iload_n hx hb d_Pr_addInterface_22 rfl (lv_at hl 1 rfl) ?_
        refine lv_icmp_ge (tgt := 44) hx hb d_Pr_addInterface_23 (by decide) (fun c6 => ?_) (fun c6 => ?_)
        · have hp := hp.1 c6
          have hf := hf.trans (if_pos c6)
          exact w_Pr_addInterface_J44 hC hr hlk M  _ _ ls hw (lv_sub hl [] rfl) hf
        · have hp := hp.2 c6
          have hf := hf.trans (if_neg c6)
          refine lv_aload_n hx hb d_Pr_addInterface_26 rfl (lv_at hl 0 rfl) ?_
          refine gf_Pr_interfaces hC hw hj wd_95 d_Pr_addInterface_27 ?_
          refine lv_iload_n hx hb d_Pr_addInterface_30 rfl (lv_at hl 2 rfl) ?_
          have o7 := hp.1
          have hp := hp.2
          refine cs_zald hC hw is_2 o7 d_Pr_addInterface_31 ?_
          refine lv_if_eq (tgt := 44) hx hb d_Pr_addInterface_32 (by decide) (fun c8 => ?_) (fun c8 => ?_)
          · have hp := hp.1 c8
            have hf := hf.trans (if_pos c8)
            exact w_Pr_addInterface_J44 hC hr hlk M  _ _ ls hw (lv_sub hl [] rfl) hf
          · have hp := hp.2 c8
            have hf := hf.trans (if_neg c8)
            refine lv_aload_n hx hb d_Pr_addInterface_35 rfl (lv_at hl 0 rfl) ?_
            refine lv_iload_n hx hb d_Pr_addInterface_36 rfl (lv_at hl 1 rfl) ?_
            refine lv_iload_n hx hb d_Pr_addInterface_37 rfl (lv_at hl 2 rfl) ?_
            have o9 := hp.1
            have hp := hp.2
            refine cs_ret_p hC hw (cs_runV (As := [.int x1, .int x2]) (rest := []) hC hw hj.2 (ci := 1) rfl rfl (cs_sg_is hj) (c_Pr_inherits l D cA ad M j hj x1 x2 o9 _) rfl rfl cw_Pr_49 ⟨Nat.le_of_ble_eq_true rfl, Nat.le_of_ble_eq_true rfl⟩ hl.1 rfl rfl (Nat.le_of_ble_eq_true rfl) d_Pr_addInterface_38 ⟨Nat.zero_le _, Nat.zero_le _⟩) (fun r10 H locs er10 hw => ?_)
            have hp := cs_bdP er10 hp
            have hf := cs_bdE er10 hf
            refine lv_if_eq (tgt := 46) hx hb d_Pr_addInterface_41 (by decide) (fun c11 => ?_) (fun c11 => ?_)
            · have hp := hp.1 c11
              have hf := hf.trans (if_pos c11)
              refine lv_aload_n hx hb d_Pr_addInterface_46 rfl (lv_at hl 0 rfl) ?_
              refine gf_Pr_inheritedCounts hC hw hj wd_99 d_Pr_addInterface_47 ?_
              refine lv_iload_n hx hb d_Pr_addInterface_50 rfl (lv_at hl 1 rfl) ?_
              have o12 := hp.1
              have hp := hp.2
              refine cs_iald hC hw is_6 o12 d_Pr_addInterface_51 ?_
              refine lv_iconst (v := 2) hx hb d_Pr_addInterface_52 (by decide) ?_
              refine lv_icmp_lt (tgt := 59) hx hb d_Pr_addInterface_53 (by decide) (fun c13 => ?_) (fun c13 => ?_)
              · have hp := hp.1 c13
                have hf := hf.trans (if_pos c13)
                refine lv_aload_n hx hb d_Pr_addInterface_59 rfl (lv_at hl 0 rfl) ?_
                refine gf_Pr_inherited hC hw hj wd_98 d_Pr_addInterface_60 ?_
                refine lv_iload_n hx hb d_Pr_addInterface_63 rfl (lv_at hl 1 rfl) ?_
                refine lv_iconst (v := 2) hx hb d_Pr_addInterface_64 (by decide) ?_
                refine lv_imul hx hb d_Pr_addInterface_65 ?_
                refine lv_aload_n hx hb d_Pr_addInterface_66 rfl (lv_at hl 0 rfl) ?_
                refine gf_Pr_inheritedCounts hC hw hj wd_99 d_Pr_addInterface_67 ?_
                refine lv_iload_n hx hb d_Pr_addInterface_70 rfl (lv_at hl 1 rfl) ?_
                have o14 := hp.1
                have hp := hp.2
                refine cs_iald hC hw is_6 o14 d_Pr_addInterface_71 ?_
                refine lv_iadd hx hb d_Pr_addInterface_72 ?_
                refine lv_iload_n hx hb d_Pr_addInterface_73 rfl (lv_at hl 2 rfl) ?_
                have o15 := hp.1
                have hp := hp.2
                refine cs_iast hC hw is_5 o15 d_Pr_addInterface_74 (fun N16 H locs eN16 hw => ?_)
                have hp := cs_bdP eN16 hp
                have hf := cs_bdE eN16 hf
                refine lv_aload_n hx hb d_Pr_addInterface_75 rfl (lv_at hl 0 rfl) ?_
                refine gf_Pr_inheritedCounts hC hw hj wd_99 d_Pr_addInterface_76 ?_
                refine lv_iload_n hx hb d_Pr_addInterface_79 rfl (lv_at hl 1 rfl) ?_
                refine lv_dup2_11 hx hb d_Pr_addInterface_80 rfl rfl ?_
                have o17 := hp.1
                have hp := hp.2
                refine cs_iald hC hw is_6 o17 d_Pr_addInterface_81 ?_
                refine lv_iconst (v := 1) hx hb d_Pr_addInterface_82 (by decide) ?_
                refine lv_iadd hx hb d_Pr_addInterface_83 ?_
                have o18 := hp.1
                have hp := hp.2
                refine cs_iast hC hw is_6 o18 d_Pr_addInterface_84 (fun N19 H locs eN19 hw => ?_)
                have hp := cs_bdP eN19 hp
                have hf := cs_bdE eN19 hf
                refine lv_iload_n hx hb d_Pr_addInterface_85 rfl (lv_at hl 3 rfl) ?_
                refine lv_if_eq (tgt := 99) hx hb d_Pr_addInterface_86 (by decide) (fun c20 => ?_) (fun c20 => ?_)
                · have hp := hp.1 c20
                  have hf := hf.trans (if_pos c20)
                  refine lv_aload_n hx hb d_Pr_addInterface_99 rfl (lv_at hl 0 rfl) ?_
                  refine gf_Pr_inheritedCounts hC hw hj wd_99 d_Pr_addInterface_100 ?_
                  refine lv_iload_n hx hb d_Pr_addInterface_103 rfl (lv_at hl 1 rfl) ?_
                  have o21 := hp.1
                  have hp := hp.2
                  refine cs_iald hC hw is_6 o21 d_Pr_addInterface_104 ?_
                  exact cs_iret hC hw hr hlk hf d_Pr_addInterface_105
                · have hp := hp.2 c20
                  have hf := hf.trans (if_neg c20)
                  refine lv_aload_n hx hb d_Pr_addInterface_89 rfl (lv_at hl 0 rfl) ?_
                  refine gf_Pr_scripts hC hw hj wd_100 d_Pr_addInterface_90 ?_
                  refine lv_iload_n hx hb d_Pr_addInterface_93 rfl (lv_at hl 1 rfl) ?_
                  have o22 := hp.1
                  have hp := hp.2
                  refine cs_aald22 hC hw is_7 o22 d_Pr_addInterface_94 ?_
                  refine lv_iload_n hx hb d_Pr_addInterface_95 rfl (lv_at hl 2 rfl) ?_
                  have o23 := hp.1
                  have hp := hp.2
                  refine cs_ret_v hC hw (cs_runV (As := [.int x2]) (rest := []) hC hw (is_scr o22).2 (ci := 2) rfl rfl (cs_sg_is (is_scr o22)) (c_Sc_addUseAhead l D cA ad N19 (8 + 4 * x1.toNatClampNeg) (is_scr o22) x2 o23 _) rfl rfl cw_Pr_45 ⟨Nat.le_of_ble_eq_true rfl, Nat.le_of_ble_eq_true rfl⟩ hl.1 rfl rfl (Nat.le_of_ble_eq_true rfl) d_Pr_addInterface_96 ⟨Nat.zero_le _, Nat.zero_le _⟩) (fun u24 H locs eu24 hw => ?_)
                  have hp := cs_bdP eu24 hp
                  have hf := cs_bdE eu24 hf
                  refine lv_aload_n hx hb d_Pr_addInterface_99 rfl (lv_at hl 0 rfl) ?_
                  refine gf_Pr_inheritedCounts hC hw hj wd_99 d_Pr_addInterface_100 ?_
                  refine lv_iload_n hx hb d_Pr_addInterface_103 rfl (lv_at hl 1 rfl) ?_
                  have o25 := hp.1
                  have hp := hp.2
                  refine cs_iald hC hw is_6 o25 d_Pr_addInterface_104 ?_
                  exact cs_iret hC hw hr hlk hf d_Pr_addInterface_105
              · have hp := hp.2 c13
                have hf := hf.trans (if_neg c13)
                refine lv_bipush (v := (-2)) hx hb d_Pr_addInterface_56 (by decide) ?_
                exact cs_iret hC hw hr hlk hf d_Pr_addInterface_58
            · have hp := hp.2 c11
              have hf := hf.trans (if_neg c11)
              exact w_Pr_addInterface_J44 hC hr hlk M  _ _ ls hw (lv_sub hl [] rfl) hf
theorem d_Pr_isBelow_0 : decode prog_5_method_12_code 0 = .ok (.iload_n 0, 1) := by decide +kernel
theorem d_Pr_isBelow_1 : decode prog_5_method_12_code 1 = .ok (.ifCond .lt 12, 3) := by decide +kernel
theorem d_Pr_isBelow_4 : decode prog_5_method_12_code 4 = .ok (.iload_n 0, 1) := by decide +kernel
theorem d_Pr_isBelow_5 : decode prog_5_method_12_code 5 = .ok (.iload_n 1, 1) := by decide +kernel
theorem d_Pr_isBelow_6 : decode prog_5_method_12_code 6 = .ok (.if_icmp .ge 7, 3) := by decide +kernel
theorem d_Pr_isBelow_9 : decode prog_5_method_12_code 9 = .ok (.iconst 1, 1) := by decide +kernel
theorem d_Pr_isBelow_10 : decode prog_5_method_12_code 10 = .ok (.goto 4, 3) := by decide +kernel
theorem d_Pr_isBelow_13 : decode prog_5_method_12_code 13 = .ok (.iconst 0, 1) := by decide +kernel
theorem d_Pr_isBelow_14 : decode prog_5_method_12_code 14 = .ok (.ireturn, 1) := by decide +kernel
def f_Pr_isBelow (M : cs_Mem) (x0 : Int32) (x1 : Int32) : Int32 :=
  if x0 < 0 then
    0
  else
    if x1 ≤ x0 then
      0
    else
      1
set_option maxHeartbeats 4000000 in
set_option maxRecDepth 100000 in
theorem c_Pr_isBelow (l : Launch) (D : va_G) (cA : Nat → ClassId) (ad : Nat → Nat) (M : cs_Mem) (x0 : Int32) (x1 : Int32) : cs_Ci l ⟨"ClassStarter$Program", "isBelow", "(II)Z"⟩ prog_5_method_12_code 2 (some .boolean) ({ frames := 0, cells := 0, slots := 0, locals := 0 }) D cA ad M [.int x0, .int x1] ((f_Pr_isBelow M x0 x1, M)) := by
  refine cs_entry (by decide) (Nat.le_of_ble_eq_true rfl) (fun p e s m below meth c A ls hC hr hlk _ hw hl => ?_)
  have hx := hC.1
  have hb := hC.2.1
  have hl : lv_has ls 2 [(0, .int x0), (1, .int x1)] := hl
  generalize hF : f_Pr_isBelow M x0 x1 = F
  have hf := hF.symm
  unfold f_Pr_isBelow at hf
  refine lv_iload_n hx hb d_Pr_isBelow_0 rfl (lv_at hl 0 rfl) ?_
  refine lv_if_lt (tgt := 13) hx hb d_Pr_isBelow_1 (by decide) (fun c1 => ?_) (fun c1 => ?_)
  · have hf := hf.trans (if_pos c1)
    refine lv_iconst (v := 0) hx hb d_Pr_isBelow_13 (by decide) ?_
    exact cs_zret hC hw hr hlk (Or.inl rfl) (congrArg (fun z => (z, M)) hf) d_Pr_isBelow_14
  · have hf := hf.trans (if_neg c1)
    refine lv_iload_n hx hb d_Pr_isBelow_4 rfl (lv_at hl 0 rfl) ?_
    refine lv_iload_n hx hb d_Pr_isBelow_5 rfl (lv_at hl 1 rfl) ?_
    refine lv_icmp_ge (tgt := 13) hx hb d_Pr_isBelow_6 (by decide) (fun c2 => ?_) (fun c2 => ?_)
    · have hf := hf.trans (if_pos c2)
      refine lv_iconst (v := 0) hx hb d_Pr_isBelow_13 (by decide) ?_
      exact cs_zret hC hw hr hlk (Or.inl rfl) (congrArg (fun z => (z, M)) hf) d_Pr_isBelow_14
    · have hf := hf.trans (if_neg c2)
      refine lv_iconst (v := 1) hx hb d_Pr_isBelow_9 (by decide) ?_
      refine lv_goto (tgt := 14) hx hb d_Pr_isBelow_10 (by decide) ?_
      exact cs_zret hC hw hr hlk (Or.inr rfl) (congrArg (fun z => (z, M)) hf) d_Pr_isBelow_14
theorem d_Pr_isAction_0 : decode prog_5_method_11_code 0 = .ok (.iload_n 0, 1) := by decide +kernel
theorem d_Pr_isAction_1 : decode prog_5_method_11_code 1 = .ok (.tableswitch 82 0 6 #[43, 80, 50, 73, 73, 80, 80], 43) := by decide +kernel
theorem d_Pr_isAction_44 : decode prog_5_method_11_code 44 = .ok (.iload_n 1, 1) := by decide +kernel
theorem d_Pr_isAction_45 : decode prog_5_method_11_code 45 = .ok (.bipush 8, 2) := by decide +kernel
theorem d_Pr_isAction_47 : decode prog_5_method_11_code 47 = .ok (.invokestatic 64, 3) := by decide +kernel
theorem d_Pr_isAction_50 : decode prog_5_method_11_code 50 = .ok (.ireturn, 1) := by decide +kernel
theorem d_Pr_isAction_51 : decode prog_5_method_11_code 51 = .ok (.iload_n 1, 1) := by decide +kernel
theorem d_Pr_isAction_52 : decode prog_5_method_11_code 52 = .ok (.iconst 2, 1) := by decide +kernel
theorem d_Pr_isAction_53 : decode prog_5_method_11_code 53 = .ok (.invokestatic 64, 3) := by decide +kernel
theorem d_Pr_isAction_56 : decode prog_5_method_11_code 56 = .ok (.ifCond .eq 16, 3) := by decide +kernel
theorem d_Pr_isAction_59 : decode prog_5_method_11_code 59 = .ok (.iload_n 2, 1) := by decide +kernel
theorem d_Pr_isAction_60 : decode prog_5_method_11_code 60 = .ok (.bipush 8, 2) := by decide +kernel
theorem d_Pr_isAction_62 : decode prog_5_method_11_code 62 = .ok (.invokestatic 64, 3) := by decide +kernel
theorem d_Pr_isAction_65 : decode prog_5_method_11_code 65 = .ok (.ifCond .eq 7, 3) := by decide +kernel
theorem d_Pr_isAction_68 : decode prog_5_method_11_code 68 = .ok (.iconst 1, 1) := by decide +kernel
theorem d_Pr_isAction_69 : decode prog_5_method_11_code 69 = .ok (.goto 4, 3) := by decide +kernel
theorem d_Pr_isAction_72 : decode prog_5_method_11_code 72 = .ok (.iconst 0, 1) := by decide +kernel
theorem d_Pr_isAction_73 : decode prog_5_method_11_code 73 = .ok (.ireturn, 1) := by decide +kernel
theorem d_Pr_isAction_74 : decode prog_5_method_11_code 74 = .ok (.iload_n 1, 1) := by decide +kernel
theorem d_Pr_isAction_75 : decode prog_5_method_11_code 75 = .ok (.bipush 10, 2) := by decide +kernel
theorem d_Pr_isAction_77 : decode prog_5_method_11_code 77 = .ok (.invokestatic 64, 3) := by decide +kernel
theorem d_Pr_isAction_80 : decode prog_5_method_11_code 80 = .ok (.ireturn, 1) := by decide +kernel
theorem d_Pr_isAction_81 : decode prog_5_method_11_code 81 = .ok (.iconst 1, 1) := by decide +kernel
theorem d_Pr_isAction_82 : decode prog_5_method_11_code 82 = .ok (.ireturn, 1) := by decide +kernel
theorem d_Pr_isAction_83 : decode prog_5_method_11_code 83 = .ok (.iconst 0, 1) := by decide +kernel
theorem d_Pr_isAction_84 : decode prog_5_method_11_code 84 = .ok (.ireturn, 1) := by decide +kernel
def f_Pr_isAction (M : cs_Mem) (x0 : Int32) (x1 : Int32) (x2 : Int32) : Int32 :=
  if x0 = 0 then
    cs_bd (f_Pr_isBelow M x1 8) fun (r2 : Int32) =>
    r2
  else
    if x0 = 1 then
      1
    else
      if x0 = 2 then
        cs_bd (f_Pr_isBelow M x1 2) fun (r6 : Int32) =>
        if r6 = 0 then
          0
        else
          cs_bd (f_Pr_isBelow M x2 8) fun (r8 : Int32) =>
          if r8 = 0 then
            0
          else
            1
      else
        if x0 = 3 then
          cs_bd (f_Pr_isBelow M x1 10) fun (r11 : Int32) =>
          r11
        else
          if x0 = 4 then
            cs_bd (f_Pr_isBelow M x1 10) fun (r14 : Int32) =>
            r14
          else
            if x0 = 5 then
              1
            else
              if x0 = 6 then
                1
              else
                0
def pre_Pr_isAction (M : cs_Mem) (x0 : Int32) (x1 : Int32) (x2 : Int32) : Prop :=
  (x0 = 0 →
    cs_bd (f_Pr_isBelow M x1 8) fun (r2 : Int32) =>
    (r2 = 0 ∨ r2 = 1) ∧
    True
  ) ∧ (¬ (x0 = 0) →
    (x0 = 1 →
      True
    ) ∧ (¬ (x0 = 1) →
      (x0 = 2 →
        True
      ) ∧ (¬ (x0 = 2) →
        (x0 = 3 →
          cs_bd (f_Pr_isBelow M x1 10) fun (r11 : Int32) =>
          (r11 = 0 ∨ r11 = 1) ∧
          True
        ) ∧ (¬ (x0 = 3) →
          (x0 = 4 →
            cs_bd (f_Pr_isBelow M x1 10) fun (r14 : Int32) =>
            (r14 = 0 ∨ r14 = 1) ∧
            True
          ) ∧ (¬ (x0 = 4) →
            True
          )
        )
      )
    )
  )
set_option maxHeartbeats 4000000 in
set_option maxRecDepth 100000 in
theorem c_Pr_isAction (l : Launch) (D : va_G) (cA : Nat → ClassId) (ad : Nat → Nat) (M : cs_Mem) (x0 : Int32) (x1 : Int32) (x2 : Int32) (hp : pre_Pr_isAction M x0 x1 x2) : cs_Ci l ⟨"ClassStarter$Program", "isAction", "(III)Z"⟩ prog_5_method_11_code 3 (some .boolean) ({ frames := 1, cells := 0, slots := 0, locals := 21 }) D cA ad M [.int x0, .int x1, .int x2] ((f_Pr_isAction M x0 x1 x2, M)) := by
  refine cs_entry (by decide) (Nat.le_of_ble_eq_true rfl) (fun p e s m below meth c A ls hC hr hlk _ hw hl => ?_)
  have hx := hC.1
  have hb := hC.2.1
  have hl : lv_has ls 3 [(0, .int x0), (1, .int x1), (2, .int x2)] := hl
  generalize hF : f_Pr_isAction M x0 x1 x2 = F
  have hf := hF.symm
  unfold f_Pr_isAction at hf
  unfold pre_Pr_isAction at hp
  refine lv_iload_n hx hb d_Pr_isAction_0 rfl (lv_at hl 0 rfl) ?_
  rcases Decidable.em (x0 = 0) with c1 | c1
  · have hp := hp.1 c1
    have hf := hf.trans (if_pos c1)
    refine lv_tableIn (off := 43) (tgt := 44) hx hb d_Pr_isAction_1 (by rw [c1]; decide) (by rw [c1]; decide) (by rw [c1] <;> rfl) (by decide) ?_
    refine lv_iload_n hx hb d_Pr_isAction_44 rfl (lv_at hl 1 rfl) ?_
    refine lv_bipush (v := 8) hx hb d_Pr_isAction_45 (by decide) ?_
    refine cs_ret_p hC hw (cs_runS (As := [.int x1, .int 8]) (rest := []) hC hw (c_Pr_isBelow l D cA ad M x1 8 _) rfl rfl cw_Pr_64 ⟨Nat.le_of_ble_eq_true rfl, Nat.le_of_ble_eq_true rfl⟩ hl.1 rfl rfl (Nat.le_of_ble_eq_true rfl) d_Pr_isAction_47 ⟨Nat.zero_le _, Nat.zero_le _⟩) (fun r2 H locs er2 hw => ?_)
    have hp := cs_bdP er2 hp
    have hf := cs_bdE er2 hf
    have o3 := hp.1
    have hp := hp.2
    exact cs_zret hC hw hr hlk o3 (congrArg (fun z => (z, M)) hf) d_Pr_isAction_50
  · have hp := hp.2 c1
    have hf := hf.trans (if_neg c1)
    rcases Decidable.em (x0 = 1) with c4 | c4
    · have hp := hp.1 c4
      have hf := hf.trans (if_pos c4)
      refine lv_tableIn (off := 80) (tgt := 81) hx hb d_Pr_isAction_1 (by rw [c4]; decide) (by rw [c4]; decide) (by rw [c4] <;> rfl) (by decide) ?_
      refine lv_iconst (v := 1) hx hb d_Pr_isAction_81 (by decide) ?_
      exact cs_zret hC hw hr hlk (Or.inr rfl) (congrArg (fun z => (z, M)) hf) d_Pr_isAction_82
    · have hp := hp.2 c4
      have hf := hf.trans (if_neg c4)
      rcases Decidable.em (x0 = 2) with c5 | c5
      · have hp := hp.1 c5
        have hf := hf.trans (if_pos c5)
        refine lv_tableIn (off := 50) (tgt := 51) hx hb d_Pr_isAction_1 (by rw [c5]; decide) (by rw [c5]; decide) (by rw [c5] <;> rfl) (by decide) ?_
        refine lv_iload_n hx hb d_Pr_isAction_51 rfl (lv_at hl 1 rfl) ?_
        refine lv_iconst (v := 2) hx hb d_Pr_isAction_52 (by decide) ?_
        refine cs_ret_p hC hw (cs_runS (As := [.int x1, .int 2]) (rest := []) hC hw (c_Pr_isBelow l D cA ad M x1 2 _) rfl rfl cw_Pr_64 ⟨Nat.le_of_ble_eq_true rfl, Nat.le_of_ble_eq_true rfl⟩ hl.1 rfl rfl (Nat.le_of_ble_eq_true rfl) d_Pr_isAction_53 ⟨Nat.zero_le _, Nat.zero_le _⟩) (fun r6 H locs er6 hw => ?_)
        have hf := cs_bdE er6 hf
        refine lv_if_eq (tgt := 72) hx hb d_Pr_isAction_56 (by decide) (fun c7 => ?_) (fun c7 => ?_)
        · have hf := hf.trans (if_pos c7)
          refine lv_iconst (v := 0) hx hb d_Pr_isAction_72 (by decide) ?_
          exact cs_zret hC hw hr hlk (Or.inl rfl) (congrArg (fun z => (z, M)) hf) d_Pr_isAction_73
        · have hf := hf.trans (if_neg c7)
          refine lv_iload_n hx hb d_Pr_isAction_59 rfl (lv_at hl 2 rfl) ?_
          refine lv_bipush (v := 8) hx hb d_Pr_isAction_60 (by decide) ?_
          refine cs_ret_p hC hw (cs_runS (As := [.int x2, .int 8]) (rest := []) hC hw (c_Pr_isBelow l D cA ad M x2 8 _) rfl rfl cw_Pr_64 ⟨Nat.le_of_ble_eq_true rfl, Nat.le_of_ble_eq_true rfl⟩ hl.1 rfl rfl (Nat.le_of_ble_eq_true rfl) d_Pr_isAction_62 ⟨Nat.zero_le _, Nat.zero_le _⟩) (fun r8 H locs er8 hw => ?_)
          have hf := cs_bdE er8 hf
          refine lv_if_eq (tgt := 72) hx hb d_Pr_isAction_65 (by decide) (fun c9 => ?_) (fun c9 => ?_)
          · have hf := hf.trans (if_pos c9)
            refine lv_iconst (v := 0) hx hb d_Pr_isAction_72 (by decide) ?_
            exact cs_zret hC hw hr hlk (Or.inl rfl) (congrArg (fun z => (z, M)) hf) d_Pr_isAction_73
          · have hf := hf.trans (if_neg c9)
            refine lv_iconst (v := 1) hx hb d_Pr_isAction_68 (by decide) ?_
            refine lv_goto (tgt := 73) hx hb d_Pr_isAction_69 (by decide) ?_
            exact cs_zret hC hw hr hlk (Or.inr rfl) (congrArg (fun z => (z, M)) hf) d_Pr_isAction_73
      · have hp := hp.2 c5
        have hf := hf.trans (if_neg c5)
        rcases Decidable.em (x0 = 3) with c10 | c10
        · have hp := hp.1 c10
          have hf := hf.trans (if_pos c10)
          refine lv_tableIn (off := 73) (tgt := 74) hx hb d_Pr_isAction_1 (by rw [c10]; decide) (by rw [c10]; decide) (by rw [c10] <;> rfl) (by decide) ?_
          refine lv_iload_n hx hb d_Pr_isAction_74 rfl (lv_at hl 1 rfl) ?_
          refine lv_bipush (v := 10) hx hb d_Pr_isAction_75 (by decide) ?_
          refine cs_ret_p hC hw (cs_runS (As := [.int x1, .int 10]) (rest := []) hC hw (c_Pr_isBelow l D cA ad M x1 10 _) rfl rfl cw_Pr_64 ⟨Nat.le_of_ble_eq_true rfl, Nat.le_of_ble_eq_true rfl⟩ hl.1 rfl rfl (Nat.le_of_ble_eq_true rfl) d_Pr_isAction_77 ⟨Nat.zero_le _, Nat.zero_le _⟩) (fun r11 H locs er11 hw => ?_)
          have hp := cs_bdP er11 hp
          have hf := cs_bdE er11 hf
          have o12 := hp.1
          have hp := hp.2
          exact cs_zret hC hw hr hlk o12 (congrArg (fun z => (z, M)) hf) d_Pr_isAction_80
        · have hp := hp.2 c10
          have hf := hf.trans (if_neg c10)
          rcases Decidable.em (x0 = 4) with c13 | c13
          · have hp := hp.1 c13
            have hf := hf.trans (if_pos c13)
            refine lv_tableIn (off := 73) (tgt := 74) hx hb d_Pr_isAction_1 (by rw [c13]; decide) (by rw [c13]; decide) (by rw [c13] <;> rfl) (by decide) ?_
            refine lv_iload_n hx hb d_Pr_isAction_74 rfl (lv_at hl 1 rfl) ?_
            refine lv_bipush (v := 10) hx hb d_Pr_isAction_75 (by decide) ?_
            refine cs_ret_p hC hw (cs_runS (As := [.int x1, .int 10]) (rest := []) hC hw (c_Pr_isBelow l D cA ad M x1 10 _) rfl rfl cw_Pr_64 ⟨Nat.le_of_ble_eq_true rfl, Nat.le_of_ble_eq_true rfl⟩ hl.1 rfl rfl (Nat.le_of_ble_eq_true rfl) d_Pr_isAction_77 ⟨Nat.zero_le _, Nat.zero_le _⟩) (fun r14 H locs er14 hw => ?_)
            have hp := cs_bdP er14 hp
            have hf := cs_bdE er14 hf
            have o15 := hp.1
            have hp := hp.2
            exact cs_zret hC hw hr hlk o15 (congrArg (fun z => (z, M)) hf) d_Pr_isAction_80
          · have hp := hp.2 c13
            have hf := hf.trans (if_neg c13)
            rcases Decidable.em (x0 = 5) with c16 | c16
            · have hf := hf.trans (if_pos c16)
              refine lv_tableIn (off := 80) (tgt := 81) hx hb d_Pr_isAction_1 (by rw [c16]; decide) (by rw [c16]; decide) (by rw [c16] <;> rfl) (by decide) ?_
              refine lv_iconst (v := 1) hx hb d_Pr_isAction_81 (by decide) ?_
              exact cs_zret hC hw hr hlk (Or.inr rfl) (congrArg (fun z => (z, M)) hf) d_Pr_isAction_82
            · have hf := hf.trans (if_neg c16)
              rcases Decidable.em (x0 = 6) with c17 | c17
              · have hf := hf.trans (if_pos c17)
                refine lv_tableIn (off := 80) (tgt := 81) hx hb d_Pr_isAction_1 (by rw [c17]; decide) (by rw [c17]; decide) (by rw [c17] <;> rfl) (by decide) ?_
                refine lv_iconst (v := 1) hx hb d_Pr_isAction_81 (by decide) ?_
                exact cs_zret hC hw hr hlk (Or.inr rfl) (congrArg (fun z => (z, M)) hf) d_Pr_isAction_82
              · have hf := hf.trans (if_neg c17)
                refine lv_tableOut (tgt := 83) hx hb d_Pr_isAction_1 (by have q0 := lv_neT c1 (show (0 : Int32).toInt = 0 by decide); have q1 := lv_neT c4 (show (1 : Int32).toInt = 1 by decide); have q2 := lv_neT c5 (show (2 : Int32).toInt = 2 by decide); have q3 := lv_neT c10 (show (3 : Int32).toInt = 3 by decide); have q4 := lv_neT c13 (show (4 : Int32).toInt = 4 by decide); have q5 := lv_neT c16 (show (5 : Int32).toInt = 5 by decide); have q6 := lv_neT c17 (show (6 : Int32).toInt = 6 by decide); omega) (by decide) ?_
                refine lv_iconst (v := 0) hx hb d_Pr_isAction_83 (by decide) ?_
                exact cs_zret hC hw hr hlk (Or.inl rfl) (congrArg (fun z => (z, M)) hf) d_Pr_isAction_84
theorem d_Pr_addAction_0 : decode prog_5_method_9_code 0 = .ok (.aload_n 0, 1) := by decide +kernel
theorem d_Pr_addAction_1 : decode prog_5_method_9_code 1 = .ok (.iload_n 1, 1) := by decide +kernel
theorem d_Pr_addAction_2 : decode prog_5_method_9_code 2 = .ok (.invokevirtual 41, 3) := by decide +kernel
theorem d_Pr_addAction_5 : decode prog_5_method_9_code 5 = .ok (.ifCond .eq 13, 3) := by decide +kernel
theorem d_Pr_addAction_8 : decode prog_5_method_9_code 8 = .ok (.iload_n 2, 1) := by decide +kernel
theorem d_Pr_addAction_9 : decode prog_5_method_9_code 9 = .ok (.iload_n 3, 1) := by decide +kernel
theorem d_Pr_addAction_10 : decode prog_5_method_9_code 10 = .ok (.iload 4, 2) := by decide +kernel
theorem d_Pr_addAction_12 : decode prog_5_method_9_code 12 = .ok (.invokestatic 53, 3) := by decide +kernel
theorem d_Pr_addAction_15 : decode prog_5_method_9_code 15 = .ok (.ifCond .ne 5, 3) := by decide +kernel
theorem d_Pr_addAction_18 : decode prog_5_method_9_code 18 = .ok (.iconst (-1), 1) := by decide +kernel
theorem d_Pr_addAction_19 : decode prog_5_method_9_code 19 = .ok (.ireturn, 1) := by decide +kernel
theorem d_Pr_addAction_20 : decode prog_5_method_9_code 20 = .ok (.aload_n 0, 1) := by decide +kernel
theorem d_Pr_addAction_21 : decode prog_5_method_9_code 21 = .ok (.getfield 30, 3) := by decide +kernel
theorem d_Pr_addAction_24 : decode prog_5_method_9_code 24 = .ok (.iload_n 1, 1) := by decide +kernel
theorem d_Pr_addAction_25 : decode prog_5_method_9_code 25 = .ok (.aaload, 1) := by decide +kernel
theorem d_Pr_addAction_26 : decode prog_5_method_9_code 26 = .ok (.iload_n 2, 1) := by decide +kernel
theorem d_Pr_addAction_27 : decode prog_5_method_9_code 27 = .ok (.iload_n 3, 1) := by decide +kernel
theorem d_Pr_addAction_28 : decode prog_5_method_9_code 28 = .ok (.iload 4, 2) := by decide +kernel
theorem d_Pr_addAction_30 : decode prog_5_method_9_code 30 = .ok (.invokevirtual 57, 3) := by decide +kernel
theorem d_Pr_addAction_33 : decode prog_5_method_9_code 33 = .ok (.ireturn, 1) := by decide +kernel
def f_Pr_addAction (M : cs_Mem) (j : Nat) (x1 : Int32) (x2 : Int32) (x3 : Int32) (x4 : Int32) : Int32 × cs_Mem :=
  cs_bd (f_Pr_isDeclared M j x1) fun (r1 : Int32) =>
  if r1 = 0 then
    ((-1), M)
  else
    cs_bd (f_Pr_isAction M x2 x3 x4) fun (r4 : Int32) =>
    if r4 = 0 then
      ((-1), M)
    else
      cs_bd (f_Sc_addLast M (8 + 4 * x1.toNatClampNeg) x2 x3 x4) fun (u8 : Int32 × cs_Mem) =>
      (u8.1, u8.2)
def pre_Pr_addAction (M : cs_Mem) (j : Nat) (x1 : Int32) (x2 : Int32) (x3 : Int32) (x4 : Int32) : Prop :=
  cs_bd (f_Pr_isDeclared M j x1) fun (r1 : Int32) =>
  (r1 = 0 →
    True
  ) ∧ (¬ (r1 = 0) →
    (pre_Pr_isAction M x2 x3 x4) ∧
    cs_bd (f_Pr_isAction M x2 x3 x4) fun (r4 : Int32) =>
    (r4 = 0 →
      True
    ) ∧ (¬ (r4 = 0) →
      (vp_in x1 11) ∧
      (pre_Sc_addLast M (8 + 4 * x1.toNatClampNeg) x2 x3 x4) ∧
      True
    )
  )
set_option maxHeartbeats 4000000 in
set_option maxRecDepth 100000 in
theorem c_Pr_addAction (l : Launch) (D : va_G) (cA : Nat → ClassId) (ad : Nat → Nat) (M : cs_Mem) (j : Nat) (hj : cs_is 1 j) (x1 : Int32) (x2 : Int32) (x3 : Int32) (x4 : Int32) (hp : pre_Pr_addAction M j x1 x2 x3 x4) : cs_Ci l ⟨"ClassStarter$Program", "addAction", "(IIII)I"⟩ prog_5_method_9_code 5 (some .int) ({ frames := 2, cells := 0, slots := 0, locals := 47 }) D cA ad M [.ref (ad j), .int x1, .int x2, .int x3, .int x4] (f_Pr_addAction M j x1 x2 x3 x4) := by
  refine cs_entry (by decide) (Nat.le_of_ble_eq_true rfl) (fun p e s m below meth c A ls hC hr hlk _ hw hl => ?_)
  have hx := hC.1
  have hb := hC.2.1
  have hl : lv_has ls 5 [(0, .ref (ad j)), (1, .int x1), (2, .int x2), (3, .int x3), (4, .int x4)] := hl
  generalize hF : f_Pr_addAction M j x1 x2 x3 x4 = F
  have hf := hF.symm
  unfold f_Pr_addAction at hf
  unfold pre_Pr_addAction at hp
  refine lv_aload_n hx hb d_Pr_addAction_0 rfl (lv_at hl 0 rfl) ?_
  refine lv_iload_n hx hb d_Pr_addAction_1 rfl (lv_at hl 1 rfl) ?_
  refine cs_ret_p hC hw (cs_runV (As := [.int x1]) (rest := []) hC hw hj.2 (ci := 1) rfl rfl (cs_sg_is hj) (c_Pr_isDeclared l D cA ad M j hj x1 _) rfl rfl cw_Pr_41 ⟨Nat.le_of_ble_eq_true rfl, Nat.le_of_ble_eq_true rfl⟩ hl.1 rfl rfl (Nat.le_of_ble_eq_true rfl) d_Pr_addAction_2 ⟨Nat.zero_le _, Nat.zero_le _⟩) (fun r1 H locs er1 hw => ?_)
  have hp := cs_bdP er1 hp
  have hf := cs_bdE er1 hf
  refine lv_if_eq (tgt := 18) hx hb d_Pr_addAction_5 (by decide) (fun c2 => ?_) (fun c2 => ?_)
  · have hp := hp.1 c2
    have hf := hf.trans (if_pos c2)
    refine lv_iconst (v := (-1)) hx hb d_Pr_addAction_18 (by decide) ?_
    exact cs_iret hC hw hr hlk hf d_Pr_addAction_19
  · have hp := hp.2 c2
    have hf := hf.trans (if_neg c2)
    refine lv_iload_n hx hb d_Pr_addAction_8 rfl (lv_at hl 2 rfl) ?_
    refine lv_iload_n hx hb d_Pr_addAction_9 rfl (lv_at hl 3 rfl) ?_
    refine lv_iload hx hb d_Pr_addAction_10 (lv_at hl 4 rfl) ?_
    have o3 := hp.1
    have hp := hp.2
    refine cs_ret_p hC hw (cs_runS (As := [.int x2, .int x3, .int x4]) (rest := []) hC hw (c_Pr_isAction l D cA ad M x2 x3 x4 o3 _) rfl rfl cw_Pr_53 ⟨Nat.le_of_ble_eq_true rfl, Nat.le_of_ble_eq_true rfl⟩ hl.1 rfl rfl (Nat.le_of_ble_eq_true rfl) d_Pr_addAction_12 ⟨Nat.zero_le _, Nat.zero_le _⟩) (fun r4 H locs er4 hw => ?_)
    have hp := cs_bdP er4 hp
    have hf := cs_bdE er4 hf
    refine lv_if_ne (tgt := 20) hx hb d_Pr_addAction_15 (by decide) (fun c5 => ?_) (fun c5 => ?_)
    · have hp := hp.2 c5
      have hf := hf.trans (if_neg c5)
      refine lv_aload_n hx hb d_Pr_addAction_20 rfl (lv_at hl 0 rfl) ?_
      refine gf_Pr_scripts hC hw hj wd_100 d_Pr_addAction_21 ?_
      refine lv_iload_n hx hb d_Pr_addAction_24 rfl (lv_at hl 1 rfl) ?_
      have o6 := hp.1
      have hp := hp.2
      refine cs_aald22 hC hw is_7 o6 d_Pr_addAction_25 ?_
      refine lv_iload_n hx hb d_Pr_addAction_26 rfl (lv_at hl 2 rfl) ?_
      refine lv_iload_n hx hb d_Pr_addAction_27 rfl (lv_at hl 3 rfl) ?_
      refine lv_iload hx hb d_Pr_addAction_28 (lv_at hl 4 rfl) ?_
      have o7 := hp.1
      have hp := hp.2
      refine cs_ret_i hC hw (cs_runV (As := [.int x2, .int x3, .int x4]) (rest := []) hC hw (is_scr o6).2 (ci := 2) rfl rfl (cs_sg_is (is_scr o6)) (c_Sc_addLast l D cA ad M (8 + 4 * x1.toNatClampNeg) (is_scr o6) x2 x3 x4 o7 _) rfl rfl cw_Pr_57 ⟨Nat.le_of_ble_eq_true rfl, Nat.le_of_ble_eq_true rfl⟩ hl.1 rfl rfl (Nat.le_of_ble_eq_true rfl) d_Pr_addAction_30 ⟨Nat.zero_le _, Nat.zero_le _⟩) (fun u8 H locs eu8 hw => ?_)
      have hf := cs_bdE eu8 hf
      exact cs_iret hC hw hr hlk hf d_Pr_addAction_33
    · have hp := hp.1 c5
      have hf := hf.trans (if_pos c5)
      refine lv_iconst (v := (-1)) hx hb d_Pr_addAction_18 (by decide) ?_
      exact cs_iret hC hw hr hlk hf d_Pr_addAction_19
theorem d_Pr_addPlanned_0 : decode prog_5_method_10_code 0 = .ok (.iload_n 2, 1) := by decide +kernel
theorem d_Pr_addPlanned_1 : decode prog_5_method_10_code 1 = .ok (.ifCond .eq 14, 3) := by decide +kernel
theorem d_Pr_addPlanned_4 : decode prog_5_method_10_code 4 = .ok (.iload_n 2, 1) := by decide +kernel
theorem d_Pr_addPlanned_5 : decode prog_5_method_10_code 5 = .ok (.iconst 5, 1) := by decide +kernel
theorem d_Pr_addPlanned_6 : decode prog_5_method_10_code 6 = .ok (.if_icmp .eq 9, 3) := by decide +kernel
theorem d_Pr_addPlanned_9 : decode prog_5_method_10_code 9 = .ok (.iload_n 2, 1) := by decide +kernel
theorem d_Pr_addPlanned_10 : decode prog_5_method_10_code 10 = .ok (.bipush 6, 2) := by decide +kernel
theorem d_Pr_addPlanned_12 : decode prog_5_method_10_code 12 = .ok (.if_icmp .ne 7, 3) := by decide +kernel
theorem d_Pr_addPlanned_15 : decode prog_5_method_10_code 15 = .ok (.iconst 1, 1) := by decide +kernel
theorem d_Pr_addPlanned_16 : decode prog_5_method_10_code 16 = .ok (.goto 4, 3) := by decide +kernel
theorem d_Pr_addPlanned_19 : decode prog_5_method_10_code 19 = .ok (.iconst 0, 1) := by decide +kernel
theorem d_Pr_addPlanned_20 : decode prog_5_method_10_code 20 = .ok (.istore 4, 2) := by decide +kernel
theorem d_Pr_addPlanned_22 : decode prog_5_method_10_code 22 = .ok (.iload_n 1, 1) := by decide +kernel
theorem d_Pr_addPlanned_23 : decode prog_5_method_10_code 23 = .ok (.invokestatic 61, 3) := by decide +kernel
theorem d_Pr_addPlanned_26 : decode prog_5_method_10_code 26 = .ok (.ifCond .eq 17, 3) := by decide +kernel
theorem d_Pr_addPlanned_29 : decode prog_5_method_10_code 29 = .ok (.iload 4, 2) := by decide +kernel
theorem d_Pr_addPlanned_31 : decode prog_5_method_10_code 31 = .ok (.ifCond .eq 12, 3) := by decide +kernel
theorem d_Pr_addPlanned_34 : decode prog_5_method_10_code 34 = .ok (.iload_n 2, 1) := by decide +kernel
theorem d_Pr_addPlanned_35 : decode prog_5_method_10_code 35 = .ok (.iload_n 3, 1) := by decide +kernel
theorem d_Pr_addPlanned_36 : decode prog_5_method_10_code 36 = .ok (.iconst 0, 1) := by decide +kernel
theorem d_Pr_addPlanned_37 : decode prog_5_method_10_code 37 = .ok (.invokestatic 53, 3) := by decide +kernel
theorem d_Pr_addPlanned_40 : decode prog_5_method_10_code 40 = .ok (.ifCond .ne 5, 3) := by decide +kernel
theorem d_Pr_addPlanned_43 : decode prog_5_method_10_code 43 = .ok (.iconst (-1), 1) := by decide +kernel
theorem d_Pr_addPlanned_44 : decode prog_5_method_10_code 44 = .ok (.ireturn, 1) := by decide +kernel
theorem d_Pr_addPlanned_45 : decode prog_5_method_10_code 45 = .ok (.aload_n 0, 1) := by decide +kernel
theorem d_Pr_addPlanned_46 : decode prog_5_method_10_code 46 = .ok (.getfield 30, 3) := by decide +kernel
theorem d_Pr_addPlanned_49 : decode prog_5_method_10_code 49 = .ok (.bipush 8, 2) := by decide +kernel
theorem d_Pr_addPlanned_51 : decode prog_5_method_10_code 51 = .ok (.iload_n 1, 1) := by decide +kernel
theorem d_Pr_addPlanned_52 : decode prog_5_method_10_code 52 = .ok (.iadd, 1) := by decide +kernel
theorem d_Pr_addPlanned_53 : decode prog_5_method_10_code 53 = .ok (.aaload, 1) := by decide +kernel
theorem d_Pr_addPlanned_54 : decode prog_5_method_10_code 54 = .ok (.iload_n 2, 1) := by decide +kernel
theorem d_Pr_addPlanned_55 : decode prog_5_method_10_code 55 = .ok (.iload_n 3, 1) := by decide +kernel
theorem d_Pr_addPlanned_56 : decode prog_5_method_10_code 56 = .ok (.iconst 0, 1) := by decide +kernel
theorem d_Pr_addPlanned_57 : decode prog_5_method_10_code 57 = .ok (.invokevirtual 57, 3) := by decide +kernel
theorem d_Pr_addPlanned_60 : decode prog_5_method_10_code 60 = .ok (.ireturn, 1) := by decide +kernel
def f_Pr_addPlanned_J43 (M : cs_Mem)  : Int32 × cs_Mem :=
  ((-1), M)
def f_Pr_addPlanned_J15 (M : cs_Mem) (j : Nat) (y1 : Int32) (y2 : Int32) (y3 : Int32) : Int32 × cs_Mem :=
  cs_bd (f_X_isThread M y1) fun (r7 : Int32) =>
  if r7 = 0 then
    f_Pr_addPlanned_J43 M 
  else
    cs_bd (f_Pr_isAction M y2 y3 0) fun (r11 : Int32) =>
    if r11 = 0 then
      f_Pr_addPlanned_J43 M 
    else
      cs_bd (f_Sc_addLast M (8 + 4 * (8 + y1).toNatClampNeg) y2 y3 0) fun (u15 : Int32 × cs_Mem) =>
      (u15.1, u15.2)
def pre_Pr_addPlanned_J15 (M : cs_Mem) (j : Nat) (y1 : Int32) (y2 : Int32) (y3 : Int32) : Prop :=
  cs_bd (f_X_isThread M y1) fun (r7 : Int32) =>
  (r7 = 0 →
    True
  ) ∧ (¬ (r7 = 0) →
    (pre_Pr_isAction M y2 y3 0) ∧
    cs_bd (f_Pr_isAction M y2 y3 0) fun (r11 : Int32) =>
    (r11 = 0 →
      True
    ) ∧ (¬ (r11 = 0) →
      (vp_in (8 + y1) 11) ∧
      (pre_Sc_addLast M (8 + 4 * (8 + y1).toNatClampNeg) y2 y3 0) ∧
      True
    )
  )
def f_Pr_addPlanned (M : cs_Mem) (j : Nat) (x1 : Int32) (x2 : Int32) (x3 : Int32) : Int32 × cs_Mem :=
  if x2 = 0 then
    f_Pr_addPlanned_J15 M j x1 x2 x3
  else
    if x2 = 5 then
      f_Pr_addPlanned_J15 M j x1 x2 x3
    else
      if x2 = 6 then
        f_Pr_addPlanned_J15 M j x1 x2 x3
      else
        cs_bd (f_X_isThread M x1) fun (r4 : Int32) =>
        if r4 = 0 then
          f_Pr_addPlanned_J43 M 
        else
          f_Pr_addPlanned_J43 M 
def pre_Pr_addPlanned (M : cs_Mem) (j : Nat) (x1 : Int32) (x2 : Int32) (x3 : Int32) : Prop :=
  (x2 = 0 →
    pre_Pr_addPlanned_J15 M j x1 x2 x3
  ) ∧ (¬ (x2 = 0) →
    (x2 = 5 →
      pre_Pr_addPlanned_J15 M j x1 x2 x3
    ) ∧ (¬ (x2 = 5) →
      (x2 = 6 →
        pre_Pr_addPlanned_J15 M j x1 x2 x3
      ) ∧ (¬ (x2 = 6) →
        True
      )
    )
  )
set_option maxHeartbeats 4000000 in
set_option maxRecDepth 100000 in
theorem w_Pr_addPlanned_J43 {p : Program} {l : Launch} {e : Env} {s : State} {m : MethodId} {args : Array Value} {below : List Frame} {meth : Method} {c : Code} {D : va_G} {cA : Nat → ClassId} {A : Nat → Prop} {ad : Nat → Nat} {F : Int32 × cs_Mem} (hC : cs_Ctx p s m args c prog_5_method_10_code 5 "ClassStarter$Program" D cA A) (hr : meth.sig.returnType = (some .int)) (hlk : meth.locks = false) : ∀ (M : cs_Mem) (H : Heap) (locs : List Loc) (ls : Array Slot), cs_Wd D cA ad M A s H locs → lv_has ls 5 [] → F = f_Pr_addPlanned_J43 M  → W p l e ({ frames := 2, cells := 0, slots := 0, locals := 47 }) s m args below meth c H locs 0 0 (MQ below (cs_Qi D cA ad F A) args s 0 0 A) (F0 m 43 ls []) := by
  have hx := hC.1
  have hb := hC.2.1
  intro M  H locs ls hw hl  hf
  unfold f_Pr_addPlanned_J43 at hf
  refine lv_iconst (v := (-1)) hx hb d_Pr_addPlanned_43 (by decide) ?_
  exact cs_iret hC hw hr hlk hf d_Pr_addPlanned_44
set_option maxHeartbeats 4000000 in
set_option maxRecDepth 100000 in
theorem w_Pr_addPlanned_J15 {p : Program} {l : Launch} {e : Env} {s : State} {m : MethodId} {args : Array Value} {below : List Frame} {meth : Method} {c : Code} {D : va_G} {cA : Nat → ClassId} {A : Nat → Prop} {ad : Nat → Nat} {F : Int32 × cs_Mem} (hC : cs_Ctx p s m args c prog_5_method_10_code 5 "ClassStarter$Program" D cA A) (hr : meth.sig.returnType = (some .int)) (hlk : meth.locks = false) : ∀ (M : cs_Mem) (j : Nat) (y1 : Int32) (y2 : Int32) (y3 : Int32) (H : Heap) (locs : List Loc) (ls : Array Slot), cs_Wd D cA ad M A s H locs → lv_has ls 5 [(0, .ref (ad j)), (1, .int y1), (2, .int y2), (3, .int y3)] → cs_is 1 j → pre_Pr_addPlanned_J15 M j y1 y2 y3 → F = f_Pr_addPlanned_J15 M j y1 y2 y3 → W p l e ({ frames := 2, cells := 0, slots := 0, locals := 47 }) s m args below meth c H locs 0 0 (MQ below (cs_Qi D cA ad F A) args s 0 0 A) (F0 m 15 ls []) := by
  have hx := hC.1
  have hb := hC.2.1
  intro M j y1 y2 y3 H locs ls hw hl g0 hp hf
  unfold f_Pr_addPlanned_J15 at hf
  unfold pre_Pr_addPlanned_J15 at hp
  refine lv_iconst (v := 1) hx hb d_Pr_addPlanned_15 (by decide) ?_
  refine lv_goto (tgt := 20) hx hb d_Pr_addPlanned_16 (by decide) ?_
  refine lv_istore (lv' := [(4, .int 1), (0, .ref (ad j)), (1, .int y1), (2, .int y2), (3, .int y3)]) hx hb d_Pr_addPlanned_20 hl (by decide) rfl (fun ls hl => ?_)
  refine lv_iload_n hx hb d_Pr_addPlanned_22 rfl (lv_at hl 2 rfl) ?_
  refine cs_ret_p hC hw (cs_runSN (As := [.int y1]) (rest := []) hC hw (c_X_isThread l D cA ad M y1 _) rfl rfl cw_Pr_61 ⟨Nat.le_of_ble_eq_true rfl, Nat.le_of_ble_eq_true rfl⟩ hl.1 rfl rfl (Nat.le_of_ble_eq_true rfl) d_Pr_addPlanned_23 ⟨Nat.zero_le _, Nat.zero_le _⟩) (fun r7 H locs er7 hw => ?_)
  have hp := cs_bdP er7 hp
  have hf := cs_bdE er7 hf
  refine lv_if_eq (tgt := 43) hx hb d_Pr_addPlanned_26 (by decide) (fun c8 => ?_) (fun c8 => ?_)
  · have hp := hp.1 c8
    have hf := hf.trans (if_pos c8)
    exact w_Pr_addPlanned_J43 hC hr hlk M  _ _ ls hw (lv_sub hl [] rfl) hf
  · have hp := hp.2 c8
    have hf := hf.trans (if_neg c8)
    refine lv_iload hx hb d_Pr_addPlanned_29 (lv_at hl 0 rfl) ?_
    refine lv_if_eq (tgt := 43) hx hb d_Pr_addPlanned_31 (by decide) (fun c9 => absurd c9 (by decide)) (fun _ => ?_)
    refine lv_iload_n hx hb d_Pr_addPlanned_34 rfl (lv_at hl 3 rfl) ?_
    refine lv_iload_n hx hb d_Pr_addPlanned_35 rfl (lv_at hl 4 rfl) ?_
    refine lv_iconst (v := 0) hx hb d_Pr_addPlanned_36 (by decide) ?_
    have o10 := hp.1
    have hp := hp.2
    refine cs_ret_p hC hw (cs_runS (As := [.int y2, .int y3, .int 0]) (rest := []) hC hw (c_Pr_isAction l D cA ad M y2 y3 0 o10 _) rfl rfl cw_Pr_53 ⟨Nat.le_of_ble_eq_true rfl, Nat.le_of_ble_eq_true rfl⟩ hl.1 rfl rfl (Nat.le_of_ble_eq_true rfl) d_Pr_addPlanned_37 ⟨Nat.zero_le _, Nat.zero_le _⟩) (fun r11 H locs er11 hw => ?_)
    have hp := cs_bdP er11 hp
    have hf := cs_bdE er11 hf
    refine lv_if_ne (tgt := 45) hx hb d_Pr_addPlanned_40 (by decide) (fun c12 => ?_) (fun c12 => ?_)
    · have hp := hp.2 c12
      have hf := hf.trans (if_neg c12)
      refine lv_aload_n hx hb d_Pr_addPlanned_45 rfl (lv_at hl 1 rfl) ?_
      refine gf_Pr_scripts hC hw g0 wd_100 d_Pr_addPlanned_46 ?_
      refine lv_bipush (v := 8) hx hb d_Pr_addPlanned_49 (by decide) ?_
      refine lv_iload_n hx hb d_Pr_addPlanned_51 rfl (lv_at hl 2 rfl) ?_
      refine lv_iadd hx hb d_Pr_addPlanned_52 ?_
      have o13 := hp.1
      have hp := hp.2
      refine cs_aald22 hC hw is_7 o13 d_Pr_addPlanned_53 ?_
      refine lv_iload_n hx hb d_Pr_addPlanned_54 rfl (lv_at hl 3 rfl) ?_
      refine lv_iload_n hx hb d_Pr_addPlanned_55 rfl (lv_at hl 4 rfl) ?_
      refine lv_iconst (v := 0) hx hb d_Pr_addPlanned_56 (by decide) ?_
      have o14 := hp.1
      have hp := hp.2
      refine cs_ret_i hC hw (cs_runV (As := [.int y2, .int y3, .int 0]) (rest := []) hC hw (is_scr o13).2 (ci := 2) rfl rfl (cs_sg_is (is_scr o13)) (c_Sc_addLast l D cA ad M (8 + 4 * (8 + y1).toNatClampNeg) (is_scr o13) y2 y3 0 o14 _) rfl rfl cw_Pr_57 ⟨Nat.le_of_ble_eq_true rfl, Nat.le_of_ble_eq_true rfl⟩ hl.1 rfl rfl (Nat.le_of_ble_eq_true rfl) d_Pr_addPlanned_57 ⟨Nat.zero_le _, Nat.zero_le _⟩) (fun u15 H locs eu15 hw => ?_)
      have hf := cs_bdE eu15 hf
      exact cs_iret hC hw hr hlk hf d_Pr_addPlanned_60
    · have hp := hp.1 c12
      have hf := hf.trans (if_pos c12)
      exact w_Pr_addPlanned_J43 hC hr hlk M  _ _ ls hw (lv_sub hl [] rfl) hf
set_option maxHeartbeats 4000000 in
set_option maxRecDepth 100000 in
theorem c_Pr_addPlanned (l : Launch) (D : va_G) (cA : Nat → ClassId) (ad : Nat → Nat) (M : cs_Mem) (j : Nat) (hj : cs_is 1 j) (x1 : Int32) (x2 : Int32) (x3 : Int32) (hp : pre_Pr_addPlanned M j x1 x2 x3) : cs_Ci l ⟨"ClassStarter$Program", "addPlanned", "(III)I"⟩ prog_5_method_10_code 5 (some .int) ({ frames := 2, cells := 0, slots := 0, locals := 47 }) D cA ad M [.ref (ad j), .int x1, .int x2, .int x3] (f_Pr_addPlanned M j x1 x2 x3) := by
  refine cs_entry (by decide) (Nat.le_of_ble_eq_true rfl) (fun p e s m below meth c A ls hC hr hlk _ hw hl => ?_)
  have hx := hC.1
  have hb := hC.2.1
  have hl : lv_has ls 5 [(0, .ref (ad j)), (1, .int x1), (2, .int x2), (3, .int x3)] := hl
  generalize hF : f_Pr_addPlanned M j x1 x2 x3 = F
  have hf := hF.symm
  unfold f_Pr_addPlanned at hf
  unfold pre_Pr_addPlanned at hp
  refine lv_iload_n hx hb d_Pr_addPlanned_0 rfl (lv_at hl 2 rfl) ?_
  refine lv_if_eq (tgt := 15) hx hb d_Pr_addPlanned_1 (by decide) (fun c1 => ?_) (fun c1 => ?_)
  · have hp := hp.1 c1
    have hf := hf.trans (if_pos c1)
    exact w_Pr_addPlanned_J15 hC hr hlk M j x1 x2 x3 _ _ ls hw (lv_sub hl [0, 1, 2, 3] rfl) hj hp hf
  · have hp := hp.2 c1
    have hf := hf.trans (if_neg c1)
    refine lv_iload_n hx hb d_Pr_addPlanned_4 rfl (lv_at hl 2 rfl) ?_
    refine lv_iconst (v := 5) hx hb d_Pr_addPlanned_5 (by decide) ?_
    refine lv_icmp_eq (tgt := 15) hx hb d_Pr_addPlanned_6 (by decide) (fun c2 => ?_) (fun c2 => ?_)
    · have hp := hp.1 c2
      have hf := hf.trans (if_pos c2)
      exact w_Pr_addPlanned_J15 hC hr hlk M j x1 x2 x3 _ _ ls hw (lv_sub hl [0, 1, 2, 3] rfl) hj hp hf
    · have hp := hp.2 c2
      have hf := hf.trans (if_neg c2)
      refine lv_iload_n hx hb d_Pr_addPlanned_9 rfl (lv_at hl 2 rfl) ?_
      refine lv_bipush (v := 6) hx hb d_Pr_addPlanned_10 (by decide) ?_
      refine lv_icmp_ne (tgt := 19) hx hb d_Pr_addPlanned_12 (by decide) (fun c3 => ?_) (fun c3 => ?_)
      · have hp := hp.2 c3
        have hf := hf.trans (if_neg c3)
        refine lv_iconst (v := 0) hx hb d_Pr_addPlanned_19 (by decide) ?_
        refine lv_istore (lv' := [(4, .int 0), (0, .ref (ad j)), (1, .int x1), (2, .int x2), (3, .int x3)]) hx hb d_Pr_addPlanned_20 hl (by decide) rfl (fun ls hl => ?_)
        refine lv_iload_n hx hb d_Pr_addPlanned_22 rfl (lv_at hl 2 rfl) ?_
        refine cs_ret_p hC hw (cs_runSN (As := [.int x1]) (rest := []) hC hw (c_X_isThread l D cA ad M x1 _) rfl rfl cw_Pr_61 ⟨Nat.le_of_ble_eq_true rfl, Nat.le_of_ble_eq_true rfl⟩ hl.1 rfl rfl (Nat.le_of_ble_eq_true rfl) d_Pr_addPlanned_23 ⟨Nat.zero_le _, Nat.zero_le _⟩) (fun r4 H locs er4 hw => ?_)
        have hf := cs_bdE er4 hf
        refine lv_if_eq (tgt := 43) hx hb d_Pr_addPlanned_26 (by decide) (fun c5 => ?_) (fun c5 => ?_)
        · have hf := hf.trans (if_pos c5)
          exact w_Pr_addPlanned_J43 hC hr hlk M  _ _ ls hw (lv_sub hl [] rfl) hf
        · have hf := hf.trans (if_neg c5)
          refine lv_iload hx hb d_Pr_addPlanned_29 (lv_at hl 0 rfl) ?_
          refine lv_if_eq (tgt := 43) hx hb d_Pr_addPlanned_31 (by decide) (fun _ => ?_) (fun c6 => absurd c6 (by decide))
          exact w_Pr_addPlanned_J43 hC hr hlk M  _ _ ls hw (lv_sub hl [] rfl) hf
      · have hp := hp.1 c3
        have hf := hf.trans (if_pos c3)
        exact w_Pr_addPlanned_J15 hC hr hlk M j x1 x2 x3 _ _ ls hw (lv_sub hl [0, 1, 2, 3] rfl) hj hp hf
theorem d_Pr_script_0 : decode prog_5_method_4_code 0 = .ok (.aload_n 0, 1) := by decide +kernel
theorem d_Pr_script_1 : decode prog_5_method_4_code 1 = .ok (.getfield 30, 3) := by decide +kernel
theorem d_Pr_script_4 : decode prog_5_method_4_code 4 = .ok (.iload_n 1, 1) := by decide +kernel
theorem d_Pr_script_5 : decode prog_5_method_4_code 5 = .ok (.aaload, 1) := by decide +kernel
theorem d_Pr_script_6 : decode prog_5_method_4_code 6 = .ok (.areturn, 1) := by decide +kernel
def f_Pr_script (M : cs_Mem) (j : Nat) (x1 : Int32) : Nat :=
  8 + 4 * x1.toNatClampNeg
def pre_Pr_script (M : cs_Mem) (j : Nat) (x1 : Int32) : Prop :=
  (vp_in x1 11) ∧
  True
set_option maxHeartbeats 4000000 in
set_option maxRecDepth 100000 in
theorem c_Pr_script (l : Launch) (D : va_G) (cA : Nat → ClassId) (ad : Nat → Nat) (M : cs_Mem) (j : Nat) (hj : cs_is 1 j) (x1 : Int32) (hp : pre_Pr_script M j x1) : cs_Cr l ⟨"ClassStarter$Program", "script", "(I)LClassStarter$Script;"⟩ prog_5_method_4_code 2 (some (.object "ClassStarter$Script")) ({ frames := 0, cells := 0, slots := 0, locals := 0 }) D cA ad M [.ref (ad j), .int x1] ((f_Pr_script M j x1, M)) := by
  refine cs_entry (by decide) (Nat.le_of_ble_eq_true rfl) (fun p e s m below meth c A ls hC hr hlk _ hw hl => ?_)
  have hx := hC.1
  have hb := hC.2.1
  have hl : lv_has ls 2 [(0, .ref (ad j)), (1, .int x1)] := hl
  generalize hF : f_Pr_script M j x1 = F
  have hf := hF.symm
  unfold f_Pr_script at hf
  unfold pre_Pr_script at hp
  refine lv_aload_n hx hb d_Pr_script_0 rfl (lv_at hl 0 rfl) ?_
  refine gf_Pr_scripts hC hw hj wd_100 d_Pr_script_1 ?_
  refine lv_iload_n hx hb d_Pr_script_4 rfl (lv_at hl 1 rfl) ?_
  have o1 := hp.1
  have hp := hp.2
  refine cs_aald22 hC hw is_7 o1 d_Pr_script_5 ?_
  exact cs_aret hC hw hr (Or.inl ⟨_, rfl⟩) hlk (congrArg (fun z => (z, M)) hf) d_Pr_script_6
theorem is_script {M : cs_Mem} {j : Nat} {x : Int32} {u : Nat} (e : u = f_Pr_script M j x) (hq : pre_Pr_script M j x) : cs_is 2 u := by
  subst e
  exact is_scr hq.1
theorem d_Pr_usedBy_0 : decode prog_5_method_13_code 0 = .ok (.aload_n 0, 1) := by decide +kernel
theorem d_Pr_usedBy_1 : decode prog_5_method_13_code 1 = .ok (.getfield 30, 3) := by decide +kernel
theorem d_Pr_usedBy_4 : decode prog_5_method_13_code 4 = .ok (.iload_n 1, 1) := by decide +kernel
theorem d_Pr_usedBy_5 : decode prog_5_method_13_code 5 = .ok (.aaload, 1) := by decide +kernel
theorem d_Pr_usedBy_6 : decode prog_5_method_13_code 6 = .ok (.astore_n 3, 1) := by decide +kernel
theorem d_Pr_usedBy_7 : decode prog_5_method_13_code 7 = .ok (.aload_n 3, 1) := by decide +kernel
theorem d_Pr_usedBy_8 : decode prog_5_method_13_code 8 = .ok (.iload_n 2, 1) := by decide +kernel
theorem d_Pr_usedBy_9 : decode prog_5_method_13_code 9 = .ok (.invokevirtual 67, 3) := by decide +kernel
theorem d_Pr_usedBy_12 : decode prog_5_method_13_code 12 = .ok (.lookupswitch 67 #[(0, 28), (2, 34)], 28) := by decide +kernel
theorem d_Pr_usedBy_40 : decode prog_5_method_13_code 40 = .ok (.aload_n 3, 1) := by decide +kernel
theorem d_Pr_usedBy_41 : decode prog_5_method_13_code 41 = .ok (.iload_n 2, 1) := by decide +kernel
theorem d_Pr_usedBy_42 : decode prog_5_method_13_code 42 = .ok (.invokevirtual 71, 3) := by decide +kernel
theorem d_Pr_usedBy_45 : decode prog_5_method_13_code 45 = .ok (.ireturn, 1) := by decide +kernel
theorem d_Pr_usedBy_46 : decode prog_5_method_13_code 46 = .ok (.aload_n 3, 1) := by decide +kernel
theorem d_Pr_usedBy_47 : decode prog_5_method_13_code 47 = .ok (.iload_n 2, 1) := by decide +kernel
theorem d_Pr_usedBy_48 : decode prog_5_method_13_code 48 = .ok (.invokevirtual 74, 3) := by decide +kernel
theorem d_Pr_usedBy_51 : decode prog_5_method_13_code 51 = .ok (.istore 4, 2) := by decide +kernel
theorem d_Pr_usedBy_53 : decode prog_5_method_13_code 53 = .ok (.aload_n 3, 1) := by decide +kernel
theorem d_Pr_usedBy_54 : decode prog_5_method_13_code 54 = .ok (.iload_n 2, 1) := by decide +kernel
theorem d_Pr_usedBy_55 : decode prog_5_method_13_code 55 = .ok (.invokevirtual 71, 3) := by decide +kernel
theorem d_Pr_usedBy_58 : decode prog_5_method_13_code 58 = .ok (.iconst 1, 1) := by decide +kernel
theorem d_Pr_usedBy_59 : decode prog_5_method_13_code 59 = .ok (.if_icmp .ne 17, 3) := by decide +kernel
theorem d_Pr_usedBy_62 : decode prog_5_method_13_code 62 = .ok (.aload_n 0, 1) := by decide +kernel
theorem d_Pr_usedBy_63 : decode prog_5_method_13_code 63 = .ok (.getfield 15, 3) := by decide +kernel
theorem d_Pr_usedBy_66 : decode prog_5_method_13_code 66 = .ok (.iload 4, 2) := by decide +kernel
theorem d_Pr_usedBy_68 : decode prog_5_method_13_code 68 = .ok (.baload, 1) := by decide +kernel
theorem d_Pr_usedBy_69 : decode prog_5_method_13_code 69 = .ok (.ifCond .eq 7, 3) := by decide +kernel
theorem d_Pr_usedBy_72 : decode prog_5_method_13_code 72 = .ok (.iconst (-1), 1) := by decide +kernel
theorem d_Pr_usedBy_73 : decode prog_5_method_13_code 73 = .ok (.goto 5, 3) := by decide +kernel
theorem d_Pr_usedBy_76 : decode prog_5_method_13_code 76 = .ok (.iload 4, 2) := by decide +kernel
theorem d_Pr_usedBy_78 : decode prog_5_method_13_code 78 = .ok (.ireturn, 1) := by decide +kernel
theorem d_Pr_usedBy_79 : decode prog_5_method_13_code 79 = .ok (.iconst (-1), 1) := by decide +kernel
theorem d_Pr_usedBy_80 : decode prog_5_method_13_code 80 = .ok (.ireturn, 1) := by decide +kernel
def f_Pr_usedBy (M : cs_Mem) (j : Nat) (x1 : Int32) (x2 : Int32) : Int32 :=
  cs_bd (f_Sc_actionAt M (8 + 4 * x1.toNatClampNeg) x2) fun (r3 : Int32) =>
  if r3 = 0 then
    cs_bd (f_Sc_firstOperandAt M (8 + 4 * x1.toNatClampNeg) x2) fun (r6 : Int32) =>
    r6
  else
    if r3 = 2 then
      cs_bd (f_Sc_secondOperandAt M (8 + 4 * x1.toNatClampNeg) x2) fun (r9 : Int32) =>
      cs_bd (f_Sc_firstOperandAt M (8 + 4 * x1.toNatClampNeg) x2) fun (r11 : Int32) =>
      if r11 = 1 then
        if (M 3 r9.toNatClampNeg) = 0 then
          r9
        else
          (-1)
      else
        r9
    else
      (-1)
def pre_Pr_usedBy (M : cs_Mem) (j : Nat) (x1 : Int32) (x2 : Int32) : Prop :=
  (vp_in x1 11) ∧
  (pre_Sc_actionAt M (8 + 4 * x1.toNatClampNeg) x2) ∧
  cs_bd (f_Sc_actionAt M (8 + 4 * x1.toNatClampNeg) x2) fun (r3 : Int32) =>
  (r3 = 0 →
    (pre_Sc_firstOperandAt M (8 + 4 * x1.toNatClampNeg) x2) ∧
    True
  ) ∧ (¬ (r3 = 0) →
    (r3 = 2 →
      (pre_Sc_secondOperandAt M (8 + 4 * x1.toNatClampNeg) x2) ∧
      cs_bd (f_Sc_secondOperandAt M (8 + 4 * x1.toNatClampNeg) x2) fun (r9 : Int32) =>
      (pre_Sc_firstOperandAt M (8 + 4 * x1.toNatClampNeg) x2) ∧
      cs_bd (f_Sc_firstOperandAt M (8 + 4 * x1.toNatClampNeg) x2) fun (r11 : Int32) =>
      (r11 = 1 →
        (vp_in r9 (cs_ln M 3)) ∧
        True
      ) ∧ (¬ (r11 = 1) →
        True
      )
    ) ∧ (¬ (r3 = 2) →
      True
    )
  )
set_option maxHeartbeats 4000000 in
set_option maxRecDepth 100000 in
theorem c_Pr_usedBy (l : Launch) (D : va_G) (cA : Nat → ClassId) (ad : Nat → Nat) (M : cs_Mem) (j : Nat) (hj : cs_is 1 j) (x1 : Int32) (x2 : Int32) (hp : pre_Pr_usedBy M j x1 x2) : cs_Ci l ⟨"ClassStarter$Program", "usedBy", "(II)I"⟩ prog_5_method_13_code 5 (some .int) ({ frames := 1, cells := 0, slots := 0, locals := 21 }) D cA ad M [.ref (ad j), .int x1, .int x2] ((f_Pr_usedBy M j x1 x2, M)) := by
  refine cs_entry (by decide) (Nat.le_of_ble_eq_true rfl) (fun p e s m below meth c A ls hC hr hlk _ hw hl => ?_)
  have hx := hC.1
  have hb := hC.2.1
  have hl : lv_has ls 5 [(0, .ref (ad j)), (1, .int x1), (2, .int x2)] := hl
  generalize hF : f_Pr_usedBy M j x1 x2 = F
  have hf := hF.symm
  unfold f_Pr_usedBy at hf
  unfold pre_Pr_usedBy at hp
  refine lv_aload_n hx hb d_Pr_usedBy_0 rfl (lv_at hl 0 rfl) ?_
  refine gf_Pr_scripts hC hw hj wd_100 d_Pr_usedBy_1 ?_
  refine lv_iload_n hx hb d_Pr_usedBy_4 rfl (lv_at hl 1 rfl) ?_
  have o1 := hp.1
  have hp := hp.2
  refine cs_aald22 hC hw is_7 o1 d_Pr_usedBy_5 ?_
  refine lv_astore_n (lv' := [(3, .ref (ad (8 + 4 * x1.toNatClampNeg))), (0, .ref (ad j)), (1, .int x1), (2, .int x2)]) hx hb d_Pr_usedBy_6 rfl hl (by decide) rfl (fun ls hl => ?_)
  refine lv_aload_n hx hb d_Pr_usedBy_7 rfl (lv_at hl 0 rfl) ?_
  refine lv_iload_n hx hb d_Pr_usedBy_8 rfl (lv_at hl 3 rfl) ?_
  have o2 := hp.1
  have hp := hp.2
  refine cs_ret_p hC hw (cs_runV (As := [.int x2]) (rest := []) hC hw (is_scr o1).2 (ci := 2) rfl rfl (cs_sg_is (is_scr o1)) (c_Sc_actionAt l D cA ad M (8 + 4 * x1.toNatClampNeg) (is_scr o1) x2 o2 _) rfl rfl cw_Pr_67 ⟨Nat.le_of_ble_eq_true rfl, Nat.le_of_ble_eq_true rfl⟩ hl.1 rfl rfl (Nat.le_of_ble_eq_true rfl) d_Pr_usedBy_9 ⟨Nat.zero_le _, Nat.zero_le _⟩) (fun r3 H locs er3 hw => ?_)
  have hp := cs_bdP er3 hp
  have hf := cs_bdE er3 hf
  rcases Decidable.em (r3 = 0) with c4 | c4
  · have hp := hp.1 c4
    have hf := hf.trans (if_pos c4)
    refine lv_lookup (off := 28) (tgt := 40) hx hb d_Pr_usedBy_12 (by decide) (by rw [c4] <;> rfl) (by decide) ?_
    refine lv_aload_n hx hb d_Pr_usedBy_40 rfl (lv_at hl 0 rfl) ?_
    refine lv_iload_n hx hb d_Pr_usedBy_41 rfl (lv_at hl 3 rfl) ?_
    have o5 := hp.1
    have hp := hp.2
    refine cs_ret_p hC hw (cs_runV (As := [.int x2]) (rest := []) hC hw (is_scr o1).2 (ci := 2) rfl rfl (cs_sg_is (is_scr o1)) (c_Sc_firstOperandAt l D cA ad M (8 + 4 * x1.toNatClampNeg) (is_scr o1) x2 o5 _) rfl rfl cw_Pr_71 ⟨Nat.le_of_ble_eq_true rfl, Nat.le_of_ble_eq_true rfl⟩ hl.1 rfl rfl (Nat.le_of_ble_eq_true rfl) d_Pr_usedBy_42 ⟨Nat.zero_le _, Nat.zero_le _⟩) (fun r6 H locs er6 hw => ?_)
    have hf := cs_bdE er6 hf
    exact cs_iret hC hw hr hlk (congrArg (fun z => (z, M)) hf) d_Pr_usedBy_45
  · have hp := hp.2 c4
    have hf := hf.trans (if_neg c4)
    rcases Decidable.em (r3 = 2) with c7 | c7
    · have hp := hp.1 c7
      have hf := hf.trans (if_pos c7)
      refine lv_lookup (off := 34) (tgt := 46) hx hb d_Pr_usedBy_12 (by decide) (by rw [lv_osw c4 (by decide), c7] <;> rfl) (by decide) ?_
      refine lv_aload_n hx hb d_Pr_usedBy_46 rfl (lv_at hl 0 rfl) ?_
      refine lv_iload_n hx hb d_Pr_usedBy_47 rfl (lv_at hl 3 rfl) ?_
      have o8 := hp.1
      have hp := hp.2
      refine cs_ret_p hC hw (cs_runV (As := [.int x2]) (rest := []) hC hw (is_scr o1).2 (ci := 2) rfl rfl (cs_sg_is (is_scr o1)) (c_Sc_secondOperandAt l D cA ad M (8 + 4 * x1.toNatClampNeg) (is_scr o1) x2 o8 _) rfl rfl cw_Pr_74 ⟨Nat.le_of_ble_eq_true rfl, Nat.le_of_ble_eq_true rfl⟩ hl.1 rfl rfl (Nat.le_of_ble_eq_true rfl) d_Pr_usedBy_48 ⟨Nat.zero_le _, Nat.zero_le _⟩) (fun r9 H locs er9 hw => ?_)
      have hp := cs_bdP er9 hp
      have hf := cs_bdE er9 hf
      refine lv_istore (lv' := [(4, .int r9), (3, .ref (ad (8 + 4 * x1.toNatClampNeg))), (0, .ref (ad j)), (1, .int x1), (2, .int x2)]) hx hb d_Pr_usedBy_51 hl (by decide) rfl (fun ls hl => ?_)
      refine lv_aload_n hx hb d_Pr_usedBy_53 rfl (lv_at hl 1 rfl) ?_
      refine lv_iload_n hx hb d_Pr_usedBy_54 rfl (lv_at hl 4 rfl) ?_
      have o10 := hp.1
      have hp := hp.2
      refine cs_ret_p hC hw (cs_runV (As := [.int x2]) (rest := []) hC hw (is_scr o1).2 (ci := 2) rfl rfl (cs_sg_is (is_scr o1)) (c_Sc_firstOperandAt l D cA ad M (8 + 4 * x1.toNatClampNeg) (is_scr o1) x2 o10 _) rfl rfl cw_Pr_71 ⟨Nat.le_of_ble_eq_true rfl, Nat.le_of_ble_eq_true rfl⟩ hl.1 rfl rfl (Nat.le_of_ble_eq_true rfl) d_Pr_usedBy_55 ⟨Nat.zero_le _, Nat.zero_le _⟩) (fun r11 H locs er11 hw => ?_)
      have hp := cs_bdP er11 hp
      have hf := cs_bdE er11 hf
      refine lv_iconst (v := 1) hx hb d_Pr_usedBy_58 (by decide) ?_
      refine lv_icmp_ne (tgt := 76) hx hb d_Pr_usedBy_59 (by decide) (fun c12 => ?_) (fun c12 => ?_)
      · have hp := hp.2 c12
        have hf := hf.trans (if_neg c12)
        refine lv_iload hx hb d_Pr_usedBy_76 (lv_at hl 0 rfl) ?_
        exact cs_iret hC hw hr hlk (congrArg (fun z => (z, M)) hf) d_Pr_usedBy_78
      · have hp := hp.1 c12
        have hf := hf.trans (if_pos c12)
        refine lv_aload_n hx hb d_Pr_usedBy_62 rfl (lv_at hl 2 rfl) ?_
        refine gf_Pr_constants hC hw hj wd_96 d_Pr_usedBy_63 ?_
        refine lv_iload hx hb d_Pr_usedBy_66 (lv_at hl 0 rfl) ?_
        have o13 := hp.1
        have hp := hp.2
        refine cs_zald hC hw is_3 o13 d_Pr_usedBy_68 ?_
        refine lv_if_eq (tgt := 76) hx hb d_Pr_usedBy_69 (by decide) (fun c14 => ?_) (fun c14 => ?_)
        · have hf := hf.trans (if_pos c14)
          refine lv_iload hx hb d_Pr_usedBy_76 (lv_at hl 0 rfl) ?_
          exact cs_iret hC hw hr hlk (congrArg (fun z => (z, M)) hf) d_Pr_usedBy_78
        · have hf := hf.trans (if_neg c14)
          refine lv_iconst (v := (-1)) hx hb d_Pr_usedBy_72 (by decide) ?_
          refine lv_goto (tgt := 78) hx hb d_Pr_usedBy_73 (by decide) ?_
          exact cs_iret hC hw hr hlk (congrArg (fun z => (z, M)) hf) d_Pr_usedBy_78
    · have hp := hp.2 c7
      have hf := hf.trans (if_neg c7)
      refine lv_lookup (off := 67) (tgt := 79) hx hb d_Pr_usedBy_12 (by decide) (by rw [lv_osw c4 (by decide), lv_osw c7 (by decide)] <;> rfl) (by decide) ?_
      refine lv_iconst (v := (-1)) hx hb d_Pr_usedBy_79 (by decide) ?_
      exact cs_iret hC hw hr hlk (congrArg (fun z => (z, M)) hf) d_Pr_usedBy_80
theorem d_Pr_secondStatic_0 : decode prog_5_method_5_code 0 = .ok (.aload_n 0, 1) := by decide +kernel
theorem d_Pr_secondStatic_1 : decode prog_5_method_5_code 1 = .ok (.getfield 18, 3) := by decide +kernel
theorem d_Pr_secondStatic_4 : decode prog_5_method_5_code 4 = .ok (.iload_n 1, 1) := by decide +kernel
theorem d_Pr_secondStatic_5 : decode prog_5_method_5_code 5 = .ok (.iaload, 1) := by decide +kernel
theorem d_Pr_secondStatic_6 : decode prog_5_method_5_code 6 = .ok (.ireturn, 1) := by decide +kernel
def f_Pr_secondStatic (M : cs_Mem) (j : Nat) (x1 : Int32) : Int32 :=
  M 4 x1.toNatClampNeg
def pre_Pr_secondStatic (M : cs_Mem) (j : Nat) (x1 : Int32) : Prop :=
  (vp_in x1 (cs_ln M 4)) ∧
  True
set_option maxHeartbeats 4000000 in
set_option maxRecDepth 100000 in
theorem c_Pr_secondStatic (l : Launch) (D : va_G) (cA : Nat → ClassId) (ad : Nat → Nat) (M : cs_Mem) (j : Nat) (hj : cs_is 1 j) (x1 : Int32) (hp : pre_Pr_secondStatic M j x1) : cs_Ci l ⟨"ClassStarter$Program", "secondStatic", "(I)I"⟩ prog_5_method_5_code 2 (some .int) ({ frames := 0, cells := 0, slots := 0, locals := 0 }) D cA ad M [.ref (ad j), .int x1] ((f_Pr_secondStatic M j x1, M)) := by
  refine cs_entry (by decide) (Nat.le_of_ble_eq_true rfl) (fun p e s m below meth c A ls hC hr hlk _ hw hl => ?_)
  have hx := hC.1
  have hb := hC.2.1
  have hl : lv_has ls 2 [(0, .ref (ad j)), (1, .int x1)] := hl
  generalize hF : f_Pr_secondStatic M j x1 = F
  have hf := hF.symm
  unfold f_Pr_secondStatic at hf
  unfold pre_Pr_secondStatic at hp
  refine lv_aload_n hx hb d_Pr_secondStatic_0 rfl (lv_at hl 0 rfl) ?_
  refine gf_Pr_constantValues hC hw hj wd_97 d_Pr_secondStatic_1 ?_
  refine lv_iload_n hx hb d_Pr_secondStatic_4 rfl (lv_at hl 1 rfl) ?_
  have o1 := hp.1
  have hp := hp.2
  refine cs_iald hC hw is_4 o1 d_Pr_secondStatic_5 ?_
  exact cs_iret hC hw hr hlk (congrArg (fun z => (z, M)) hf) d_Pr_secondStatic_6
theorem d_Pr_classCount_0 : decode prog_5_method_2_code 0 = .ok (.aload_n 0, 1) := by decide +kernel
theorem d_Pr_classCount_1 : decode prog_5_method_2_code 1 = .ok (.getfield 37, 3) := by decide +kernel
theorem d_Pr_classCount_4 : decode prog_5_method_2_code 4 = .ok (.ireturn, 1) := by decide +kernel
def f_Pr_classCount (M : cs_Mem) (j : Nat) : Int32 :=
  M j 6
set_option maxHeartbeats 4000000 in
set_option maxRecDepth 100000 in
theorem c_Pr_classCount (l : Launch) (D : va_G) (cA : Nat → ClassId) (ad : Nat → Nat) (M : cs_Mem) (j : Nat) (hj : cs_is 1 j) : cs_Ci l ⟨"ClassStarter$Program", "classCount", "()I"⟩ prog_5_method_2_code 1 (some .int) ({ frames := 0, cells := 0, slots := 0, locals := 0 }) D cA ad M [.ref (ad j)] ((f_Pr_classCount M j, M)) := by
  refine cs_entry (by decide) (Nat.le_of_ble_eq_true rfl) (fun p e s m below meth c A ls hC hr hlk _ hw hl => ?_)
  have hx := hC.1
  have hb := hC.2.1
  have hl : lv_has ls 1 [(0, .ref (ad j))] := hl
  generalize hF : f_Pr_classCount M j = F
  have hf := hF.symm
  unfold f_Pr_classCount at hf
  refine lv_aload_n hx hb d_Pr_classCount_0 rfl (lv_at hl 0 rfl) ?_
  refine gf_Pr_classCount hC hw hj wd_101 d_Pr_classCount_1 ?_
  exact cs_iret hC hw hr hlk (congrArg (fun z => (z, M)) hf) d_Pr_classCount_4
end
section
theorem d_Ma_restart_0 : decode prog_4_method_2_code 0 = .ok (.aload_n 0, 1) := by decide +kernel
theorem d_Ma_restart_1 : decode prog_4_method_2_code 1 = .ok (.getfield 11, 3) := by decide +kernel
theorem d_Ma_restart_4 : decode prog_4_method_2_code 4 = .ok (.iconst 0, 1) := by decide +kernel
theorem d_Ma_restart_5 : decode prog_4_method_2_code 5 = .ok (.invokestatic 25, 3) := by decide +kernel
theorem d_Ma_restart_8 : decode prog_4_method_2_code 8 = .ok (.iconst 0, 1) := by decide +kernel
theorem d_Ma_restart_9 : decode prog_4_method_2_code 9 = .ok (.istore_n 1, 1) := by decide +kernel
theorem d_Ma_restart_10 : decode prog_4_method_2_code 10 = .ok (.iload_n 1, 1) := by decide +kernel
theorem d_Ma_restart_11 : decode prog_4_method_2_code 11 = .ok (.iconst 3, 1) := by decide +kernel
theorem d_Ma_restart_12 : decode prog_4_method_2_code 12 = .ok (.if_icmp .ge 22, 3) := by decide +kernel
theorem d_Ma_restart_15 : decode prog_4_method_2_code 15 = .ok (.aload_n 0, 1) := by decide +kernel
theorem d_Ma_restart_16 : decode prog_4_method_2_code 16 = .ok (.getfield 11, 3) := by decide +kernel
theorem d_Ma_restart_19 : decode prog_4_method_2_code 19 = .ok (.bipush 35, 2) := by decide +kernel
theorem d_Ma_restart_21 : decode prog_4_method_2_code 21 = .ok (.iload_n 1, 1) := by decide +kernel
theorem d_Ma_restart_22 : decode prog_4_method_2_code 22 = .ok (.iadd, 1) := by decide +kernel
theorem d_Ma_restart_23 : decode prog_4_method_2_code 23 = .ok (.bipush 8, 2) := by decide +kernel
theorem d_Ma_restart_25 : decode prog_4_method_2_code 25 = .ok (.iload_n 1, 1) := by decide +kernel
theorem d_Ma_restart_26 : decode prog_4_method_2_code 26 = .ok (.iadd, 1) := by decide +kernel
theorem d_Ma_restart_27 : decode prog_4_method_2_code 27 = .ok (.iastore, 1) := by decide +kernel
theorem d_Ma_restart_28 : decode prog_4_method_2_code 28 = .ok (.iinc 1 1, 3) := by decide +kernel
theorem d_Ma_restart_31 : decode prog_4_method_2_code 31 = .ok (.goto (-21), 3) := by decide +kernel
theorem d_Ma_restart_34 : decode prog_4_method_2_code 34 = .ok (.return_, 1) := by decide +kernel
def f_Ma_restart_L10 : Nat → cs_Mem → Nat → Int32 → cs_Mem
  | 0, M, j, y1 => M
  | fuel + 1, M, j, y1 =>
    if 3 ≤ y1 then
      M
    else
      cs_bd (cs_up M (j + 1) (upd (M (j + 1)) (35 + y1).toNatClampNeg (8 + y1))) fun (N5 : cs_Mem) =>
      cs_bd (y1 + 1) fun (z6 : Int32) =>
      f_Ma_restart_L10 fuel N5 j z6
def pre_Ma_restart_L10 : Nat → cs_Mem → Nat → Int32 → Prop
  | 0, _, _, _ => False
  | fuel + 1, M, j, y1 =>
    (3 ≤ y1 →
      True
    ) ∧ (¬ (3 ≤ y1) →
      (vp_in (35 + y1) (cs_ln M (j + 1))) ∧
      cs_bd (cs_up M (j + 1) (upd (M (j + 1)) (35 + y1).toNatClampNeg (8 + y1))) fun (N5 : cs_Mem) =>
      cs_bd (y1 + 1) fun (z6 : Int32) =>
      pre_Ma_restart_L10 fuel N5 j z6
    )
def f_Ma_restart (M : cs_Mem) (j : Nat) : cs_Mem :=
  cs_bd (f_Ar_fill M (j + 1) 0) fun (u2 : cs_Mem) =>
  f_Ma_restart_L10 5 u2 j 0
def pre_Ma_restart (M : cs_Mem) (j : Nat) : Prop :=
  (pre_Ar_fill M (j + 1) 0) ∧
  cs_bd (f_Ar_fill M (j + 1) 0) fun (u2 : cs_Mem) =>
  pre_Ma_restart_L10 5 u2 j 0
set_option maxHeartbeats 4000000 in
set_option maxRecDepth 100000 in
theorem w_Ma_restart_L10 {p : Program} {l : Launch} {e : Env} {s : State} {m : MethodId} {args : Array Value} {below : List Frame} {meth : Method} {c : Code} {D : va_G} {cA : Nat → ClassId} {A : Nat → Prop} {ad : Nat → Nat} {F : cs_Mem} (hC : cs_Ctx p s m args c prog_4_method_2_code 2 "ClassStarter$Machine" D cA A) (hr : meth.sig.returnType = none) (hlk : meth.locks = false) (fuel : Nat) : ∀ (M : cs_Mem) (j : Nat) (y1 : Int32) (H : Heap) (locs : List Loc) (ls : Array Slot), cs_Wd D cA ad M A s H locs → lv_has ls 2 [(0, .ref (ad j)), (1, .int y1)] → cs_is 3 j → pre_Ma_restart_L10 fuel M j y1 → F = f_Ma_restart_L10 fuel M j y1 → W p l e ({ frames := 1, cells := 0, slots := 0, locals := 23 }) s m args below meth c H locs 0 0 (MQ below (cs_Qv D cA ad F A) args s 0 0 A) (F0 m 10 ls []) := by
  have hx := hC.1
  have hb := hC.2.1
  induction fuel with
  | zero =>
    intro M j y1 H locs ls hw hl g0 hp hf
    exact absurd hp (by simp [pre_Ma_restart_L10])
  | succ fuel ih =>
    intro M j y1 H locs ls hw hl g0 hp hf
    rw [f_Ma_restart_L10] at hf
    rw [pre_Ma_restart_L10] at hp
    refine lv_iload_n hx hb d_Ma_restart_10 rfl (lv_at hl 1 rfl) ?_
    refine lv_iconst (v := 3) hx hb d_Ma_restart_11 (by decide) ?_
    refine lv_icmp_ge (tgt := 34) hx hb d_Ma_restart_12 (by decide) (fun c3 => ?_) (fun c3 => ?_)
    · have hp := hp.1 c3
      have hf := hf.trans (if_pos c3)
      exact cs_vret hC hw hr hlk hf d_Ma_restart_34
    · have hp := hp.2 c3
      have hf := hf.trans (if_neg c3)
      refine lv_aload_n hx hb d_Ma_restart_15 rfl (lv_at hl 0 rfl) ?_
      refine gf_Ma_cells hC hw g0 wd_131 d_Ma_restart_16 ?_
      refine lv_bipush (v := 35) hx hb d_Ma_restart_19 (by decide) ?_
      refine lv_iload_n hx hb d_Ma_restart_21 rfl (lv_at hl 1 rfl) ?_
      refine lv_iadd hx hb d_Ma_restart_22 ?_
      refine lv_bipush (v := 8) hx hb d_Ma_restart_23 (by decide) ?_
      refine lv_iload_n hx hb d_Ma_restart_25 rfl (lv_at hl 1 rfl) ?_
      refine lv_iadd hx hb d_Ma_restart_26 ?_
      have o4 := hp.1
      have hp := hp.2
      refine cs_iast hC hw (is_Ma1 g0) o4 d_Ma_restart_27 (fun N5 H locs eN5 hw => ?_)
      have hp := cs_bdP eN5 hp
      have hf := cs_bdE eN5 hf
      obtain ⟨z6, ez6⟩ : ∃ y : Int32, y = y1 + 1 := ⟨_, rfl⟩
      have hp := cs_bdP ez6 hp
      have hf := cs_bdE ez6 hf
      refine lv_iinc (v := z6) (lv' := [(1, .int z6), (0, .ref (ad j))]) hx hb d_Ma_restart_28 hl (k := 1) rfl (by rw [ez6]; rfl) (by decide) rfl (fun ls hl => ?_)
      refine lv_goto (tgt := 10) hx hb d_Ma_restart_31 (by decide) ?_
      exact ih N5 j z6 _ _ ls hw (lv_sub hl [1, 0] rfl) g0 hp hf
set_option maxHeartbeats 4000000 in
set_option maxRecDepth 100000 in
theorem c_Ma_restart (l : Launch) (D : va_G) (cA : Nat → ClassId) (ad : Nat → Nat) (M : cs_Mem) (j : Nat) (hj : cs_is 3 j) (hp : pre_Ma_restart M j) : cs_Cv l ⟨"ClassStarter$Machine", "restart", "()V"⟩ prog_4_method_2_code 2 none ({ frames := 1, cells := 0, slots := 0, locals := 23 }) D cA ad M [.ref (ad j)] (f_Ma_restart M j) := by
  refine cs_entry (by decide) (Nat.le_of_ble_eq_true rfl) (fun p e s m below meth c A ls hC hr hlk _ hw hl => ?_)
  have hx := hC.1
  have hb := hC.2.1
  have hl : lv_has ls 2 [(0, .ref (ad j))] := hl
  generalize hF : f_Ma_restart M j = F
  have hf := hF.symm
  unfold f_Ma_restart at hf
  unfold pre_Ma_restart at hp
  refine lv_aload_n hx hb d_Ma_restart_0 rfl (lv_at hl 0 rfl) ?_
  refine gf_Ma_cells hC hw hj wd_131 d_Ma_restart_1 ?_
  refine lv_iconst (v := 0) hx hb d_Ma_restart_4 (by decide) ?_
  have o1 := hp.1
  have hp := hp.2
  refine cs_ret_v hC hw (cs_runS (As := [.ref (ad (j + 1)), .int 0]) (rest := []) hC hw (c_Ar_fill l D cA ad M (j + 1) (is_Ma1 hj) 0 o1 _) rfl rfl cw_Ma_25 ⟨Nat.le_of_ble_eq_true rfl, Nat.le_of_ble_eq_true rfl⟩ hl.1 rfl rfl (Nat.le_of_ble_eq_true rfl) d_Ma_restart_5 ⟨Nat.zero_le _, Nat.zero_le _⟩) (fun u2 H locs eu2 hw => ?_)
  have hp := cs_bdP eu2 hp
  have hf := cs_bdE eu2 hf
  refine lv_iconst (v := 0) hx hb d_Ma_restart_8 (by decide) ?_
  refine lv_istore_n (lv' := [(1, .int 0), (0, .ref (ad j))]) hx hb d_Ma_restart_9 rfl hl (by decide) rfl (fun ls hl => ?_)
  exact w_Ma_restart_L10 hC hr hlk 5 u2 j 0 _ _ ls hw (lv_sub hl [1, 0] rfl) hj hp hf
theorem d_Ma_hasBegun_0 : decode prog_4_method_6_code 0 = .ok (.aload_n 0, 1) := by decide +kernel
theorem d_Ma_hasBegun_1 : decode prog_4_method_6_code 1 = .ok (.getfield 11, 3) := by decide +kernel
theorem d_Ma_hasBegun_4 : decode prog_4_method_6_code 4 = .ok (.bipush 41, 2) := by decide +kernel
theorem d_Ma_hasBegun_6 : decode prog_4_method_6_code 6 = .ok (.iaload, 1) := by decide +kernel
theorem d_Ma_hasBegun_7 : decode prog_4_method_6_code 7 = .ok (.ifCond .le 7, 3) := by decide +kernel
theorem d_Ma_hasBegun_10 : decode prog_4_method_6_code 10 = .ok (.iconst 1, 1) := by decide +kernel
theorem d_Ma_hasBegun_11 : decode prog_4_method_6_code 11 = .ok (.goto 4, 3) := by decide +kernel
theorem d_Ma_hasBegun_14 : decode prog_4_method_6_code 14 = .ok (.iconst 0, 1) := by decide +kernel
theorem d_Ma_hasBegun_15 : decode prog_4_method_6_code 15 = .ok (.ireturn, 1) := by decide +kernel
def f_Ma_hasBegun (M : cs_Mem) (j : Nat) : Int32 :=
  if (M (j + 1) 41) ≤ 0 then
    0
  else
    1
def pre_Ma_hasBegun (M : cs_Mem) (j : Nat) : Prop :=
  (vp_in 41 (cs_ln M (j + 1))) ∧
  True
set_option maxHeartbeats 4000000 in
set_option maxRecDepth 100000 in
theorem c_Ma_hasBegun (l : Launch) (D : va_G) (cA : Nat → ClassId) (ad : Nat → Nat) (M : cs_Mem) (j : Nat) (hj : cs_is 3 j) (hp : pre_Ma_hasBegun M j) : cs_Ci l ⟨"ClassStarter$Machine", "hasBegun", "()Z"⟩ prog_4_method_6_code 1 (some .boolean) ({ frames := 0, cells := 0, slots := 0, locals := 0 }) D cA ad M [.ref (ad j)] ((f_Ma_hasBegun M j, M)) := by
  refine cs_entry (by decide) (Nat.le_of_ble_eq_true rfl) (fun p e s m below meth c A ls hC hr hlk _ hw hl => ?_)
  have hx := hC.1
  have hb := hC.2.1
  have hl : lv_has ls 1 [(0, .ref (ad j))] := hl
  generalize hF : f_Ma_hasBegun M j = F
  have hf := hF.symm
  unfold f_Ma_hasBegun at hf
  unfold pre_Ma_hasBegun at hp
  refine lv_aload_n hx hb d_Ma_hasBegun_0 rfl (lv_at hl 0 rfl) ?_
  refine gf_Ma_cells hC hw hj wd_131 d_Ma_hasBegun_1 ?_
  refine lv_bipush (v := 41) hx hb d_Ma_hasBegun_4 (by decide) ?_
  have o1 := hp.1
  have hp := hp.2
  refine cs_iald hC hw (is_Ma1 hj) o1 d_Ma_hasBegun_6 ?_
  refine lv_if_le (tgt := 14) hx hb d_Ma_hasBegun_7 (by decide) (fun c2 => ?_) (fun c2 => ?_)
  · have hf := hf.trans (if_pos c2)
    refine lv_iconst (v := 0) hx hb d_Ma_hasBegun_14 (by decide) ?_
    exact cs_zret hC hw hr hlk (Or.inl rfl) (congrArg (fun z => (z, M)) hf) d_Ma_hasBegun_15
  · have hf := hf.trans (if_neg c2)
    refine lv_iconst (v := 1) hx hb d_Ma_hasBegun_10 (by decide) ?_
    refine lv_goto (tgt := 15) hx hb d_Ma_hasBegun_11 (by decide) ?_
    exact cs_zret hC hw hr hlk (Or.inr rfl) (congrArg (fun z => (z, M)) hf) d_Ma_hasBegun_15
theorem d_Ma_isInClass_0 : decode prog_4_method_12_code 0 = .ok (.aload_n 0, 1) := by decide +kernel
theorem d_Ma_isInClass_1 : decode prog_4_method_12_code 1 = .ok (.getfield 11, 3) := by decide +kernel
theorem d_Ma_isInClass_4 : decode prog_4_method_12_code 4 = .ok (.bipush 35, 2) := by decide +kernel
theorem d_Ma_isInClass_6 : decode prog_4_method_12_code 6 = .ok (.iload_n 1, 1) := by decide +kernel
theorem d_Ma_isInClass_7 : decode prog_4_method_12_code 7 = .ok (.iadd, 1) := by decide +kernel
theorem d_Ma_isInClass_8 : decode prog_4_method_12_code 8 = .ok (.iaload, 1) := by decide +kernel
theorem d_Ma_isInClass_9 : decode prog_4_method_12_code 9 = .ok (.bipush 8, 2) := by decide +kernel
theorem d_Ma_isInClass_11 : decode prog_4_method_12_code 11 = .ok (.if_icmp .ge 7, 3) := by decide +kernel
theorem d_Ma_isInClass_14 : decode prog_4_method_12_code 14 = .ok (.iconst 1, 1) := by decide +kernel
theorem d_Ma_isInClass_15 : decode prog_4_method_12_code 15 = .ok (.goto 4, 3) := by decide +kernel
theorem d_Ma_isInClass_18 : decode prog_4_method_12_code 18 = .ok (.iconst 0, 1) := by decide +kernel
theorem d_Ma_isInClass_19 : decode prog_4_method_12_code 19 = .ok (.ireturn, 1) := by decide +kernel
def f_Ma_isInClass (M : cs_Mem) (j : Nat) (x1 : Int32) : Int32 :=
  if 8 ≤ (M (j + 1) (35 + x1).toNatClampNeg) then
    0
  else
    1
def pre_Ma_isInClass (M : cs_Mem) (j : Nat) (x1 : Int32) : Prop :=
  (vp_in (35 + x1) (cs_ln M (j + 1))) ∧
  True
set_option maxHeartbeats 4000000 in
set_option maxRecDepth 100000 in
theorem c_Ma_isInClass (l : Launch) (D : va_G) (cA : Nat → ClassId) (ad : Nat → Nat) (M : cs_Mem) (j : Nat) (hj : cs_is 3 j) (x1 : Int32) (hp : pre_Ma_isInClass M j x1) : cs_Ci l ⟨"ClassStarter$Machine", "isInClass", "(I)Z"⟩ prog_4_method_12_code 2 (some .boolean) ({ frames := 0, cells := 0, slots := 0, locals := 0 }) D cA ad M [.ref (ad j), .int x1] ((f_Ma_isInClass M j x1, M)) := by
  refine cs_entry (by decide) (Nat.le_of_ble_eq_true rfl) (fun p e s m below meth c A ls hC hr hlk _ hw hl => ?_)
  have hx := hC.1
  have hb := hC.2.1
  have hl : lv_has ls 2 [(0, .ref (ad j)), (1, .int x1)] := hl
  generalize hF : f_Ma_isInClass M j x1 = F
  have hf := hF.symm
  unfold f_Ma_isInClass at hf
  unfold pre_Ma_isInClass at hp
  refine lv_aload_n hx hb d_Ma_isInClass_0 rfl (lv_at hl 0 rfl) ?_
  refine gf_Ma_cells hC hw hj wd_131 d_Ma_isInClass_1 ?_
  refine lv_bipush (v := 35) hx hb d_Ma_isInClass_4 (by decide) ?_
  refine lv_iload_n hx hb d_Ma_isInClass_6 rfl (lv_at hl 1 rfl) ?_
  refine lv_iadd hx hb d_Ma_isInClass_7 ?_
  have o1 := hp.1
  have hp := hp.2
  refine cs_iald hC hw (is_Ma1 hj) o1 d_Ma_isInClass_8 ?_
  refine lv_bipush (v := 8) hx hb d_Ma_isInClass_9 (by decide) ?_
  refine lv_icmp_ge (tgt := 18) hx hb d_Ma_isInClass_11 (by decide) (fun c2 => ?_) (fun c2 => ?_)
  · have hf := hf.trans (if_pos c2)
    refine lv_iconst (v := 0) hx hb d_Ma_isInClass_18 (by decide) ?_
    exact cs_zret hC hw hr hlk (Or.inl rfl) (congrArg (fun z => (z, M)) hf) d_Ma_isInClass_19
  · have hf := hf.trans (if_neg c2)
    refine lv_iconst (v := 1) hx hb d_Ma_isInClass_14 (by decide) ?_
    refine lv_goto (tgt := 19) hx hb d_Ma_isInClass_15 (by decide) ?_
    exact cs_zret hC hw hr hlk (Or.inr rfl) (congrArg (fun z => (z, M)) hf) d_Ma_isInClass_19
theorem d_Ma_topFrame_0 : decode prog_4_method_11_code 0 = .ok (.aload_n 0, 1) := by decide +kernel
theorem d_Ma_topFrame_1 : decode prog_4_method_11_code 1 = .ok (.getfield 11, 3) := by decide +kernel
theorem d_Ma_topFrame_4 : decode prog_4_method_11_code 4 = .ok (.bipush 35, 2) := by decide +kernel
theorem d_Ma_topFrame_6 : decode prog_4_method_11_code 6 = .ok (.iload_n 1, 1) := by decide +kernel
theorem d_Ma_topFrame_7 : decode prog_4_method_11_code 7 = .ok (.iadd, 1) := by decide +kernel
theorem d_Ma_topFrame_8 : decode prog_4_method_11_code 8 = .ok (.iaload, 1) := by decide +kernel
theorem d_Ma_topFrame_9 : decode prog_4_method_11_code 9 = .ok (.ireturn, 1) := by decide +kernel
def f_Ma_topFrame (M : cs_Mem) (j : Nat) (x1 : Int32) : Int32 :=
  M (j + 1) (35 + x1).toNatClampNeg
def pre_Ma_topFrame (M : cs_Mem) (j : Nat) (x1 : Int32) : Prop :=
  (vp_in (35 + x1) (cs_ln M (j + 1))) ∧
  True
set_option maxHeartbeats 4000000 in
set_option maxRecDepth 100000 in
theorem c_Ma_topFrame (l : Launch) (D : va_G) (cA : Nat → ClassId) (ad : Nat → Nat) (M : cs_Mem) (j : Nat) (hj : cs_is 3 j) (x1 : Int32) (hp : pre_Ma_topFrame M j x1) : cs_Ci l ⟨"ClassStarter$Machine", "topFrame", "(I)I"⟩ prog_4_method_11_code 2 (some .int) ({ frames := 0, cells := 0, slots := 0, locals := 0 }) D cA ad M [.ref (ad j), .int x1] ((f_Ma_topFrame M j x1, M)) := by
  refine cs_entry (by decide) (Nat.le_of_ble_eq_true rfl) (fun p e s m below meth c A ls hC hr hlk _ hw hl => ?_)
  have hx := hC.1
  have hb := hC.2.1
  have hl : lv_has ls 2 [(0, .ref (ad j)), (1, .int x1)] := hl
  generalize hF : f_Ma_topFrame M j x1 = F
  have hf := hF.symm
  unfold f_Ma_topFrame at hf
  unfold pre_Ma_topFrame at hp
  refine lv_aload_n hx hb d_Ma_topFrame_0 rfl (lv_at hl 0 rfl) ?_
  refine gf_Ma_cells hC hw hj wd_131 d_Ma_topFrame_1 ?_
  refine lv_bipush (v := 35) hx hb d_Ma_topFrame_4 (by decide) ?_
  refine lv_iload_n hx hb d_Ma_topFrame_6 rfl (lv_at hl 1 rfl) ?_
  refine lv_iadd hx hb d_Ma_topFrame_7 ?_
  have o1 := hp.1
  have hp := hp.2
  refine cs_iald hC hw (is_Ma1 hj) o1 d_Ma_topFrame_8 ?_
  exact cs_iret hC hw hr hlk (congrArg (fun z => (z, M)) hf) d_Ma_topFrame_9
theorem d_Ma_isBehindLast_0 : decode prog_4_method_14_code 0 = .ok (.aload_n 0, 1) := by decide +kernel
theorem d_Ma_isBehindLast_1 : decode prog_4_method_14_code 1 = .ok (.getfield 11, 3) := by decide +kernel
theorem d_Ma_isBehindLast_4 : decode prog_4_method_14_code 4 = .ok (.bipush 24, 2) := by decide +kernel
theorem d_Ma_isBehindLast_6 : decode prog_4_method_14_code 6 = .ok (.iload_n 1, 1) := by decide +kernel
theorem d_Ma_isBehindLast_7 : decode prog_4_method_14_code 7 = .ok (.iadd, 1) := by decide +kernel
theorem d_Ma_isBehindLast_8 : decode prog_4_method_14_code 8 = .ok (.iaload, 1) := by decide +kernel
theorem d_Ma_isBehindLast_9 : decode prog_4_method_14_code 9 = .ok (.aload_n 0, 1) := by decide +kernel
theorem d_Ma_isBehindLast_10 : decode prog_4_method_14_code 10 = .ok (.getfield 18, 3) := by decide +kernel
theorem d_Ma_isBehindLast_13 : decode prog_4_method_14_code 13 = .ok (.iload_n 1, 1) := by decide +kernel
theorem d_Ma_isBehindLast_14 : decode prog_4_method_14_code 14 = .ok (.invokevirtual 53, 3) := by decide +kernel
theorem d_Ma_isBehindLast_17 : decode prog_4_method_14_code 17 = .ok (.invokevirtual 57, 3) := by decide +kernel
theorem d_Ma_isBehindLast_20 : decode prog_4_method_14_code 20 = .ok (.if_icmp .lt 7, 3) := by decide +kernel
theorem d_Ma_isBehindLast_23 : decode prog_4_method_14_code 23 = .ok (.iconst 1, 1) := by decide +kernel
theorem d_Ma_isBehindLast_24 : decode prog_4_method_14_code 24 = .ok (.goto 4, 3) := by decide +kernel
theorem d_Ma_isBehindLast_27 : decode prog_4_method_14_code 27 = .ok (.iconst 0, 1) := by decide +kernel
theorem d_Ma_isBehindLast_28 : decode prog_4_method_14_code 28 = .ok (.ireturn, 1) := by decide +kernel
def f_Ma_isBehindLast (M : cs_Mem) (j : Nat) (x1 : Int32) : Int32 :=
  cs_bd (f_Pr_script M 1 x1) fun (r3 : Nat) =>
  cs_bd (f_Sc_length M r3) fun (r4 : Int32) =>
  if (M (j + 1) (24 + x1).toNatClampNeg) < r4 then
    0
  else
    1
def pre_Ma_isBehindLast (M : cs_Mem) (j : Nat) (x1 : Int32) : Prop :=
  (vp_in (24 + x1) (cs_ln M (j + 1))) ∧
  (pre_Pr_script M 1 x1) ∧
  True
set_option maxHeartbeats 4000000 in
set_option maxRecDepth 100000 in
theorem c_Ma_isBehindLast (l : Launch) (D : va_G) (cA : Nat → ClassId) (ad : Nat → Nat) (M : cs_Mem) (j : Nat) (hj : cs_is 3 j) (x1 : Int32) (hp : pre_Ma_isBehindLast M j x1) : cs_Ci l ⟨"ClassStarter$Machine", "isBehindLast", "(I)Z"⟩ prog_4_method_14_code 2 (some .boolean) ({ frames := 1, cells := 0, slots := 0, locals := 21 }) D cA ad M [.ref (ad j), .int x1] ((f_Ma_isBehindLast M j x1, M)) := by
  refine cs_entry (by decide) (Nat.le_of_ble_eq_true rfl) (fun p e s m below meth c A ls hC hr hlk _ hw hl => ?_)
  have hx := hC.1
  have hb := hC.2.1
  have hl : lv_has ls 2 [(0, .ref (ad j)), (1, .int x1)] := hl
  generalize hF : f_Ma_isBehindLast M j x1 = F
  have hf := hF.symm
  unfold f_Ma_isBehindLast at hf
  unfold pre_Ma_isBehindLast at hp
  refine lv_aload_n hx hb d_Ma_isBehindLast_0 rfl (lv_at hl 0 rfl) ?_
  refine gf_Ma_cells hC hw hj wd_131 d_Ma_isBehindLast_1 ?_
  refine lv_bipush (v := 24) hx hb d_Ma_isBehindLast_4 (by decide) ?_
  refine lv_iload_n hx hb d_Ma_isBehindLast_6 rfl (lv_at hl 1 rfl) ?_
  refine lv_iadd hx hb d_Ma_isBehindLast_7 ?_
  have o1 := hp.1
  have hp := hp.2
  refine cs_iald hC hw (is_Ma1 hj) o1 d_Ma_isBehindLast_8 ?_
  refine lv_aload_n hx hb d_Ma_isBehindLast_9 rfl (lv_at hl 0 rfl) ?_
  refine gf_Ma_program hC hw hj wd_130 d_Ma_isBehindLast_10 ?_
  refine lv_iload_n hx hb d_Ma_isBehindLast_13 rfl (lv_at hl 1 rfl) ?_
  have o2 := hp.1
  have hp := hp.2
  refine cs_ret_rp hC hw (cs_runV (As := [.int x1]) (rest := [.int (M (j + 1) (24 + x1).toNatClampNeg)]) hC hw is_1.2 (ci := 1) rfl rfl (cs_sg_is is_1) (c_Pr_script l D cA ad M 1 is_1 x1 o2 _) rfl rfl cw_Ma_53 ⟨Nat.le_of_ble_eq_true rfl, Nat.le_of_ble_eq_true rfl⟩ hl.1 rfl rfl (Nat.le_of_ble_eq_true rfl) d_Ma_isBehindLast_14 ⟨Nat.zero_le _, Nat.zero_le _⟩) (fun r3 H locs er3 hw => ?_)
  have hf := cs_bdE er3 hf
  refine cs_ret_p hC hw (cs_runV (As := []) (rest := [.int (M (j + 1) (24 + x1).toNatClampNeg)]) hC hw (is_script er3 o2).2 (ci := 2) rfl rfl (cs_sg_is (is_script er3 o2)) (c_Sc_length l D cA ad M r3 (is_script er3 o2) _) rfl rfl cw_Ma_57 ⟨Nat.le_of_ble_eq_true rfl, Nat.le_of_ble_eq_true rfl⟩ hl.1 rfl rfl (Nat.le_of_ble_eq_true rfl) d_Ma_isBehindLast_17 ⟨Nat.zero_le _, Nat.zero_le _⟩) (fun r4 H locs er4 hw => ?_)
  have hf := cs_bdE er4 hf
  refine lv_icmp_lt (tgt := 27) hx hb d_Ma_isBehindLast_20 (by decide) (fun c5 => ?_) (fun c5 => ?_)
  · have hf := hf.trans (if_pos c5)
    refine lv_iconst (v := 0) hx hb d_Ma_isBehindLast_27 (by decide) ?_
    exact cs_zret hC hw hr hlk (Or.inl rfl) (congrArg (fun z => (z, M)) hf) d_Ma_isBehindLast_28
  · have hf := hf.trans (if_neg c5)
    refine lv_iconst (v := 1) hx hb d_Ma_isBehindLast_23 (by decide) ?_
    refine lv_goto (tgt := 28) hx hb d_Ma_isBehindLast_24 (by decide) ?_
    exact cs_zret hC hw hr hlk (Or.inr rfl) (congrArg (fun z => (z, M)) hf) d_Ma_isBehindLast_28
theorem d_Ma_hasEnded_0 : decode prog_4_method_13_code 0 = .ok (.aload_n 0, 1) := by decide +kernel
theorem d_Ma_hasEnded_1 : decode prog_4_method_13_code 1 = .ok (.iload_n 1, 1) := by decide +kernel
theorem d_Ma_hasEnded_2 : decode prog_4_method_13_code 2 = .ok (.invokevirtual 43, 3) := by decide +kernel
theorem d_Ma_hasEnded_5 : decode prog_4_method_13_code 5 = .ok (.ifCond .ne 31, 3) := by decide +kernel
theorem d_Ma_hasEnded_8 : decode prog_4_method_13_code 8 = .ok (.aload_n 0, 1) := by decide +kernel
theorem d_Ma_hasEnded_9 : decode prog_4_method_13_code 9 = .ok (.getfield 11, 3) := by decide +kernel
theorem d_Ma_hasEnded_12 : decode prog_4_method_13_code 12 = .ok (.bipush 38, 2) := by decide +kernel
theorem d_Ma_hasEnded_14 : decode prog_4_method_13_code 14 = .ok (.iload_n 1, 1) := by decide +kernel
theorem d_Ma_hasEnded_15 : decode prog_4_method_13_code 15 = .ok (.iadd, 1) := by decide +kernel
theorem d_Ma_hasEnded_16 : decode prog_4_method_13_code 16 = .ok (.iaload, 1) := by decide +kernel
theorem d_Ma_hasEnded_17 : decode prog_4_method_13_code 17 = .ok (.ifCond .ne 15, 3) := by decide +kernel
theorem d_Ma_hasEnded_20 : decode prog_4_method_13_code 20 = .ok (.aload_n 0, 1) := by decide +kernel
theorem d_Ma_hasEnded_21 : decode prog_4_method_13_code 21 = .ok (.aload_n 0, 1) := by decide +kernel
theorem d_Ma_hasEnded_22 : decode prog_4_method_13_code 22 = .ok (.iload_n 1, 1) := by decide +kernel
theorem d_Ma_hasEnded_23 : decode prog_4_method_13_code 23 = .ok (.invokevirtual 47, 3) := by decide +kernel
theorem d_Ma_hasEnded_26 : decode prog_4_method_13_code 26 = .ok (.invokevirtual 50, 3) := by decide +kernel
theorem d_Ma_hasEnded_29 : decode prog_4_method_13_code 29 = .ok (.ifCond .eq 7, 3) := by decide +kernel
theorem d_Ma_hasEnded_32 : decode prog_4_method_13_code 32 = .ok (.iconst 1, 1) := by decide +kernel
theorem d_Ma_hasEnded_33 : decode prog_4_method_13_code 33 = .ok (.goto 4, 3) := by decide +kernel
theorem d_Ma_hasEnded_36 : decode prog_4_method_13_code 36 = .ok (.iconst 0, 1) := by decide +kernel
theorem d_Ma_hasEnded_37 : decode prog_4_method_13_code 37 = .ok (.ireturn, 1) := by decide +kernel
def f_Ma_hasEnded (M : cs_Mem) (j : Nat) (x1 : Int32) : Int32 :=
  cs_bd (f_Ma_isInClass M j x1) fun (r2 : Int32) =>
  if r2 = 0 then
    if (M (j + 1) (38 + x1).toNatClampNeg) = 0 then
      cs_bd (f_Ma_topFrame M j x1) fun (r7 : Int32) =>
      cs_bd (f_Ma_isBehindLast M j r7) fun (r9 : Int32) =>
      if r9 = 0 then
        0
      else
        1
    else
      1
  else
    0
def pre_Ma_hasEnded (M : cs_Mem) (j : Nat) (x1 : Int32) : Prop :=
  (pre_Ma_isInClass M j x1) ∧
  cs_bd (f_Ma_isInClass M j x1) fun (r2 : Int32) =>
  (r2 = 0 →
    (vp_in (38 + x1) (cs_ln M (j + 1))) ∧
    ((M (j + 1) (38 + x1).toNatClampNeg) = 0 →
      (pre_Ma_topFrame M j x1) ∧
      cs_bd (f_Ma_topFrame M j x1) fun (r7 : Int32) =>
      (pre_Ma_isBehindLast M j r7) ∧
      True
    ) ∧ (¬ ((M (j + 1) (38 + x1).toNatClampNeg) = 0) →
      True
    )
  ) ∧ (¬ (r2 = 0) →
    True
  )
set_option maxHeartbeats 4000000 in
set_option maxRecDepth 100000 in
theorem c_Ma_hasEnded (l : Launch) (D : va_G) (cA : Nat → ClassId) (ad : Nat → Nat) (M : cs_Mem) (j : Nat) (hj : cs_is 3 j) (x1 : Int32) (hp : pre_Ma_hasEnded M j x1) : cs_Ci l ⟨"ClassStarter$Machine", "hasEnded", "(I)Z"⟩ prog_4_method_13_code 2 (some .boolean) ({ frames := 2, cells := 0, slots := 0, locals := 42 }) D cA ad M [.ref (ad j), .int x1] ((f_Ma_hasEnded M j x1, M)) := by
  refine cs_entry (by decide) (Nat.le_of_ble_eq_true rfl) (fun p e s m below meth c A ls hC hr hlk _ hw hl => ?_)
  have hx := hC.1
  have hb := hC.2.1
  have hl : lv_has ls 2 [(0, .ref (ad j)), (1, .int x1)] := hl
  generalize hF : f_Ma_hasEnded M j x1 = F
  have hf := hF.symm
  unfold f_Ma_hasEnded at hf
  unfold pre_Ma_hasEnded at hp
  refine lv_aload_n hx hb d_Ma_hasEnded_0 rfl (lv_at hl 0 rfl) ?_
  refine lv_iload_n hx hb d_Ma_hasEnded_1 rfl (lv_at hl 1 rfl) ?_
  have o1 := hp.1
  have hp := hp.2
  refine cs_ret_p hC hw (cs_runV (As := [.int x1]) (rest := []) hC hw hj.2 (ci := 3) rfl rfl (cs_sg_is hj) (c_Ma_isInClass l D cA ad M j hj x1 o1 _) rfl rfl cw_Ma_43 ⟨Nat.le_of_ble_eq_true rfl, Nat.le_of_ble_eq_true rfl⟩ hl.1 rfl rfl (Nat.le_of_ble_eq_true rfl) d_Ma_hasEnded_2 ⟨Nat.zero_le _, Nat.zero_le _⟩) (fun r2 H locs er2 hw => ?_)
  have hp := cs_bdP er2 hp
  have hf := cs_bdE er2 hf
  refine lv_if_ne (tgt := 36) hx hb d_Ma_hasEnded_5 (by decide) (fun c3 => ?_) (fun c3 => ?_)
  · have hp := hp.2 c3
    have hf := hf.trans (if_neg c3)
    refine lv_iconst (v := 0) hx hb d_Ma_hasEnded_36 (by decide) ?_
    exact cs_zret hC hw hr hlk (Or.inl rfl) (congrArg (fun z => (z, M)) hf) d_Ma_hasEnded_37
  · have hp := hp.1 c3
    have hf := hf.trans (if_pos c3)
    refine lv_aload_n hx hb d_Ma_hasEnded_8 rfl (lv_at hl 0 rfl) ?_
    refine gf_Ma_cells hC hw hj wd_131 d_Ma_hasEnded_9 ?_
    refine lv_bipush (v := 38) hx hb d_Ma_hasEnded_12 (by decide) ?_
    refine lv_iload_n hx hb d_Ma_hasEnded_14 rfl (lv_at hl 1 rfl) ?_
    refine lv_iadd hx hb d_Ma_hasEnded_15 ?_
    have o4 := hp.1
    have hp := hp.2
    refine cs_iald hC hw (is_Ma1 hj) o4 d_Ma_hasEnded_16 ?_
    refine lv_if_ne (tgt := 32) hx hb d_Ma_hasEnded_17 (by decide) (fun c5 => ?_) (fun c5 => ?_)
    · have hp := hp.2 c5
      have hf := hf.trans (if_neg c5)
      refine lv_iconst (v := 1) hx hb d_Ma_hasEnded_32 (by decide) ?_
      refine lv_goto (tgt := 37) hx hb d_Ma_hasEnded_33 (by decide) ?_
      exact cs_zret hC hw hr hlk (Or.inr rfl) (congrArg (fun z => (z, M)) hf) d_Ma_hasEnded_37
    · have hp := hp.1 c5
      have hf := hf.trans (if_pos c5)
      refine lv_aload_n hx hb d_Ma_hasEnded_20 rfl (lv_at hl 0 rfl) ?_
      refine lv_aload_n hx hb d_Ma_hasEnded_21 rfl (lv_at hl 0 rfl) ?_
      refine lv_iload_n hx hb d_Ma_hasEnded_22 rfl (lv_at hl 1 rfl) ?_
      have o6 := hp.1
      have hp := hp.2
      refine cs_ret_p hC hw (cs_runV (As := [.int x1]) (rest := [.ref (ad j)]) hC hw hj.2 (ci := 3) rfl rfl (cs_sg_is hj) (c_Ma_topFrame l D cA ad M j hj x1 o6 _) rfl rfl cw_Ma_47 ⟨Nat.le_of_ble_eq_true rfl, Nat.le_of_ble_eq_true rfl⟩ hl.1 rfl rfl (Nat.le_of_ble_eq_true rfl) d_Ma_hasEnded_23 ⟨Nat.zero_le _, Nat.zero_le _⟩) (fun r7 H locs er7 hw => ?_)
      have hp := cs_bdP er7 hp
      have hf := cs_bdE er7 hf
      have o8 := hp.1
      have hp := hp.2
      refine cs_ret_p hC hw (cs_runV (As := [.int r7]) (rest := []) hC hw hj.2 (ci := 3) rfl rfl (cs_sg_is hj) (c_Ma_isBehindLast l D cA ad M j hj r7 o8 _) rfl rfl cw_Ma_50 ⟨Nat.le_of_ble_eq_true rfl, Nat.le_of_ble_eq_true rfl⟩ hl.1 rfl rfl (Nat.le_of_ble_eq_true rfl) d_Ma_hasEnded_26 ⟨Nat.zero_le _, Nat.zero_le _⟩) (fun r9 H locs er9 hw => ?_)
      have hf := cs_bdE er9 hf
      refine lv_if_eq (tgt := 36) hx hb d_Ma_hasEnded_29 (by decide) (fun c10 => ?_) (fun c10 => ?_)
      · have hf := hf.trans (if_pos c10)
        refine lv_iconst (v := 0) hx hb d_Ma_hasEnded_36 (by decide) ?_
        exact cs_zret hC hw hr hlk (Or.inl rfl) (congrArg (fun z => (z, M)) hf) d_Ma_hasEnded_37
      · have hf := hf.trans (if_neg c10)
        refine lv_iconst (v := 1) hx hb d_Ma_hasEnded_32 (by decide) ?_
        refine lv_goto (tgt := 37) hx hb d_Ma_hasEnded_33 (by decide) ?_
        exact cs_zret hC hw hr hlk (Or.inr rfl) (congrArg (fun z => (z, M)) hf) d_Ma_hasEnded_37
theorem d_Ma_stateOf_0 : decode prog_4_method_7_code 0 = .ok (.aload_n 0, 1) := by decide +kernel
theorem d_Ma_stateOf_1 : decode prog_4_method_7_code 1 = .ok (.getfield 11, 3) := by decide +kernel
theorem d_Ma_stateOf_4 : decode prog_4_method_7_code 4 = .ok (.iconst 0, 1) := by decide +kernel
theorem d_Ma_stateOf_5 : decode prog_4_method_7_code 5 = .ok (.iload_n 1, 1) := by decide +kernel
theorem d_Ma_stateOf_6 : decode prog_4_method_7_code 6 = .ok (.iadd, 1) := by decide +kernel
theorem d_Ma_stateOf_7 : decode prog_4_method_7_code 7 = .ok (.iaload, 1) := by decide +kernel
theorem d_Ma_stateOf_8 : decode prog_4_method_7_code 8 = .ok (.ireturn, 1) := by decide +kernel
def f_Ma_stateOf (M : cs_Mem) (j : Nat) (x1 : Int32) : Int32 :=
  M (j + 1) (0 + x1).toNatClampNeg
def pre_Ma_stateOf (M : cs_Mem) (j : Nat) (x1 : Int32) : Prop :=
  (vp_in (0 + x1) (cs_ln M (j + 1))) ∧
  True
set_option maxHeartbeats 4000000 in
set_option maxRecDepth 100000 in
theorem c_Ma_stateOf (l : Launch) (D : va_G) (cA : Nat → ClassId) (ad : Nat → Nat) (M : cs_Mem) (j : Nat) (hj : cs_is 3 j) (x1 : Int32) (hp : pre_Ma_stateOf M j x1) : cs_Ci l ⟨"ClassStarter$Machine", "stateOf", "(I)I"⟩ prog_4_method_7_code 2 (some .int) ({ frames := 0, cells := 0, slots := 0, locals := 0 }) D cA ad M [.ref (ad j), .int x1] ((f_Ma_stateOf M j x1, M)) := by
  refine cs_entry (by decide) (Nat.le_of_ble_eq_true rfl) (fun p e s m below meth c A ls hC hr hlk _ hw hl => ?_)
  have hx := hC.1
  have hb := hC.2.1
  have hl : lv_has ls 2 [(0, .ref (ad j)), (1, .int x1)] := hl
  generalize hF : f_Ma_stateOf M j x1 = F
  have hf := hF.symm
  unfold f_Ma_stateOf at hf
  unfold pre_Ma_stateOf at hp
  refine lv_aload_n hx hb d_Ma_stateOf_0 rfl (lv_at hl 0 rfl) ?_
  refine gf_Ma_cells hC hw hj wd_131 d_Ma_stateOf_1 ?_
  refine lv_iconst (v := 0) hx hb d_Ma_stateOf_4 (by decide) ?_
  refine lv_iload_n hx hb d_Ma_stateOf_5 rfl (lv_at hl 1 rfl) ?_
  refine lv_iadd hx hb d_Ma_stateOf_6 ?_
  have o1 := hp.1
  have hp := hp.2
  refine cs_iald hC hw (is_Ma1 hj) o1 d_Ma_stateOf_7 ?_
  exact cs_iret hC hw hr hlk (congrArg (fun z => (z, M)) hf) d_Ma_stateOf_8
theorem d_Ma_awaited_0 : decode prog_4_method_15_code 0 = .ok (.aload_n 0, 1) := by decide +kernel
theorem d_Ma_awaited_1 : decode prog_4_method_15_code 1 = .ok (.getfield 11, 3) := by decide +kernel
theorem d_Ma_awaited_4 : decode prog_4_method_15_code 4 = .ok (.bipush 38, 2) := by decide +kernel
theorem d_Ma_awaited_6 : decode prog_4_method_15_code 6 = .ok (.iload_n 1, 1) := by decide +kernel
theorem d_Ma_awaited_7 : decode prog_4_method_15_code 7 = .ok (.iadd, 1) := by decide +kernel
theorem d_Ma_awaited_8 : decode prog_4_method_15_code 8 = .ok (.iaload, 1) := by decide +kernel
theorem d_Ma_awaited_9 : decode prog_4_method_15_code 9 = .ok (.ifCond .eq 5, 3) := by decide +kernel
theorem d_Ma_awaited_12 : decode prog_4_method_15_code 12 = .ok (.iconst (-1), 1) := by decide +kernel
theorem d_Ma_awaited_13 : decode prog_4_method_15_code 13 = .ok (.ireturn, 1) := by decide +kernel
theorem d_Ma_awaited_14 : decode prog_4_method_15_code 14 = .ok (.aload_n 0, 1) := by decide +kernel
theorem d_Ma_awaited_15 : decode prog_4_method_15_code 15 = .ok (.iload_n 1, 1) := by decide +kernel
theorem d_Ma_awaited_16 : decode prog_4_method_15_code 16 = .ok (.invokevirtual 47, 3) := by decide +kernel
theorem d_Ma_awaited_19 : decode prog_4_method_15_code 19 = .ok (.istore_n 2, 1) := by decide +kernel
theorem d_Ma_awaited_20 : decode prog_4_method_15_code 20 = .ok (.aload_n 0, 1) := by decide +kernel
theorem d_Ma_awaited_21 : decode prog_4_method_15_code 21 = .ok (.getfield 18, 3) := by decide +kernel
theorem d_Ma_awaited_24 : decode prog_4_method_15_code 24 = .ok (.iload_n 2, 1) := by decide +kernel
theorem d_Ma_awaited_25 : decode prog_4_method_15_code 25 = .ok (.aload_n 0, 1) := by decide +kernel
theorem d_Ma_awaited_26 : decode prog_4_method_15_code 26 = .ok (.getfield 11, 3) := by decide +kernel
theorem d_Ma_awaited_29 : decode prog_4_method_15_code 29 = .ok (.bipush 24, 2) := by decide +kernel
theorem d_Ma_awaited_31 : decode prog_4_method_15_code 31 = .ok (.iload_n 2, 1) := by decide +kernel
theorem d_Ma_awaited_32 : decode prog_4_method_15_code 32 = .ok (.iadd, 1) := by decide +kernel
theorem d_Ma_awaited_33 : decode prog_4_method_15_code 33 = .ok (.iaload, 1) := by decide +kernel
theorem d_Ma_awaited_34 : decode prog_4_method_15_code 34 = .ok (.invokevirtual 63, 3) := by decide +kernel
theorem d_Ma_awaited_37 : decode prog_4_method_15_code 37 = .ok (.istore_n 3, 1) := by decide +kernel
theorem d_Ma_awaited_38 : decode prog_4_method_15_code 38 = .ok (.iload_n 3, 1) := by decide +kernel
theorem d_Ma_awaited_39 : decode prog_4_method_15_code 39 = .ok (.iconst (-1), 1) := by decide +kernel
theorem d_Ma_awaited_40 : decode prog_4_method_15_code 40 = .ok (.if_icmp .eq 27, 3) := by decide +kernel
theorem d_Ma_awaited_43 : decode prog_4_method_15_code 43 = .ok (.aload_n 0, 1) := by decide +kernel
theorem d_Ma_awaited_44 : decode prog_4_method_15_code 44 = .ok (.iload_n 3, 1) := by decide +kernel
theorem d_Ma_awaited_45 : decode prog_4_method_15_code 45 = .ok (.invokevirtual 67, 3) := by decide +kernel
theorem d_Ma_awaited_48 : decode prog_4_method_15_code 48 = .ok (.iconst 4, 1) := by decide +kernel
theorem d_Ma_awaited_49 : decode prog_4_method_15_code 49 = .ok (.if_icmp .lt 18, 3) := by decide +kernel
theorem d_Ma_awaited_52 : decode prog_4_method_15_code 52 = .ok (.aload_n 0, 1) := by decide +kernel
theorem d_Ma_awaited_53 : decode prog_4_method_15_code 53 = .ok (.iload_n 3, 1) := by decide +kernel
theorem d_Ma_awaited_54 : decode prog_4_method_15_code 54 = .ok (.invokevirtual 67, 3) := by decide +kernel
theorem d_Ma_awaited_57 : decode prog_4_method_15_code 57 = .ok (.iconst 4, 1) := by decide +kernel
theorem d_Ma_awaited_58 : decode prog_4_method_15_code 58 = .ok (.iload_n 1, 1) := by decide +kernel
theorem d_Ma_awaited_59 : decode prog_4_method_15_code 59 = .ok (.iadd, 1) := by decide +kernel
theorem d_Ma_awaited_60 : decode prog_4_method_15_code 60 = .ok (.if_icmp .eq 7, 3) := by decide +kernel
theorem d_Ma_awaited_63 : decode prog_4_method_15_code 63 = .ok (.iload_n 3, 1) := by decide +kernel
theorem d_Ma_awaited_64 : decode prog_4_method_15_code 64 = .ok (.goto 4, 3) := by decide +kernel
theorem d_Ma_awaited_67 : decode prog_4_method_15_code 67 = .ok (.iconst (-1), 1) := by decide +kernel
theorem d_Ma_awaited_68 : decode prog_4_method_15_code 68 = .ok (.ireturn, 1) := by decide +kernel
def f_Ma_awaited (M : cs_Mem) (j : Nat) (x1 : Int32) : Int32 :=
  if (M (j + 1) (38 + x1).toNatClampNeg) = 0 then
    cs_bd (f_Ma_topFrame M j x1) fun (r4 : Int32) =>
    cs_bd (f_Pr_usedBy M 1 r4 (M (j + 1) (24 + r4).toNatClampNeg)) fun (r7 : Int32) =>
    if r7 = (-1) then
      (-1)
    else
      cs_bd (f_Ma_stateOf M j r7) fun (r10 : Int32) =>
      if r10 < 4 then
        (-1)
      else
        cs_bd (f_Ma_stateOf M j r7) fun (r13 : Int32) =>
        if r13 = (4 + x1) then
          (-1)
        else
          r7
  else
    (-1)
def pre_Ma_awaited (M : cs_Mem) (j : Nat) (x1 : Int32) : Prop :=
  (vp_in (38 + x1) (cs_ln M (j + 1))) ∧
  ((M (j + 1) (38 + x1).toNatClampNeg) = 0 →
    (pre_Ma_topFrame M j x1) ∧
    cs_bd (f_Ma_topFrame M j x1) fun (r4 : Int32) =>
    (vp_in (24 + r4) (cs_ln M (j + 1))) ∧
    (pre_Pr_usedBy M 1 r4 (M (j + 1) (24 + r4).toNatClampNeg)) ∧
    cs_bd (f_Pr_usedBy M 1 r4 (M (j + 1) (24 + r4).toNatClampNeg)) fun (r7 : Int32) =>
    (r7 = (-1) →
      True
    ) ∧ (¬ (r7 = (-1)) →
      (pre_Ma_stateOf M j r7) ∧
      cs_bd (f_Ma_stateOf M j r7) fun (r10 : Int32) =>
      (r10 < 4 →
        True
      ) ∧ (¬ (r10 < 4) →
        (pre_Ma_stateOf M j r7) ∧
        True
      )
    )
  ) ∧ (¬ ((M (j + 1) (38 + x1).toNatClampNeg) = 0) →
    True
  )
set_option maxHeartbeats 4000000 in
set_option maxRecDepth 100000 in
theorem c_Ma_awaited (l : Launch) (D : va_G) (cA : Nat → ClassId) (ad : Nat → Nat) (M : cs_Mem) (j : Nat) (hj : cs_is 3 j) (x1 : Int32) (hp : pre_Ma_awaited M j x1) : cs_Ci l ⟨"ClassStarter$Machine", "awaited", "(I)I"⟩ prog_4_method_15_code 4 (some .int) ({ frames := 2, cells := 0, slots := 0, locals := 45 }) D cA ad M [.ref (ad j), .int x1] ((f_Ma_awaited M j x1, M)) := by
  refine cs_entry (by decide) (Nat.le_of_ble_eq_true rfl) (fun p e s m below meth c A ls hC hr hlk _ hw hl => ?_)
  have hx := hC.1
  have hb := hC.2.1
  have hl : lv_has ls 4 [(0, .ref (ad j)), (1, .int x1)] := hl
  generalize hF : f_Ma_awaited M j x1 = F
  have hf := hF.symm
  unfold f_Ma_awaited at hf
  unfold pre_Ma_awaited at hp
  refine lv_aload_n hx hb d_Ma_awaited_0 rfl (lv_at hl 0 rfl) ?_
  refine gf_Ma_cells hC hw hj wd_131 d_Ma_awaited_1 ?_
  refine lv_bipush (v := 38) hx hb d_Ma_awaited_4 (by decide) ?_
  refine lv_iload_n hx hb d_Ma_awaited_6 rfl (lv_at hl 1 rfl) ?_
  refine lv_iadd hx hb d_Ma_awaited_7 ?_
  have o1 := hp.1
  have hp := hp.2
  refine cs_iald hC hw (is_Ma1 hj) o1 d_Ma_awaited_8 ?_
  refine lv_if_eq (tgt := 14) hx hb d_Ma_awaited_9 (by decide) (fun c2 => ?_) (fun c2 => ?_)
  · have hp := hp.1 c2
    have hf := hf.trans (if_pos c2)
    refine lv_aload_n hx hb d_Ma_awaited_14 rfl (lv_at hl 0 rfl) ?_
    refine lv_iload_n hx hb d_Ma_awaited_15 rfl (lv_at hl 1 rfl) ?_
    have o3 := hp.1
    have hp := hp.2
    refine cs_ret_p hC hw (cs_runV (As := [.int x1]) (rest := []) hC hw hj.2 (ci := 3) rfl rfl (cs_sg_is hj) (c_Ma_topFrame l D cA ad M j hj x1 o3 _) rfl rfl cw_Ma_47 ⟨Nat.le_of_ble_eq_true rfl, Nat.le_of_ble_eq_true rfl⟩ hl.1 rfl rfl (Nat.le_of_ble_eq_true rfl) d_Ma_awaited_16 ⟨Nat.zero_le _, Nat.zero_le _⟩) (fun r4 H locs er4 hw => ?_)
    have hp := cs_bdP er4 hp
    have hf := cs_bdE er4 hf
    refine lv_istore_n (lv' := [(2, .int r4), (0, .ref (ad j)), (1, .int x1)]) hx hb d_Ma_awaited_19 rfl hl (by decide) rfl (fun ls hl => ?_)
    refine lv_aload_n hx hb d_Ma_awaited_20 rfl (lv_at hl 1 rfl) ?_
    refine gf_Ma_program hC hw hj wd_130 d_Ma_awaited_21 ?_
    refine lv_iload_n hx hb d_Ma_awaited_24 rfl (lv_at hl 0 rfl) ?_
    refine lv_aload_n hx hb d_Ma_awaited_25 rfl (lv_at hl 1 rfl) ?_
    refine gf_Ma_cells hC hw hj wd_131 d_Ma_awaited_26 ?_
    refine lv_bipush (v := 24) hx hb d_Ma_awaited_29 (by decide) ?_
    refine lv_iload_n hx hb d_Ma_awaited_31 rfl (lv_at hl 0 rfl) ?_
    refine lv_iadd hx hb d_Ma_awaited_32 ?_
    have o5 := hp.1
    have hp := hp.2
    refine cs_iald hC hw (is_Ma1 hj) o5 d_Ma_awaited_33 ?_
    have o6 := hp.1
    have hp := hp.2
    refine cs_ret_p hC hw (cs_runV (As := [.int r4, .int (M (j + 1) (24 + r4).toNatClampNeg)]) (rest := []) hC hw is_1.2 (ci := 1) rfl rfl (cs_sg_is is_1) (c_Pr_usedBy l D cA ad M 1 is_1 r4 (M (j + 1) (24 + r4).toNatClampNeg) o6 _) rfl rfl cw_Ma_63 ⟨Nat.le_of_ble_eq_true rfl, Nat.le_of_ble_eq_true rfl⟩ hl.1 rfl rfl (Nat.le_of_ble_eq_true rfl) d_Ma_awaited_34 ⟨Nat.zero_le _, Nat.zero_le _⟩) (fun r7 H locs er7 hw => ?_)
    have hp := cs_bdP er7 hp
    have hf := cs_bdE er7 hf
    refine lv_istore_n (lv' := [(3, .int r7), (2, .int r4), (0, .ref (ad j)), (1, .int x1)]) hx hb d_Ma_awaited_37 rfl hl (by decide) rfl (fun ls hl => ?_)
    refine lv_iload_n hx hb d_Ma_awaited_38 rfl (lv_at hl 0 rfl) ?_
    refine lv_iconst (v := (-1)) hx hb d_Ma_awaited_39 (by decide) ?_
    refine lv_icmp_eq (tgt := 67) hx hb d_Ma_awaited_40 (by decide) (fun c8 => ?_) (fun c8 => ?_)
    · have hp := hp.1 c8
      have hf := hf.trans (if_pos c8)
      refine lv_iconst (v := (-1)) hx hb d_Ma_awaited_67 (by decide) ?_
      exact cs_iret hC hw hr hlk (congrArg (fun z => (z, M)) hf) d_Ma_awaited_68
    · have hp := hp.2 c8
      have hf := hf.trans (if_neg c8)
      refine lv_aload_n hx hb d_Ma_awaited_43 rfl (lv_at hl 2 rfl) ?_
      refine lv_iload_n hx hb d_Ma_awaited_44 rfl (lv_at hl 0 rfl) ?_
      have o9 := hp.1
      have hp := hp.2
      refine cs_ret_p hC hw (cs_runV (As := [.int r7]) (rest := []) hC hw hj.2 (ci := 3) rfl rfl (cs_sg_is hj) (c_Ma_stateOf l D cA ad M j hj r7 o9 _) rfl rfl cw_Ma_67 ⟨Nat.le_of_ble_eq_true rfl, Nat.le_of_ble_eq_true rfl⟩ hl.1 rfl rfl (Nat.le_of_ble_eq_true rfl) d_Ma_awaited_45 ⟨Nat.zero_le _, Nat.zero_le _⟩) (fun r10 H locs er10 hw => ?_)
      have hp := cs_bdP er10 hp
      have hf := cs_bdE er10 hf
      refine lv_iconst (v := 4) hx hb d_Ma_awaited_48 (by decide) ?_
      refine lv_icmp_lt (tgt := 67) hx hb d_Ma_awaited_49 (by decide) (fun c11 => ?_) (fun c11 => ?_)
      · have hp := hp.1 c11
        have hf := hf.trans (if_pos c11)
        refine lv_iconst (v := (-1)) hx hb d_Ma_awaited_67 (by decide) ?_
        exact cs_iret hC hw hr hlk (congrArg (fun z => (z, M)) hf) d_Ma_awaited_68
      · have hp := hp.2 c11
        have hf := hf.trans (if_neg c11)
        refine lv_aload_n hx hb d_Ma_awaited_52 rfl (lv_at hl 2 rfl) ?_
        refine lv_iload_n hx hb d_Ma_awaited_53 rfl (lv_at hl 0 rfl) ?_
        have o12 := hp.1
        have hp := hp.2
        refine cs_ret_p hC hw (cs_runV (As := [.int r7]) (rest := []) hC hw hj.2 (ci := 3) rfl rfl (cs_sg_is hj) (c_Ma_stateOf l D cA ad M j hj r7 o12 _) rfl rfl cw_Ma_67 ⟨Nat.le_of_ble_eq_true rfl, Nat.le_of_ble_eq_true rfl⟩ hl.1 rfl rfl (Nat.le_of_ble_eq_true rfl) d_Ma_awaited_54 ⟨Nat.zero_le _, Nat.zero_le _⟩) (fun r13 H locs er13 hw => ?_)
        have hf := cs_bdE er13 hf
        refine lv_iconst (v := 4) hx hb d_Ma_awaited_57 (by decide) ?_
        refine lv_iload_n hx hb d_Ma_awaited_58 rfl (lv_at hl 3 rfl) ?_
        refine lv_iadd hx hb d_Ma_awaited_59 ?_
        refine lv_icmp_eq (tgt := 67) hx hb d_Ma_awaited_60 (by decide) (fun c14 => ?_) (fun c14 => ?_)
        · have hf := hf.trans (if_pos c14)
          refine lv_iconst (v := (-1)) hx hb d_Ma_awaited_67 (by decide) ?_
          exact cs_iret hC hw hr hlk (congrArg (fun z => (z, M)) hf) d_Ma_awaited_68
        · have hf := hf.trans (if_neg c14)
          refine lv_iload_n hx hb d_Ma_awaited_63 rfl (lv_at hl 0 rfl) ?_
          refine lv_goto (tgt := 68) hx hb d_Ma_awaited_64 (by decide) ?_
          exact cs_iret hC hw hr hlk (congrArg (fun z => (z, M)) hf) d_Ma_awaited_68
  · have hp := hp.2 c2
    have hf := hf.trans (if_neg c2)
    refine lv_iconst (v := (-1)) hx hb d_Ma_awaited_12 (by decide) ?_
    exact cs_iret hC hw hr hlk (congrArg (fun z => (z, M)) hf) d_Ma_awaited_13
theorem d_Ma_dropTop_0 : decode prog_4_method_22_code 0 = .ok (.aload_n 0, 1) := by decide +kernel
theorem d_Ma_dropTop_1 : decode prog_4_method_22_code 1 = .ok (.iload_n 1, 1) := by decide +kernel
theorem d_Ma_dropTop_2 : decode prog_4_method_22_code 2 = .ok (.invokevirtual 47, 3) := by decide +kernel
theorem d_Ma_dropTop_5 : decode prog_4_method_22_code 5 = .ok (.istore_n 3, 1) := by decide +kernel
theorem d_Ma_dropTop_6 : decode prog_4_method_22_code 6 = .ok (.iload_n 3, 1) := by decide +kernel
theorem d_Ma_dropTop_7 : decode prog_4_method_22_code 7 = .ok (.bipush 8, 2) := by decide +kernel
theorem d_Ma_dropTop_9 : decode prog_4_method_22_code 9 = .ok (.if_icmp .ge 30, 3) := by decide +kernel
theorem d_Ma_dropTop_12 : decode prog_4_method_22_code 12 = .ok (.aload_n 0, 1) := by decide +kernel
theorem d_Ma_dropTop_13 : decode prog_4_method_22_code 13 = .ok (.getfield 11, 3) := by decide +kernel
theorem d_Ma_dropTop_16 : decode prog_4_method_22_code 16 = .ok (.iconst 0, 1) := by decide +kernel
theorem d_Ma_dropTop_17 : decode prog_4_method_22_code 17 = .ok (.iload_n 3, 1) := by decide +kernel
theorem d_Ma_dropTop_18 : decode prog_4_method_22_code 18 = .ok (.iadd, 1) := by decide +kernel
theorem d_Ma_dropTop_19 : decode prog_4_method_22_code 19 = .ok (.iload_n 2, 1) := by decide +kernel
theorem d_Ma_dropTop_20 : decode prog_4_method_22_code 20 = .ok (.iastore, 1) := by decide +kernel
theorem d_Ma_dropTop_21 : decode prog_4_method_22_code 21 = .ok (.aload_n 0, 1) := by decide +kernel
theorem d_Ma_dropTop_22 : decode prog_4_method_22_code 22 = .ok (.getfield 11, 3) := by decide +kernel
theorem d_Ma_dropTop_25 : decode prog_4_method_22_code 25 = .ok (.bipush 35, 2) := by decide +kernel
theorem d_Ma_dropTop_27 : decode prog_4_method_22_code 27 = .ok (.iload_n 1, 1) := by decide +kernel
theorem d_Ma_dropTop_28 : decode prog_4_method_22_code 28 = .ok (.iadd, 1) := by decide +kernel
theorem d_Ma_dropTop_29 : decode prog_4_method_22_code 29 = .ok (.aload_n 0, 1) := by decide +kernel
theorem d_Ma_dropTop_30 : decode prog_4_method_22_code 30 = .ok (.getfield 11, 3) := by decide +kernel
theorem d_Ma_dropTop_33 : decode prog_4_method_22_code 33 = .ok (.bipush 16, 2) := by decide +kernel
theorem d_Ma_dropTop_35 : decode prog_4_method_22_code 35 = .ok (.iload_n 3, 1) := by decide +kernel
theorem d_Ma_dropTop_36 : decode prog_4_method_22_code 36 = .ok (.iadd, 1) := by decide +kernel
theorem d_Ma_dropTop_37 : decode prog_4_method_22_code 37 = .ok (.iaload, 1) := by decide +kernel
theorem d_Ma_dropTop_38 : decode prog_4_method_22_code 38 = .ok (.iastore, 1) := by decide +kernel
theorem d_Ma_dropTop_39 : decode prog_4_method_22_code 39 = .ok (.return_, 1) := by decide +kernel
def f_Ma_dropTop (M : cs_Mem) (j : Nat) (x1 : Int32) (x2 : Int32) : cs_Mem :=
  cs_bd (f_Ma_topFrame M j x1) fun (r2 : Int32) =>
  if 8 ≤ r2 then
    M
  else
    cs_bd (cs_up M (j + 1) (upd (M (j + 1)) (0 + r2).toNatClampNeg x2)) fun (N5 : cs_Mem) =>
    cs_bd (cs_up N5 (j + 1) (upd (N5 (j + 1)) (35 + x1).toNatClampNeg (N5 (j + 1) (16 + r2).toNatClampNeg))) fun (N8 : cs_Mem) =>
    N8
def pre_Ma_dropTop (M : cs_Mem) (j : Nat) (x1 : Int32) (x2 : Int32) : Prop :=
  (pre_Ma_topFrame M j x1) ∧
  cs_bd (f_Ma_topFrame M j x1) fun (r2 : Int32) =>
  (8 ≤ r2 →
    True
  ) ∧ (¬ (8 ≤ r2) →
    (vp_in (0 + r2) (cs_ln M (j + 1))) ∧
    cs_bd (cs_up M (j + 1) (upd (M (j + 1)) (0 + r2).toNatClampNeg x2)) fun (N5 : cs_Mem) =>
    (vp_in (16 + r2) (cs_ln N5 (j + 1))) ∧
    (vp_in (35 + x1) (cs_ln N5 (j + 1))) ∧
    True
  )
set_option maxHeartbeats 4000000 in
set_option maxRecDepth 100000 in
theorem c_Ma_dropTop (l : Launch) (D : va_G) (cA : Nat → ClassId) (ad : Nat → Nat) (M : cs_Mem) (j : Nat) (hj : cs_is 3 j) (x1 : Int32) (x2 : Int32) (hp : pre_Ma_dropTop M j x1 x2) : cs_Cv l ⟨"ClassStarter$Machine", "dropTop", "(II)V"⟩ prog_4_method_22_code 4 none ({ frames := 1, cells := 0, slots := 0, locals := 21 }) D cA ad M [.ref (ad j), .int x1, .int x2] (f_Ma_dropTop M j x1 x2) := by
  refine cs_entry (by decide) (Nat.le_of_ble_eq_true rfl) (fun p e s m below meth c A ls hC hr hlk _ hw hl => ?_)
  have hx := hC.1
  have hb := hC.2.1
  have hl : lv_has ls 4 [(0, .ref (ad j)), (1, .int x1), (2, .int x2)] := hl
  generalize hF : f_Ma_dropTop M j x1 x2 = F
  have hf := hF.symm
  unfold f_Ma_dropTop at hf
  unfold pre_Ma_dropTop at hp
  refine lv_aload_n hx hb d_Ma_dropTop_0 rfl (lv_at hl 0 rfl) ?_
  refine lv_iload_n hx hb d_Ma_dropTop_1 rfl (lv_at hl 1 rfl) ?_
  have o1 := hp.1
  have hp := hp.2
  refine cs_ret_p hC hw (cs_runV (As := [.int x1]) (rest := []) hC hw hj.2 (ci := 3) rfl rfl (cs_sg_is hj) (c_Ma_topFrame l D cA ad M j hj x1 o1 _) rfl rfl cw_Ma_47 ⟨Nat.le_of_ble_eq_true rfl, Nat.le_of_ble_eq_true rfl⟩ hl.1 rfl rfl (Nat.le_of_ble_eq_true rfl) d_Ma_dropTop_2 ⟨Nat.zero_le _, Nat.zero_le _⟩) (fun r2 H locs er2 hw => ?_)
  have hp := cs_bdP er2 hp
  have hf := cs_bdE er2 hf
  refine lv_istore_n (lv' := [(3, .int r2), (0, .ref (ad j)), (1, .int x1), (2, .int x2)]) hx hb d_Ma_dropTop_5 rfl hl (by decide) rfl (fun ls hl => ?_)
  refine lv_iload_n hx hb d_Ma_dropTop_6 rfl (lv_at hl 0 rfl) ?_
  refine lv_bipush (v := 8) hx hb d_Ma_dropTop_7 (by decide) ?_
  refine lv_icmp_ge (tgt := 39) hx hb d_Ma_dropTop_9 (by decide) (fun c3 => ?_) (fun c3 => ?_)
  · have hp := hp.1 c3
    have hf := hf.trans (if_pos c3)
    exact cs_vret hC hw hr hlk hf d_Ma_dropTop_39
  · have hp := hp.2 c3
    have hf := hf.trans (if_neg c3)
    refine lv_aload_n hx hb d_Ma_dropTop_12 rfl (lv_at hl 1 rfl) ?_
    refine gf_Ma_cells hC hw hj wd_131 d_Ma_dropTop_13 ?_
    refine lv_iconst (v := 0) hx hb d_Ma_dropTop_16 (by decide) ?_
    refine lv_iload_n hx hb d_Ma_dropTop_17 rfl (lv_at hl 0 rfl) ?_
    refine lv_iadd hx hb d_Ma_dropTop_18 ?_
    refine lv_iload_n hx hb d_Ma_dropTop_19 rfl (lv_at hl 3 rfl) ?_
    have o4 := hp.1
    have hp := hp.2
    refine cs_iast hC hw (is_Ma1 hj) o4 d_Ma_dropTop_20 (fun N5 H locs eN5 hw => ?_)
    have hp := cs_bdP eN5 hp
    have hf := cs_bdE eN5 hf
    refine lv_aload_n hx hb d_Ma_dropTop_21 rfl (lv_at hl 1 rfl) ?_
    refine gf_Ma_cells hC hw hj wd_131 d_Ma_dropTop_22 ?_
    refine lv_bipush (v := 35) hx hb d_Ma_dropTop_25 (by decide) ?_
    refine lv_iload_n hx hb d_Ma_dropTop_27 rfl (lv_at hl 2 rfl) ?_
    refine lv_iadd hx hb d_Ma_dropTop_28 ?_
    refine lv_aload_n hx hb d_Ma_dropTop_29 rfl (lv_at hl 1 rfl) ?_
    refine gf_Ma_cells hC hw hj wd_131 d_Ma_dropTop_30 ?_
    refine lv_bipush (v := 16) hx hb d_Ma_dropTop_33 (by decide) ?_
    refine lv_iload_n hx hb d_Ma_dropTop_35 rfl (lv_at hl 0 rfl) ?_
    refine lv_iadd hx hb d_Ma_dropTop_36 ?_
    have o6 := hp.1
    have hp := hp.2
    refine cs_iald hC hw (is_Ma1 hj) o6 d_Ma_dropTop_37 ?_
    have o7 := hp.1
    have hp := hp.2
    refine cs_iast hC hw (is_Ma1 hj) o7 d_Ma_dropTop_38 (fun N8 H locs eN8 hw => ?_)
    have hf := cs_bdE eN8 hf
    exact cs_vret hC hw hr hlk hf d_Ma_dropTop_39
theorem d_Ma_write_0 : decode prog_4_method_28_code 0 = .ok (.aload_n 0, 1) := by decide +kernel
theorem d_Ma_write_1 : decode prog_4_method_28_code 1 = .ok (.getfield 11, 3) := by decide +kernel
theorem d_Ma_write_4 : decode prog_4_method_28_code 4 = .ok (.bipush 42, 2) := by decide +kernel
theorem d_Ma_write_6 : decode prog_4_method_28_code 6 = .ok (.iaload, 1) := by decide +kernel
theorem d_Ma_write_7 : decode prog_4_method_28_code 7 = .ok (.aload_n 0, 1) := by decide +kernel
theorem d_Ma_write_8 : decode prog_4_method_28_code 8 = .ok (.getfield 15, 3) := by decide +kernel
theorem d_Ma_write_11 : decode prog_4_method_28_code 11 = .ok (.arraylength, 1) := by decide +kernel
theorem d_Ma_write_12 : decode prog_4_method_28_code 12 = .ok (.if_icmp .ge 27, 3) := by decide +kernel
theorem d_Ma_write_15 : decode prog_4_method_28_code 15 = .ok (.aload_n 0, 1) := by decide +kernel
theorem d_Ma_write_16 : decode prog_4_method_28_code 16 = .ok (.getfield 15, 3) := by decide +kernel
theorem d_Ma_write_19 : decode prog_4_method_28_code 19 = .ok (.aload_n 0, 1) := by decide +kernel
theorem d_Ma_write_20 : decode prog_4_method_28_code 20 = .ok (.getfield 11, 3) := by decide +kernel
theorem d_Ma_write_23 : decode prog_4_method_28_code 23 = .ok (.bipush 42, 2) := by decide +kernel
theorem d_Ma_write_25 : decode prog_4_method_28_code 25 = .ok (.iaload, 1) := by decide +kernel
theorem d_Ma_write_26 : decode prog_4_method_28_code 26 = .ok (.iload_n 1, 1) := by decide +kernel
theorem d_Ma_write_27 : decode prog_4_method_28_code 27 = .ok (.iastore, 1) := by decide +kernel
theorem d_Ma_write_28 : decode prog_4_method_28_code 28 = .ok (.aload_n 0, 1) := by decide +kernel
theorem d_Ma_write_29 : decode prog_4_method_28_code 29 = .ok (.getfield 11, 3) := by decide +kernel
theorem d_Ma_write_32 : decode prog_4_method_28_code 32 = .ok (.bipush 42, 2) := by decide +kernel
theorem d_Ma_write_34 : decode prog_4_method_28_code 34 = .ok (.dup2, 1) := by decide +kernel
theorem d_Ma_write_35 : decode prog_4_method_28_code 35 = .ok (.iaload, 1) := by decide +kernel
theorem d_Ma_write_36 : decode prog_4_method_28_code 36 = .ok (.iconst 1, 1) := by decide +kernel
theorem d_Ma_write_37 : decode prog_4_method_28_code 37 = .ok (.iadd, 1) := by decide +kernel
theorem d_Ma_write_38 : decode prog_4_method_28_code 38 = .ok (.iastore, 1) := by decide +kernel
theorem d_Ma_write_39 : decode prog_4_method_28_code 39 = .ok (.return_, 1) := by decide +kernel
def f_Ma_write (M : cs_Mem) (j : Nat) (x1 : Int32) : cs_Mem :=
  if (nI (cs_ln M (j + 2))) ≤ (M (j + 1) 42) then
    M
  else
    cs_bd (cs_up M (j + 2) (upd (M (j + 2)) (M (j + 1) 42).toNatClampNeg x1)) fun (N5 : cs_Mem) =>
    cs_bd (cs_up N5 (j + 1) (upd (N5 (j + 1)) 42 ((N5 (j + 1) 42) + 1))) fun (N8 : cs_Mem) =>
    N8
def pre_Ma_write (M : cs_Mem) (j : Nat) (x1 : Int32) : Prop :=
  (vp_in 42 (cs_ln M (j + 1))) ∧
  ((nI (cs_ln M (j + 2))) ≤ (M (j + 1) 42) →
    True
  ) ∧ (¬ ((nI (cs_ln M (j + 2))) ≤ (M (j + 1) 42)) →
    (vp_in 42 (cs_ln M (j + 1))) ∧
    (vp_in (M (j + 1) 42) (cs_ln M (j + 2))) ∧
    cs_bd (cs_up M (j + 2) (upd (M (j + 2)) (M (j + 1) 42).toNatClampNeg x1)) fun (N5 : cs_Mem) =>
    (vp_in 42 (cs_ln N5 (j + 1))) ∧
    (vp_in 42 (cs_ln N5 (j + 1))) ∧
    True
  )
set_option maxHeartbeats 4000000 in
set_option maxRecDepth 100000 in
theorem c_Ma_write (l : Launch) (D : va_G) (cA : Nat → ClassId) (ad : Nat → Nat) (M : cs_Mem) (j : Nat) (hj : cs_is 3 j) (x1 : Int32) (hp : pre_Ma_write M j x1) : cs_Cv l ⟨"ClassStarter$Machine", "write", "(I)V"⟩ prog_4_method_28_code 2 none ({ frames := 0, cells := 0, slots := 0, locals := 0 }) D cA ad M [.ref (ad j), .int x1] (f_Ma_write M j x1) := by
  refine cs_entry (by decide) (Nat.le_of_ble_eq_true rfl) (fun p e s m below meth c A ls hC hr hlk _ hw hl => ?_)
  have hx := hC.1
  have hb := hC.2.1
  have hl : lv_has ls 2 [(0, .ref (ad j)), (1, .int x1)] := hl
  generalize hF : f_Ma_write M j x1 = F
  have hf := hF.symm
  unfold f_Ma_write at hf
  unfold pre_Ma_write at hp
  refine lv_aload_n hx hb d_Ma_write_0 rfl (lv_at hl 0 rfl) ?_
  refine gf_Ma_cells hC hw hj wd_131 d_Ma_write_1 ?_
  refine lv_bipush (v := 42) hx hb d_Ma_write_4 (by decide) ?_
  have o1 := hp.1
  have hp := hp.2
  refine cs_iald hC hw (is_Ma1 hj) o1 d_Ma_write_6 ?_
  refine lv_aload_n hx hb d_Ma_write_7 rfl (lv_at hl 0 rfl) ?_
  refine gf_Ma_log hC hw hj wd_132 d_Ma_write_8 ?_
  refine cs_ialen hC hw (is_Ma2 hj) d_Ma_write_11 ?_
  refine lv_icmp_ge (tgt := 39) hx hb d_Ma_write_12 (by decide) (fun c2 => ?_) (fun c2 => ?_)
  · have hp := hp.1 c2
    have hf := hf.trans (if_pos c2)
    exact cs_vret hC hw hr hlk hf d_Ma_write_39
  · have hp := hp.2 c2
    have hf := hf.trans (if_neg c2)
    refine lv_aload_n hx hb d_Ma_write_15 rfl (lv_at hl 0 rfl) ?_
    refine gf_Ma_log hC hw hj wd_132 d_Ma_write_16 ?_
    refine lv_aload_n hx hb d_Ma_write_19 rfl (lv_at hl 0 rfl) ?_
    refine gf_Ma_cells hC hw hj wd_131 d_Ma_write_20 ?_
    refine lv_bipush (v := 42) hx hb d_Ma_write_23 (by decide) ?_
    have o3 := hp.1
    have hp := hp.2
    refine cs_iald hC hw (is_Ma1 hj) o3 d_Ma_write_25 ?_
    refine lv_iload_n hx hb d_Ma_write_26 rfl (lv_at hl 1 rfl) ?_
    have o4 := hp.1
    have hp := hp.2
    refine cs_iast hC hw (is_Ma2 hj) o4 d_Ma_write_27 (fun N5 H locs eN5 hw => ?_)
    have hp := cs_bdP eN5 hp
    have hf := cs_bdE eN5 hf
    refine lv_aload_n hx hb d_Ma_write_28 rfl (lv_at hl 0 rfl) ?_
    refine gf_Ma_cells hC hw hj wd_131 d_Ma_write_29 ?_
    refine lv_bipush (v := 42) hx hb d_Ma_write_32 (by decide) ?_
    refine lv_dup2_11 hx hb d_Ma_write_34 rfl rfl ?_
    have o6 := hp.1
    have hp := hp.2
    refine cs_iald hC hw (is_Ma1 hj) o6 d_Ma_write_35 ?_
    refine lv_iconst (v := 1) hx hb d_Ma_write_36 (by decide) ?_
    refine lv_iadd hx hb d_Ma_write_37 ?_
    have o7 := hp.1
    have hp := hp.2
    refine cs_iast hC hw (is_Ma1 hj) o7 d_Ma_write_38 (fun N8 H locs eN8 hw => ?_)
    have hf := cs_bdE eN8 hf
    exact cs_vret hC hw hr hlk hf d_Ma_write_39
theorem d_Ma_come_0 : decode prog_4_method_27_code 0 = .ok (.aload_n 0, 1) := by decide +kernel
theorem d_Ma_come_1 : decode prog_4_method_27_code 1 = .ok (.iload_n 1, 1) := by decide +kernel
theorem d_Ma_come_2 : decode prog_4_method_27_code 2 = .ok (.invokevirtual 47, 3) := by decide +kernel
theorem d_Ma_come_5 : decode prog_4_method_27_code 5 = .ok (.istore_n 3, 1) := by decide +kernel
theorem d_Ma_come_6 : decode prog_4_method_27_code 6 = .ok (.aload_n 0, 1) := by decide +kernel
theorem d_Ma_come_7 : decode prog_4_method_27_code 7 = .ok (.getfield 18, 3) := by decide +kernel
theorem d_Ma_come_10 : decode prog_4_method_27_code 10 = .ok (.iload_n 3, 1) := by decide +kernel
theorem d_Ma_come_11 : decode prog_4_method_27_code 11 = .ok (.invokevirtual 53, 3) := by decide +kernel
theorem d_Ma_come_14 : decode prog_4_method_27_code 14 = .ok (.aload_n 0, 1) := by decide +kernel
theorem d_Ma_come_15 : decode prog_4_method_27_code 15 = .ok (.getfield 11, 3) := by decide +kernel
theorem d_Ma_come_18 : decode prog_4_method_27_code 18 = .ok (.bipush 24, 2) := by decide +kernel
theorem d_Ma_come_20 : decode prog_4_method_27_code 20 = .ok (.iload_n 3, 1) := by decide +kernel
theorem d_Ma_come_21 : decode prog_4_method_27_code 21 = .ok (.iadd, 1) := by decide +kernel
theorem d_Ma_come_22 : decode prog_4_method_27_code 22 = .ok (.iaload, 1) := by decide +kernel
theorem d_Ma_come_23 : decode prog_4_method_27_code 23 = .ok (.invokevirtual 131, 3) := by decide +kernel
theorem d_Ma_come_26 : decode prog_4_method_27_code 26 = .ok (.ifCond .eq 27, 3) := by decide +kernel
theorem d_Ma_come_29 : decode prog_4_method_27_code 29 = .ok (.aload_n 0, 1) := by decide +kernel
theorem d_Ma_come_30 : decode prog_4_method_27_code 30 = .ok (.iload_n 2, 1) := by decide +kernel
theorem d_Ma_come_31 : decode prog_4_method_27_code 31 = .ok (.invokestatic 134, 3) := by decide +kernel
theorem d_Ma_come_34 : decode prog_4_method_27_code 34 = .ok (.invokevirtual 128, 3) := by decide +kernel
theorem d_Ma_come_37 : decode prog_4_method_27_code 37 = .ok (.aload_n 0, 1) := by decide +kernel
theorem d_Ma_come_38 : decode prog_4_method_27_code 38 = .ok (.getfield 11, 3) := by decide +kernel
theorem d_Ma_come_41 : decode prog_4_method_27_code 41 = .ok (.bipush 24, 2) := by decide +kernel
theorem d_Ma_come_43 : decode prog_4_method_27_code 43 = .ok (.iload_n 3, 1) := by decide +kernel
theorem d_Ma_come_44 : decode prog_4_method_27_code 44 = .ok (.iadd, 1) := by decide +kernel
theorem d_Ma_come_45 : decode prog_4_method_27_code 45 = .ok (.dup2, 1) := by decide +kernel
theorem d_Ma_come_46 : decode prog_4_method_27_code 46 = .ok (.iaload, 1) := by decide +kernel
theorem d_Ma_come_47 : decode prog_4_method_27_code 47 = .ok (.iconst 1, 1) := by decide +kernel
theorem d_Ma_come_48 : decode prog_4_method_27_code 48 = .ok (.iadd, 1) := by decide +kernel
theorem d_Ma_come_49 : decode prog_4_method_27_code 49 = .ok (.iastore, 1) := by decide +kernel
theorem d_Ma_come_50 : decode prog_4_method_27_code 50 = .ok (.goto 13, 3) := by decide +kernel
theorem d_Ma_come_53 : decode prog_4_method_27_code 53 = .ok (.aload_n 0, 1) := by decide +kernel
theorem d_Ma_come_54 : decode prog_4_method_27_code 54 = .ok (.getfield 11, 3) := by decide +kernel
theorem d_Ma_come_57 : decode prog_4_method_27_code 57 = .ok (.bipush 38, 2) := by decide +kernel
theorem d_Ma_come_59 : decode prog_4_method_27_code 59 = .ok (.iload_n 1, 1) := by decide +kernel
theorem d_Ma_come_60 : decode prog_4_method_27_code 60 = .ok (.iadd, 1) := by decide +kernel
theorem d_Ma_come_61 : decode prog_4_method_27_code 61 = .ok (.iload_n 2, 1) := by decide +kernel
theorem d_Ma_come_62 : decode prog_4_method_27_code 62 = .ok (.iastore, 1) := by decide +kernel
theorem d_Ma_come_63 : decode prog_4_method_27_code 63 = .ok (.return_, 1) := by decide +kernel
def f_Ma_come (M : cs_Mem) (j : Nat) (x1 : Int32) (x2 : Int32) : cs_Mem :=
  cs_bd (f_Ma_topFrame M j x1) fun (r2 : Int32) =>
  cs_bd (f_Pr_script M 1 r2) fun (r4 : Nat) =>
  cs_bd (f_Sc_isGuarded M r4 (M (j + 1) (24 + r2).toNatClampNeg)) fun (r7 : Int32) =>
  if r7 = 0 then
    cs_bd (cs_up M (j + 1) (upd (M (j + 1)) (38 + x1).toNatClampNeg x2)) fun (N10 : cs_Mem) =>
    N10
  else
    cs_bd (f_Fa_number M x2) fun (r11 : Int32) =>
    cs_bd (f_Ma_write M j r11) fun (u13 : cs_Mem) =>
    cs_bd (cs_up u13 (j + 1) (upd (u13 (j + 1)) (24 + r2).toNatClampNeg ((u13 (j + 1) (24 + r2).toNatClampNeg) + 1))) fun (N16 : cs_Mem) =>
    N16
def pre_Ma_come (M : cs_Mem) (j : Nat) (x1 : Int32) (x2 : Int32) : Prop :=
  (pre_Ma_topFrame M j x1) ∧
  cs_bd (f_Ma_topFrame M j x1) fun (r2 : Int32) =>
  (pre_Pr_script M 1 r2) ∧
  cs_bd (f_Pr_script M 1 r2) fun (r4 : Nat) =>
  (vp_in (24 + r2) (cs_ln M (j + 1))) ∧
  (pre_Sc_isGuarded M r4 (M (j + 1) (24 + r2).toNatClampNeg)) ∧
  cs_bd (f_Sc_isGuarded M r4 (M (j + 1) (24 + r2).toNatClampNeg)) fun (r7 : Int32) =>
  (r7 = 0 →
    (vp_in (38 + x1) (cs_ln M (j + 1))) ∧
    True
  ) ∧ (¬ (r7 = 0) →
    cs_bd (f_Fa_number M x2) fun (r11 : Int32) =>
    (pre_Ma_write M j r11) ∧
    cs_bd (f_Ma_write M j r11) fun (u13 : cs_Mem) =>
    (vp_in (24 + r2) (cs_ln u13 (j + 1))) ∧
    (vp_in (24 + r2) (cs_ln u13 (j + 1))) ∧
    True
  )
set_option maxHeartbeats 4000000 in
set_option maxRecDepth 100000 in
theorem c_Ma_come (l : Launch) (D : va_G) (cA : Nat → ClassId) (ad : Nat → Nat) (M : cs_Mem) (j : Nat) (hj : cs_is 3 j) (x1 : Int32) (x2 : Int32) (hp : pre_Ma_come M j x1 x2) : cs_Cv l ⟨"ClassStarter$Machine", "come", "(II)V"⟩ prog_4_method_27_code 4 none ({ frames := 2, cells := 0, slots := 0, locals := 40 }) D cA ad M [.ref (ad j), .int x1, .int x2] (f_Ma_come M j x1 x2) := by
  refine cs_entry (by decide) (Nat.le_of_ble_eq_true rfl) (fun p e s m below meth c A ls hC hr hlk _ hw hl => ?_)
  have hx := hC.1
  have hb := hC.2.1
  have hl : lv_has ls 4 [(0, .ref (ad j)), (1, .int x1), (2, .int x2)] := hl
  generalize hF : f_Ma_come M j x1 x2 = F
  have hf := hF.symm
  unfold f_Ma_come at hf
  unfold pre_Ma_come at hp
  refine lv_aload_n hx hb d_Ma_come_0 rfl (lv_at hl 0 rfl) ?_
  refine lv_iload_n hx hb d_Ma_come_1 rfl (lv_at hl 1 rfl) ?_
  have o1 := hp.1
  have hp := hp.2
  refine cs_ret_p hC hw (cs_runV (As := [.int x1]) (rest := []) hC hw hj.2 (ci := 3) rfl rfl (cs_sg_is hj) (c_Ma_topFrame l D cA ad M j hj x1 o1 _) rfl rfl cw_Ma_47 ⟨Nat.le_of_ble_eq_true rfl, Nat.le_of_ble_eq_true rfl⟩ hl.1 rfl rfl (Nat.le_of_ble_eq_true rfl) d_Ma_come_2 ⟨Nat.zero_le _, Nat.zero_le _⟩) (fun r2 H locs er2 hw => ?_)
  have hp := cs_bdP er2 hp
  have hf := cs_bdE er2 hf
  refine lv_istore_n (lv' := [(3, .int r2), (0, .ref (ad j)), (1, .int x1), (2, .int x2)]) hx hb d_Ma_come_5 rfl hl (by decide) rfl (fun ls hl => ?_)
  refine lv_aload_n hx hb d_Ma_come_6 rfl (lv_at hl 1 rfl) ?_
  refine gf_Ma_program hC hw hj wd_130 d_Ma_come_7 ?_
  refine lv_iload_n hx hb d_Ma_come_10 rfl (lv_at hl 0 rfl) ?_
  have o3 := hp.1
  have hp := hp.2
  refine cs_ret_rp hC hw (cs_runV (As := [.int r2]) (rest := []) hC hw is_1.2 (ci := 1) rfl rfl (cs_sg_is is_1) (c_Pr_script l D cA ad M 1 is_1 r2 o3 _) rfl rfl cw_Ma_53 ⟨Nat.le_of_ble_eq_true rfl, Nat.le_of_ble_eq_true rfl⟩ hl.1 rfl rfl (Nat.le_of_ble_eq_true rfl) d_Ma_come_11 ⟨Nat.zero_le _, Nat.zero_le _⟩) (fun r4 H locs er4 hw => ?_)
  have hp := cs_bdP er4 hp
  have hf := cs_bdE er4 hf
  refine lv_aload_n hx hb d_Ma_come_14 rfl (lv_at hl 1 rfl) ?_
  refine gf_Ma_cells hC hw hj wd_131 d_Ma_come_15 ?_
  refine lv_bipush (v := 24) hx hb d_Ma_come_18 (by decide) ?_
  refine lv_iload_n hx hb d_Ma_come_20 rfl (lv_at hl 0 rfl) ?_
  refine lv_iadd hx hb d_Ma_come_21 ?_
  have o5 := hp.1
  have hp := hp.2
  refine cs_iald hC hw (is_Ma1 hj) o5 d_Ma_come_22 ?_
  have o6 := hp.1
  have hp := hp.2
  refine cs_ret_p hC hw (cs_runV (As := [.int (M (j + 1) (24 + r2).toNatClampNeg)]) (rest := []) hC hw (is_script er4 o3).2 (ci := 2) rfl rfl (cs_sg_is (is_script er4 o3)) (c_Sc_isGuarded l D cA ad M r4 (is_script er4 o3) (M (j + 1) (24 + r2).toNatClampNeg) o6 _) rfl rfl cw_Ma_131 ⟨Nat.le_of_ble_eq_true rfl, Nat.le_of_ble_eq_true rfl⟩ hl.1 rfl rfl (Nat.le_of_ble_eq_true rfl) d_Ma_come_23 ⟨Nat.zero_le _, Nat.zero_le _⟩) (fun r7 H locs er7 hw => ?_)
  have hp := cs_bdP er7 hp
  have hf := cs_bdE er7 hf
  refine lv_if_eq (tgt := 53) hx hb d_Ma_come_26 (by decide) (fun c8 => ?_) (fun c8 => ?_)
  · have hp := hp.1 c8
    have hf := hf.trans (if_pos c8)
    refine lv_aload_n hx hb d_Ma_come_53 rfl (lv_at hl 1 rfl) ?_
    refine gf_Ma_cells hC hw hj wd_131 d_Ma_come_54 ?_
    refine lv_bipush (v := 38) hx hb d_Ma_come_57 (by decide) ?_
    refine lv_iload_n hx hb d_Ma_come_59 rfl (lv_at hl 2 rfl) ?_
    refine lv_iadd hx hb d_Ma_come_60 ?_
    refine lv_iload_n hx hb d_Ma_come_61 rfl (lv_at hl 3 rfl) ?_
    have o9 := hp.1
    have hp := hp.2
    refine cs_iast hC hw (is_Ma1 hj) o9 d_Ma_come_62 (fun N10 H locs eN10 hw => ?_)
    have hf := cs_bdE eN10 hf
    exact cs_vret hC hw hr hlk hf d_Ma_come_63
  · have hp := hp.2 c8
    have hf := hf.trans (if_neg c8)
    refine lv_aload_n hx hb d_Ma_come_29 rfl (lv_at hl 1 rfl) ?_
    refine lv_iload_n hx hb d_Ma_come_30 rfl (lv_at hl 3 rfl) ?_
    refine cs_ret_p hC hw (cs_runS (As := [.int x2]) (rest := [.ref (ad j)]) hC hw (c_Fa_number l D cA ad M x2 _) rfl rfl cw_Ma_134 ⟨Nat.le_of_ble_eq_true rfl, Nat.le_of_ble_eq_true rfl⟩ hl.1 rfl rfl (Nat.le_of_ble_eq_true rfl) d_Ma_come_31 ⟨Nat.zero_le _, Nat.zero_le _⟩) (fun r11 H locs er11 hw => ?_)
    have hp := cs_bdP er11 hp
    have hf := cs_bdE er11 hf
    have o12 := hp.1
    have hp := hp.2
    refine cs_ret_v hC hw (cs_runV (As := [.int r11]) (rest := []) hC hw hj.2 (ci := 3) rfl rfl (cs_sg_is hj) (c_Ma_write l D cA ad M j hj r11 o12 _) rfl rfl cw_Ma_128 ⟨Nat.le_of_ble_eq_true rfl, Nat.le_of_ble_eq_true rfl⟩ hl.1 rfl rfl (Nat.le_of_ble_eq_true rfl) d_Ma_come_34 ⟨Nat.zero_le _, Nat.zero_le _⟩) (fun u13 H locs eu13 hw => ?_)
    have hp := cs_bdP eu13 hp
    have hf := cs_bdE eu13 hf
    refine lv_aload_n hx hb d_Ma_come_37 rfl (lv_at hl 1 rfl) ?_
    refine gf_Ma_cells hC hw hj wd_131 d_Ma_come_38 ?_
    refine lv_bipush (v := 24) hx hb d_Ma_come_41 (by decide) ?_
    refine lv_iload_n hx hb d_Ma_come_43 rfl (lv_at hl 0 rfl) ?_
    refine lv_iadd hx hb d_Ma_come_44 ?_
    refine lv_dup2_11 hx hb d_Ma_come_45 rfl rfl ?_
    have o14 := hp.1
    have hp := hp.2
    refine cs_iald hC hw (is_Ma1 hj) o14 d_Ma_come_46 ?_
    refine lv_iconst (v := 1) hx hb d_Ma_come_47 (by decide) ?_
    refine lv_iadd hx hb d_Ma_come_48 ?_
    have o15 := hp.1
    have hp := hp.2
    refine cs_iast hC hw (is_Ma1 hj) o15 d_Ma_come_49 (fun N16 H locs eN16 hw => ?_)
    have hf := cs_bdE eN16 hf
    refine lv_goto (tgt := 63) hx hb d_Ma_come_50 (by decide) ?_
    exact cs_vret hC hw hr hlk hf d_Ma_come_63
theorem d_Ma_failTop_0 : decode prog_4_method_20_code 0 = .ok (.aload_n 0, 1) := by decide +kernel
theorem d_Ma_failTop_1 : decode prog_4_method_20_code 1 = .ok (.getfield 11, 3) := by decide +kernel
theorem d_Ma_failTop_4 : decode prog_4_method_20_code 4 = .ok (.bipush 38, 2) := by decide +kernel
theorem d_Ma_failTop_6 : decode prog_4_method_20_code 6 = .ok (.iload_n 1, 1) := by decide +kernel
theorem d_Ma_failTop_7 : decode prog_4_method_20_code 7 = .ok (.iadd, 1) := by decide +kernel
theorem d_Ma_failTop_8 : decode prog_4_method_20_code 8 = .ok (.iaload, 1) := by decide +kernel
theorem d_Ma_failTop_9 : decode prog_4_method_20_code 9 = .ok (.istore_n 2, 1) := by decide +kernel
theorem d_Ma_failTop_10 : decode prog_4_method_20_code 10 = .ok (.aload_n 0, 1) := by decide +kernel
theorem d_Ma_failTop_11 : decode prog_4_method_20_code 11 = .ok (.getfield 11, 3) := by decide +kernel
theorem d_Ma_failTop_14 : decode prog_4_method_20_code 14 = .ok (.bipush 38, 2) := by decide +kernel
theorem d_Ma_failTop_16 : decode prog_4_method_20_code 16 = .ok (.iload_n 1, 1) := by decide +kernel
theorem d_Ma_failTop_17 : decode prog_4_method_20_code 17 = .ok (.iadd, 1) := by decide +kernel
theorem d_Ma_failTop_18 : decode prog_4_method_20_code 18 = .ok (.iconst 0, 1) := by decide +kernel
theorem d_Ma_failTop_19 : decode prog_4_method_20_code 19 = .ok (.iastore, 1) := by decide +kernel
theorem d_Ma_failTop_20 : decode prog_4_method_20_code 20 = .ok (.aload_n 0, 1) := by decide +kernel
theorem d_Ma_failTop_21 : decode prog_4_method_20_code 21 = .ok (.iload_n 1, 1) := by decide +kernel
theorem d_Ma_failTop_22 : decode prog_4_method_20_code 22 = .ok (.iconst 2, 1) := by decide +kernel
theorem d_Ma_failTop_23 : decode prog_4_method_20_code 23 = .ok (.invokevirtual 98, 3) := by decide +kernel
theorem d_Ma_failTop_26 : decode prog_4_method_20_code 26 = .ok (.aload_n 0, 1) := by decide +kernel
theorem d_Ma_failTop_27 : decode prog_4_method_20_code 27 = .ok (.iload_n 1, 1) := by decide +kernel
theorem d_Ma_failTop_28 : decode prog_4_method_20_code 28 = .ok (.iload_n 2, 1) := by decide +kernel
theorem d_Ma_failTop_29 : decode prog_4_method_20_code 29 = .ok (.invokestatic 101, 3) := by decide +kernel
theorem d_Ma_failTop_32 : decode prog_4_method_20_code 32 = .ok (.invokevirtual 104, 3) := by decide +kernel
theorem d_Ma_failTop_35 : decode prog_4_method_20_code 35 = .ok (.return_, 1) := by decide +kernel
def f_Ma_failTop (M : cs_Mem) (j : Nat) (x1 : Int32) : cs_Mem :=
  cs_bd (M (j + 1) (38 + x1).toNatClampNeg) fun (z2 : Int32) =>
  cs_bd (cs_up M (j + 1) (upd (M (j + 1)) (38 + x1).toNatClampNeg 0)) fun (N4 : cs_Mem) =>
  cs_bd (f_Ma_dropTop N4 j x1 2) fun (u6 : cs_Mem) =>
  cs_bd (f_Fa_outside u6 z2) fun (r7 : Int32) =>
  cs_bd (f_Ma_come u6 j x1 r7) fun (u9 : cs_Mem) =>
  u9
def pre_Ma_failTop (M : cs_Mem) (j : Nat) (x1 : Int32) : Prop :=
  (vp_in (38 + x1) (cs_ln M (j + 1))) ∧
  cs_bd (M (j + 1) (38 + x1).toNatClampNeg) fun (z2 : Int32) =>
  (vp_in (38 + x1) (cs_ln M (j + 1))) ∧
  cs_bd (cs_up M (j + 1) (upd (M (j + 1)) (38 + x1).toNatClampNeg 0)) fun (N4 : cs_Mem) =>
  (pre_Ma_dropTop N4 j x1 2) ∧
  cs_bd (f_Ma_dropTop N4 j x1 2) fun (u6 : cs_Mem) =>
  cs_bd (f_Fa_outside u6 z2) fun (r7 : Int32) =>
  (pre_Ma_come u6 j x1 r7) ∧
  True
set_option maxHeartbeats 4000000 in
set_option maxRecDepth 100000 in
theorem c_Ma_failTop (l : Launch) (D : va_G) (cA : Nat → ClassId) (ad : Nat → Nat) (M : cs_Mem) (j : Nat) (hj : cs_is 3 j) (x1 : Int32) (hp : pre_Ma_failTop M j x1) : cs_Cv l ⟨"ClassStarter$Machine", "failTop", "(I)V"⟩ prog_4_method_20_code 3 none ({ frames := 3, cells := 0, slots := 0, locals := 63 }) D cA ad M [.ref (ad j), .int x1] (f_Ma_failTop M j x1) := by
  refine cs_entry (by decide) (Nat.le_of_ble_eq_true rfl) (fun p e s m below meth c A ls hC hr hlk _ hw hl => ?_)
  have hx := hC.1
  have hb := hC.2.1
  have hl : lv_has ls 3 [(0, .ref (ad j)), (1, .int x1)] := hl
  generalize hF : f_Ma_failTop M j x1 = F
  have hf := hF.symm
  unfold f_Ma_failTop at hf
  unfold pre_Ma_failTop at hp
  refine lv_aload_n hx hb d_Ma_failTop_0 rfl (lv_at hl 0 rfl) ?_
  refine gf_Ma_cells hC hw hj wd_131 d_Ma_failTop_1 ?_
  refine lv_bipush (v := 38) hx hb d_Ma_failTop_4 (by decide) ?_
  refine lv_iload_n hx hb d_Ma_failTop_6 rfl (lv_at hl 1 rfl) ?_
  refine lv_iadd hx hb d_Ma_failTop_7 ?_
  have o1 := hp.1
  have hp := hp.2
  refine cs_iald hC hw (is_Ma1 hj) o1 d_Ma_failTop_8 ?_
  refine lv_topi (fun z2 ez2 => ?_)
  have hp := cs_bdP ez2 hp
  have hf := cs_bdE ez2 hf
  refine lv_istore_n (lv' := [(2, .int z2), (0, .ref (ad j)), (1, .int x1)]) hx hb d_Ma_failTop_9 rfl hl (by decide) rfl (fun ls hl => ?_)
  refine lv_aload_n hx hb d_Ma_failTop_10 rfl (lv_at hl 1 rfl) ?_
  refine gf_Ma_cells hC hw hj wd_131 d_Ma_failTop_11 ?_
  refine lv_bipush (v := 38) hx hb d_Ma_failTop_14 (by decide) ?_
  refine lv_iload_n hx hb d_Ma_failTop_16 rfl (lv_at hl 2 rfl) ?_
  refine lv_iadd hx hb d_Ma_failTop_17 ?_
  refine lv_iconst (v := 0) hx hb d_Ma_failTop_18 (by decide) ?_
  have o3 := hp.1
  have hp := hp.2
  refine cs_iast hC hw (is_Ma1 hj) o3 d_Ma_failTop_19 (fun N4 H locs eN4 hw => ?_)
  have hp := cs_bdP eN4 hp
  have hf := cs_bdE eN4 hf
  refine lv_aload_n hx hb d_Ma_failTop_20 rfl (lv_at hl 1 rfl) ?_
  refine lv_iload_n hx hb d_Ma_failTop_21 rfl (lv_at hl 2 rfl) ?_
  refine lv_iconst (v := 2) hx hb d_Ma_failTop_22 (by decide) ?_
  have o5 := hp.1
  have hp := hp.2
  refine cs_ret_v hC hw (cs_runV (As := [.int x1, .int 2]) (rest := []) hC hw hj.2 (ci := 3) rfl rfl (cs_sg_is hj) (c_Ma_dropTop l D cA ad N4 j hj x1 2 o5 _) rfl rfl cw_Ma_98 ⟨Nat.le_of_ble_eq_true rfl, Nat.le_of_ble_eq_true rfl⟩ hl.1 rfl rfl (Nat.le_of_ble_eq_true rfl) d_Ma_failTop_23 ⟨Nat.zero_le _, Nat.zero_le _⟩) (fun u6 H locs eu6 hw => ?_)
  have hp := cs_bdP eu6 hp
  have hf := cs_bdE eu6 hf
  refine lv_aload_n hx hb d_Ma_failTop_26 rfl (lv_at hl 1 rfl) ?_
  refine lv_iload_n hx hb d_Ma_failTop_27 rfl (lv_at hl 2 rfl) ?_
  refine lv_iload_n hx hb d_Ma_failTop_28 rfl (lv_at hl 0 rfl) ?_
  refine cs_ret_p hC hw (cs_runS (As := [.int z2]) (rest := [.int x1, .ref (ad j)]) hC hw (c_Fa_outside l D cA ad u6 z2 _) rfl rfl cw_Ma_101 ⟨Nat.le_of_ble_eq_true rfl, Nat.le_of_ble_eq_true rfl⟩ hl.1 rfl rfl (Nat.le_of_ble_eq_true rfl) d_Ma_failTop_29 ⟨Nat.zero_le _, Nat.zero_le _⟩) (fun r7 H locs er7 hw => ?_)
  have hp := cs_bdP er7 hp
  have hf := cs_bdE er7 hf
  have o8 := hp.1
  have hp := hp.2
  refine cs_ret_v hC hw (cs_runV (As := [.int x1, .int r7]) (rest := []) hC hw hj.2 (ci := 3) rfl rfl (cs_sg_is hj) (c_Ma_come l D cA ad u6 j hj x1 r7 o8 _) rfl rfl cw_Ma_104 ⟨Nat.le_of_ble_eq_true rfl, Nat.le_of_ble_eq_true rfl⟩ hl.1 rfl rfl (Nat.le_of_ble_eq_true rfl) d_Ma_failTop_32 ⟨Nat.zero_le _, Nat.zero_le _⟩) (fun u9 H locs eu9 hw => ?_)
  have hf := cs_bdE eu9 hf
  exact cs_vret hC hw hr hlk hf d_Ma_failTop_35
theorem d_Ma_staticOf_0 : decode prog_4_method_8_code 0 = .ok (.iload_n 2, 1) := by decide +kernel
theorem d_Ma_staticOf_1 : decode prog_4_method_8_code 1 = .ok (.ifCond .ne 15, 3) := by decide +kernel
theorem d_Ma_staticOf_4 : decode prog_4_method_8_code 4 = .ok (.aload_n 0, 1) := by decide +kernel
theorem d_Ma_staticOf_5 : decode prog_4_method_8_code 5 = .ok (.getfield 11, 3) := by decide +kernel
theorem d_Ma_staticOf_8 : decode prog_4_method_8_code 8 = .ok (.bipush 8, 2) := by decide +kernel
theorem d_Ma_staticOf_10 : decode prog_4_method_8_code 10 = .ok (.iload_n 1, 1) := by decide +kernel
theorem d_Ma_staticOf_11 : decode prog_4_method_8_code 11 = .ok (.iadd, 1) := by decide +kernel
theorem d_Ma_staticOf_12 : decode prog_4_method_8_code 12 = .ok (.iaload, 1) := by decide +kernel
theorem d_Ma_staticOf_13 : decode prog_4_method_8_code 13 = .ok (.goto 11, 3) := by decide +kernel
theorem d_Ma_staticOf_16 : decode prog_4_method_8_code 16 = .ok (.aload_n 0, 1) := by decide +kernel
theorem d_Ma_staticOf_17 : decode prog_4_method_8_code 17 = .ok (.getfield 18, 3) := by decide +kernel
theorem d_Ma_staticOf_20 : decode prog_4_method_8_code 20 = .ok (.iload_n 1, 1) := by decide +kernel
theorem d_Ma_staticOf_21 : decode prog_4_method_8_code 21 = .ok (.invokevirtual 37, 3) := by decide +kernel
theorem d_Ma_staticOf_24 : decode prog_4_method_8_code 24 = .ok (.ireturn, 1) := by decide +kernel
def f_Ma_staticOf (M : cs_Mem) (j : Nat) (x1 : Int32) (x2 : Int32) : Int32 :=
  if x2 = 0 then
    M (j + 1) (8 + x1).toNatClampNeg
  else
    cs_bd (f_Pr_secondStatic M 1 x1) fun (r3 : Int32) =>
    r3
def pre_Ma_staticOf (M : cs_Mem) (j : Nat) (x1 : Int32) (x2 : Int32) : Prop :=
  (x2 = 0 →
    (vp_in (8 + x1) (cs_ln M (j + 1))) ∧
    True
  ) ∧ (¬ (x2 = 0) →
    (pre_Pr_secondStatic M 1 x1) ∧
    True
  )
set_option maxHeartbeats 4000000 in
set_option maxRecDepth 100000 in
theorem c_Ma_staticOf (l : Launch) (D : va_G) (cA : Nat → ClassId) (ad : Nat → Nat) (M : cs_Mem) (j : Nat) (hj : cs_is 3 j) (x1 : Int32) (x2 : Int32) (hp : pre_Ma_staticOf M j x1 x2) : cs_Ci l ⟨"ClassStarter$Machine", "staticOf", "(II)I"⟩ prog_4_method_8_code 3 (some .int) ({ frames := 1, cells := 0, slots := 0, locals := 21 }) D cA ad M [.ref (ad j), .int x1, .int x2] ((f_Ma_staticOf M j x1 x2, M)) := by
  refine cs_entry (by decide) (Nat.le_of_ble_eq_true rfl) (fun p e s m below meth c A ls hC hr hlk _ hw hl => ?_)
  have hx := hC.1
  have hb := hC.2.1
  have hl : lv_has ls 3 [(0, .ref (ad j)), (1, .int x1), (2, .int x2)] := hl
  generalize hF : f_Ma_staticOf M j x1 x2 = F
  have hf := hF.symm
  unfold f_Ma_staticOf at hf
  unfold pre_Ma_staticOf at hp
  refine lv_iload_n hx hb d_Ma_staticOf_0 rfl (lv_at hl 2 rfl) ?_
  refine lv_if_ne (tgt := 16) hx hb d_Ma_staticOf_1 (by decide) (fun c1 => ?_) (fun c1 => ?_)
  · have hp := hp.2 c1
    have hf := hf.trans (if_neg c1)
    refine lv_aload_n hx hb d_Ma_staticOf_16 rfl (lv_at hl 0 rfl) ?_
    refine gf_Ma_program hC hw hj wd_130 d_Ma_staticOf_17 ?_
    refine lv_iload_n hx hb d_Ma_staticOf_20 rfl (lv_at hl 1 rfl) ?_
    have o2 := hp.1
    have hp := hp.2
    refine cs_ret_p hC hw (cs_runV (As := [.int x1]) (rest := []) hC hw is_1.2 (ci := 1) rfl rfl (cs_sg_is is_1) (c_Pr_secondStatic l D cA ad M 1 is_1 x1 o2 _) rfl rfl cw_Ma_37 ⟨Nat.le_of_ble_eq_true rfl, Nat.le_of_ble_eq_true rfl⟩ hl.1 rfl rfl (Nat.le_of_ble_eq_true rfl) d_Ma_staticOf_21 ⟨Nat.zero_le _, Nat.zero_le _⟩) (fun r3 H locs er3 hw => ?_)
    have hf := cs_bdE er3 hf
    exact cs_iret hC hw hr hlk (congrArg (fun z => (z, M)) hf) d_Ma_staticOf_24
  · have hp := hp.1 c1
    have hf := hf.trans (if_pos c1)
    refine lv_aload_n hx hb d_Ma_staticOf_4 rfl (lv_at hl 0 rfl) ?_
    refine gf_Ma_cells hC hw hj wd_131 d_Ma_staticOf_5 ?_
    refine lv_bipush (v := 8) hx hb d_Ma_staticOf_8 (by decide) ?_
    refine lv_iload_n hx hb d_Ma_staticOf_10 rfl (lv_at hl 1 rfl) ?_
    refine lv_iadd hx hb d_Ma_staticOf_11 ?_
    have o4 := hp.1
    have hp := hp.2
    refine cs_iald hC hw (is_Ma1 hj) o4 d_Ma_staticOf_12 ?_
    refine lv_goto (tgt := 24) hx hb d_Ma_staticOf_13 (by decide) ?_
    exact cs_iret hC hw hr hlk (congrArg (fun z => (z, M)) hf) d_Ma_staticOf_24
theorem d_Ma_makeUse_0 : decode prog_4_method_25_code 0 = .ok (.aload_n 0, 1) := by decide +kernel
theorem d_Ma_makeUse_1 : decode prog_4_method_25_code 1 = .ok (.iload_n 1, 1) := by decide +kernel
theorem d_Ma_makeUse_2 : decode prog_4_method_25_code 2 = .ok (.invokevirtual 47, 3) := by decide +kernel
theorem d_Ma_makeUse_5 : decode prog_4_method_25_code 5 = .ok (.istore_n 2, 1) := by decide +kernel
theorem d_Ma_makeUse_6 : decode prog_4_method_25_code 6 = .ok (.aload_n 0, 1) := by decide +kernel
theorem d_Ma_makeUse_7 : decode prog_4_method_25_code 7 = .ok (.getfield 11, 3) := by decide +kernel
theorem d_Ma_makeUse_10 : decode prog_4_method_25_code 10 = .ok (.bipush 24, 2) := by decide +kernel
theorem d_Ma_makeUse_12 : decode prog_4_method_25_code 12 = .ok (.iload_n 2, 1) := by decide +kernel
theorem d_Ma_makeUse_13 : decode prog_4_method_25_code 13 = .ok (.iadd, 1) := by decide +kernel
theorem d_Ma_makeUse_14 : decode prog_4_method_25_code 14 = .ok (.iaload, 1) := by decide +kernel
theorem d_Ma_makeUse_15 : decode prog_4_method_25_code 15 = .ok (.istore_n 3, 1) := by decide +kernel
theorem d_Ma_makeUse_16 : decode prog_4_method_25_code 16 = .ok (.aload_n 0, 1) := by decide +kernel
theorem d_Ma_makeUse_17 : decode prog_4_method_25_code 17 = .ok (.getfield 18, 3) := by decide +kernel
theorem d_Ma_makeUse_20 : decode prog_4_method_25_code 20 = .ok (.iload_n 2, 1) := by decide +kernel
theorem d_Ma_makeUse_21 : decode prog_4_method_25_code 21 = .ok (.invokevirtual 53, 3) := by decide +kernel
theorem d_Ma_makeUse_24 : decode prog_4_method_25_code 24 = .ok (.astore 4, 2) := by decide +kernel
theorem d_Ma_makeUse_26 : decode prog_4_method_25_code 26 = .ok (.aload 4, 2) := by decide +kernel
theorem d_Ma_makeUse_28 : decode prog_4_method_25_code 28 = .ok (.iload_n 3, 1) := by decide +kernel
theorem d_Ma_makeUse_29 : decode prog_4_method_25_code 29 = .ok (.invokevirtual 116, 3) := by decide +kernel
theorem d_Ma_makeUse_32 : decode prog_4_method_25_code 32 = .ok (.iconst 2, 1) := by decide +kernel
theorem d_Ma_makeUse_33 : decode prog_4_method_25_code 33 = .ok (.if_icmp .ne 28, 3) := by decide +kernel
theorem d_Ma_makeUse_36 : decode prog_4_method_25_code 36 = .ok (.aload_n 0, 1) := by decide +kernel
theorem d_Ma_makeUse_37 : decode prog_4_method_25_code 37 = .ok (.getfield 11, 3) := by decide +kernel
theorem d_Ma_makeUse_40 : decode prog_4_method_25_code 40 = .ok (.bipush 8, 2) := by decide +kernel
theorem d_Ma_makeUse_42 : decode prog_4_method_25_code 42 = .ok (.iload_n 2, 1) := by decide +kernel
theorem d_Ma_makeUse_43 : decode prog_4_method_25_code 43 = .ok (.iadd, 1) := by decide +kernel
theorem d_Ma_makeUse_44 : decode prog_4_method_25_code 44 = .ok (.aload_n 0, 1) := by decide +kernel
theorem d_Ma_makeUse_45 : decode prog_4_method_25_code 45 = .ok (.aload 4, 2) := by decide +kernel
theorem d_Ma_makeUse_47 : decode prog_4_method_25_code 47 = .ok (.iload_n 3, 1) := by decide +kernel
theorem d_Ma_makeUse_48 : decode prog_4_method_25_code 48 = .ok (.invokevirtual 119, 3) := by decide +kernel
theorem d_Ma_makeUse_51 : decode prog_4_method_25_code 51 = .ok (.aload 4, 2) := by decide +kernel
theorem d_Ma_makeUse_53 : decode prog_4_method_25_code 53 = .ok (.iload_n 3, 1) := by decide +kernel
theorem d_Ma_makeUse_54 : decode prog_4_method_25_code 54 = .ok (.invokevirtual 122, 3) := by decide +kernel
theorem d_Ma_makeUse_57 : decode prog_4_method_25_code 57 = .ok (.invokevirtual 125, 3) := by decide +kernel
theorem d_Ma_makeUse_60 : decode prog_4_method_25_code 60 = .ok (.iastore, 1) := by decide +kernel
theorem d_Ma_makeUse_61 : decode prog_4_method_25_code 61 = .ok (.aload_n 0, 1) := by decide +kernel
theorem d_Ma_makeUse_62 : decode prog_4_method_25_code 62 = .ok (.getfield 11, 3) := by decide +kernel
theorem d_Ma_makeUse_65 : decode prog_4_method_25_code 65 = .ok (.bipush 24, 2) := by decide +kernel
theorem d_Ma_makeUse_67 : decode prog_4_method_25_code 67 = .ok (.iload_n 2, 1) := by decide +kernel
theorem d_Ma_makeUse_68 : decode prog_4_method_25_code 68 = .ok (.iadd, 1) := by decide +kernel
theorem d_Ma_makeUse_69 : decode prog_4_method_25_code 69 = .ok (.dup2, 1) := by decide +kernel
theorem d_Ma_makeUse_70 : decode prog_4_method_25_code 70 = .ok (.iaload, 1) := by decide +kernel
theorem d_Ma_makeUse_71 : decode prog_4_method_25_code 71 = .ok (.iconst 1, 1) := by decide +kernel
theorem d_Ma_makeUse_72 : decode prog_4_method_25_code 72 = .ok (.iadd, 1) := by decide +kernel
theorem d_Ma_makeUse_73 : decode prog_4_method_25_code 73 = .ok (.iastore, 1) := by decide +kernel
theorem d_Ma_makeUse_74 : decode prog_4_method_25_code 74 = .ok (.return_, 1) := by decide +kernel
def f_Ma_makeUse (M : cs_Mem) (j : Nat) (x1 : Int32) : cs_Mem :=
  cs_bd (f_Ma_topFrame M j x1) fun (r2 : Int32) =>
  cs_bd (M (j + 1) (24 + r2).toNatClampNeg) fun (z4 : Int32) =>
  cs_bd (f_Pr_script M 1 r2) fun (r6 : Nat) =>
  cs_bd (f_Sc_actionAt M r6 z4) fun (r8 : Int32) =>
  if r8 = 2 then
    cs_bd (f_Sc_secondOperandAt M r6 z4) fun (r14 : Int32) =>
    cs_bd (f_Sc_firstOperandAt M r6 z4) fun (r16 : Int32) =>
    cs_bd (f_Ma_staticOf M j r14 r16) fun (r18 : Int32) =>
    cs_bd (cs_up M (j + 1) (upd (M (j + 1)) (8 + r2).toNatClampNeg r18)) fun (N20 : cs_Mem) =>
    cs_bd (cs_up N20 (j + 1) (upd (N20 (j + 1)) (24 + r2).toNatClampNeg ((N20 (j + 1) (24 + r2).toNatClampNeg) + 1))) fun (N23 : cs_Mem) =>
    N23
  else
    cs_bd (cs_up M (j + 1) (upd (M (j + 1)) (24 + r2).toNatClampNeg ((M (j + 1) (24 + r2).toNatClampNeg) + 1))) fun (N12 : cs_Mem) =>
    N12
def pre_Ma_makeUse (M : cs_Mem) (j : Nat) (x1 : Int32) : Prop :=
  (pre_Ma_topFrame M j x1) ∧
  cs_bd (f_Ma_topFrame M j x1) fun (r2 : Int32) =>
  (vp_in (24 + r2) (cs_ln M (j + 1))) ∧
  cs_bd (M (j + 1) (24 + r2).toNatClampNeg) fun (z4 : Int32) =>
  (pre_Pr_script M 1 r2) ∧
  cs_bd (f_Pr_script M 1 r2) fun (r6 : Nat) =>
  (pre_Sc_actionAt M r6 z4) ∧
  cs_bd (f_Sc_actionAt M r6 z4) fun (r8 : Int32) =>
  (r8 = 2 →
    (pre_Sc_secondOperandAt M r6 z4) ∧
    cs_bd (f_Sc_secondOperandAt M r6 z4) fun (r14 : Int32) =>
    (pre_Sc_firstOperandAt M r6 z4) ∧
    cs_bd (f_Sc_firstOperandAt M r6 z4) fun (r16 : Int32) =>
    (pre_Ma_staticOf M j r14 r16) ∧
    cs_bd (f_Ma_staticOf M j r14 r16) fun (r18 : Int32) =>
    (vp_in (8 + r2) (cs_ln M (j + 1))) ∧
    cs_bd (cs_up M (j + 1) (upd (M (j + 1)) (8 + r2).toNatClampNeg r18)) fun (N20 : cs_Mem) =>
    (vp_in (24 + r2) (cs_ln N20 (j + 1))) ∧
    (vp_in (24 + r2) (cs_ln N20 (j + 1))) ∧
    True
  ) ∧ (¬ (r8 = 2) →
    (vp_in (24 + r2) (cs_ln M (j + 1))) ∧
    (vp_in (24 + r2) (cs_ln M (j + 1))) ∧
    True
  )
set_option maxHeartbeats 4000000 in
set_option maxRecDepth 100000 in
theorem c_Ma_makeUse (l : Launch) (D : va_G) (cA : Nat → ClassId) (ad : Nat → Nat) (M : cs_Mem) (j : Nat) (hj : cs_is 3 j) (x1 : Int32) (hp : pre_Ma_makeUse M j x1) : cs_Cv l ⟨"ClassStarter$Machine", "makeUse", "(I)V"⟩ prog_4_method_25_code 5 none ({ frames := 2, cells := 0, slots := 0, locals := 43 }) D cA ad M [.ref (ad j), .int x1] (f_Ma_makeUse M j x1) := by
  refine cs_entry (by decide) (Nat.le_of_ble_eq_true rfl) (fun p e s m below meth c A ls hC hr hlk _ hw hl => ?_)
  have hx := hC.1
  have hb := hC.2.1
  have hl : lv_has ls 5 [(0, .ref (ad j)), (1, .int x1)] := hl
  generalize hF : f_Ma_makeUse M j x1 = F
  have hf := hF.symm
  unfold f_Ma_makeUse at hf
  unfold pre_Ma_makeUse at hp
  refine lv_aload_n hx hb d_Ma_makeUse_0 rfl (lv_at hl 0 rfl) ?_
  refine lv_iload_n hx hb d_Ma_makeUse_1 rfl (lv_at hl 1 rfl) ?_
  have o1 := hp.1
  have hp := hp.2
  refine cs_ret_p hC hw (cs_runV (As := [.int x1]) (rest := []) hC hw hj.2 (ci := 3) rfl rfl (cs_sg_is hj) (c_Ma_topFrame l D cA ad M j hj x1 o1 _) rfl rfl cw_Ma_47 ⟨Nat.le_of_ble_eq_true rfl, Nat.le_of_ble_eq_true rfl⟩ hl.1 rfl rfl (Nat.le_of_ble_eq_true rfl) d_Ma_makeUse_2 ⟨Nat.zero_le _, Nat.zero_le _⟩) (fun r2 H locs er2 hw => ?_)
  have hp := cs_bdP er2 hp
  have hf := cs_bdE er2 hf
  refine lv_istore_n (lv' := [(2, .int r2), (0, .ref (ad j)), (1, .int x1)]) hx hb d_Ma_makeUse_5 rfl hl (by decide) rfl (fun ls hl => ?_)
  refine lv_aload_n hx hb d_Ma_makeUse_6 rfl (lv_at hl 1 rfl) ?_
  refine gf_Ma_cells hC hw hj wd_131 d_Ma_makeUse_7 ?_
  refine lv_bipush (v := 24) hx hb d_Ma_makeUse_10 (by decide) ?_
  refine lv_iload_n hx hb d_Ma_makeUse_12 rfl (lv_at hl 0 rfl) ?_
  refine lv_iadd hx hb d_Ma_makeUse_13 ?_
  have o3 := hp.1
  have hp := hp.2
  refine cs_iald hC hw (is_Ma1 hj) o3 d_Ma_makeUse_14 ?_
  refine lv_topi (fun z4 ez4 => ?_)
  have hp := cs_bdP ez4 hp
  have hf := cs_bdE ez4 hf
  refine lv_istore_n (lv' := [(3, .int z4), (2, .int r2), (0, .ref (ad j)), (1, .int x1)]) hx hb d_Ma_makeUse_15 rfl hl (by decide) rfl (fun ls hl => ?_)
  refine lv_aload_n hx hb d_Ma_makeUse_16 rfl (lv_at hl 2 rfl) ?_
  refine gf_Ma_program hC hw hj wd_130 d_Ma_makeUse_17 ?_
  refine lv_iload_n hx hb d_Ma_makeUse_20 rfl (lv_at hl 1 rfl) ?_
  have o5 := hp.1
  have hp := hp.2
  refine cs_ret_rp hC hw (cs_runV (As := [.int r2]) (rest := []) hC hw is_1.2 (ci := 1) rfl rfl (cs_sg_is is_1) (c_Pr_script l D cA ad M 1 is_1 r2 o5 _) rfl rfl cw_Ma_53 ⟨Nat.le_of_ble_eq_true rfl, Nat.le_of_ble_eq_true rfl⟩ hl.1 rfl rfl (Nat.le_of_ble_eq_true rfl) d_Ma_makeUse_21 ⟨Nat.zero_le _, Nat.zero_le _⟩) (fun r6 H locs er6 hw => ?_)
  have hp := cs_bdP er6 hp
  have hf := cs_bdE er6 hf
  refine lv_astore (lv' := [(4, .ref (ad r6)), (3, .int z4), (2, .int r2), (0, .ref (ad j)), (1, .int x1)]) hx hb d_Ma_makeUse_24 hl (by decide) rfl (fun ls hl => ?_)
  refine lv_aload hx hb d_Ma_makeUse_26 (lv_at hl 0 rfl) ?_
  refine lv_iload_n hx hb d_Ma_makeUse_28 rfl (lv_at hl 1 rfl) ?_
  have o7 := hp.1
  have hp := hp.2
  refine cs_ret_p hC hw (cs_runV (As := [.int z4]) (rest := []) hC hw (is_script er6 o5).2 (ci := 2) rfl rfl (cs_sg_is (is_script er6 o5)) (c_Sc_actionAt l D cA ad M r6 (is_script er6 o5) z4 o7 _) rfl rfl cw_Ma_116 ⟨Nat.le_of_ble_eq_true rfl, Nat.le_of_ble_eq_true rfl⟩ hl.1 rfl rfl (Nat.le_of_ble_eq_true rfl) d_Ma_makeUse_29 ⟨Nat.zero_le _, Nat.zero_le _⟩) (fun r8 H locs er8 hw => ?_)
  have hp := cs_bdP er8 hp
  have hf := cs_bdE er8 hf
  refine lv_iconst (v := 2) hx hb d_Ma_makeUse_32 (by decide) ?_
  refine lv_icmp_ne (tgt := 61) hx hb d_Ma_makeUse_33 (by decide) (fun c9 => ?_) (fun c9 => ?_)
  · have hp := hp.2 c9
    have hf := hf.trans (if_neg c9)
    refine lv_aload_n hx hb d_Ma_makeUse_61 rfl (lv_at hl 3 rfl) ?_
    refine gf_Ma_cells hC hw hj wd_131 d_Ma_makeUse_62 ?_
    refine lv_bipush (v := 24) hx hb d_Ma_makeUse_65 (by decide) ?_
    refine lv_iload_n hx hb d_Ma_makeUse_67 rfl (lv_at hl 2 rfl) ?_
    refine lv_iadd hx hb d_Ma_makeUse_68 ?_
    refine lv_dup2_11 hx hb d_Ma_makeUse_69 rfl rfl ?_
    have o10 := hp.1
    have hp := hp.2
    refine cs_iald hC hw (is_Ma1 hj) o10 d_Ma_makeUse_70 ?_
    refine lv_iconst (v := 1) hx hb d_Ma_makeUse_71 (by decide) ?_
    refine lv_iadd hx hb d_Ma_makeUse_72 ?_
    have o11 := hp.1
    have hp := hp.2
    refine cs_iast hC hw (is_Ma1 hj) o11 d_Ma_makeUse_73 (fun N12 H locs eN12 hw => ?_)
    have hf := cs_bdE eN12 hf
    exact cs_vret hC hw hr hlk hf d_Ma_makeUse_74
  · have hp := hp.1 c9
    have hf := hf.trans (if_pos c9)
    refine lv_aload_n hx hb d_Ma_makeUse_36 rfl (lv_at hl 3 rfl) ?_
    refine gf_Ma_cells hC hw hj wd_131 d_Ma_makeUse_37 ?_
    refine lv_bipush (v := 8) hx hb d_Ma_makeUse_40 (by decide) ?_
    refine lv_iload_n hx hb d_Ma_makeUse_42 rfl (lv_at hl 2 rfl) ?_
    refine lv_iadd hx hb d_Ma_makeUse_43 ?_
    refine lv_aload_n hx hb d_Ma_makeUse_44 rfl (lv_at hl 3 rfl) ?_
    refine lv_aload hx hb d_Ma_makeUse_45 (lv_at hl 0 rfl) ?_
    refine lv_iload_n hx hb d_Ma_makeUse_47 rfl (lv_at hl 1 rfl) ?_
    have o13 := hp.1
    have hp := hp.2
    refine cs_ret_p hC hw (cs_runV (As := [.int z4]) (rest := [.ref (ad j), .int (8 + r2), .ref (ad (j + 1))]) hC hw (is_script er6 o5).2 (ci := 2) rfl rfl (cs_sg_is (is_script er6 o5)) (c_Sc_secondOperandAt l D cA ad M r6 (is_script er6 o5) z4 o13 _) rfl rfl cw_Ma_119 ⟨Nat.le_of_ble_eq_true rfl, Nat.le_of_ble_eq_true rfl⟩ hl.1 rfl rfl (Nat.le_of_ble_eq_true rfl) d_Ma_makeUse_48 ⟨Nat.zero_le _, Nat.zero_le _⟩) (fun r14 H locs er14 hw => ?_)
    have hp := cs_bdP er14 hp
    have hf := cs_bdE er14 hf
    refine lv_aload hx hb d_Ma_makeUse_51 (lv_at hl 0 rfl) ?_
    refine lv_iload_n hx hb d_Ma_makeUse_53 rfl (lv_at hl 1 rfl) ?_
    have o15 := hp.1
    have hp := hp.2
    refine cs_ret_p hC hw (cs_runV (As := [.int z4]) (rest := [.int r14, .ref (ad j), .int (8 + r2), .ref (ad (j + 1))]) hC hw (is_script er6 o5).2 (ci := 2) rfl rfl (cs_sg_is (is_script er6 o5)) (c_Sc_firstOperandAt l D cA ad M r6 (is_script er6 o5) z4 o15 _) rfl rfl cw_Ma_122 ⟨Nat.le_of_ble_eq_true rfl, Nat.le_of_ble_eq_true rfl⟩ hl.1 rfl rfl (Nat.le_of_ble_eq_true rfl) d_Ma_makeUse_54 ⟨Nat.zero_le _, Nat.zero_le _⟩) (fun r16 H locs er16 hw => ?_)
    have hp := cs_bdP er16 hp
    have hf := cs_bdE er16 hf
    have o17 := hp.1
    have hp := hp.2
    refine cs_ret_p hC hw (cs_runV (As := [.int r14, .int r16]) (rest := [.int (8 + r2), .ref (ad (j + 1))]) hC hw hj.2 (ci := 3) rfl rfl (cs_sg_is hj) (c_Ma_staticOf l D cA ad M j hj r14 r16 o17 _) rfl rfl cw_Ma_125 ⟨Nat.le_of_ble_eq_true rfl, Nat.le_of_ble_eq_true rfl⟩ hl.1 rfl rfl (Nat.le_of_ble_eq_true rfl) d_Ma_makeUse_57 ⟨Nat.zero_le _, Nat.zero_le _⟩) (fun r18 H locs er18 hw => ?_)
    have hp := cs_bdP er18 hp
    have hf := cs_bdE er18 hf
    have o19 := hp.1
    have hp := hp.2
    refine cs_iast hC hw (is_Ma1 hj) o19 d_Ma_makeUse_60 (fun N20 H locs eN20 hw => ?_)
    have hp := cs_bdP eN20 hp
    have hf := cs_bdE eN20 hf
    refine lv_aload_n hx hb d_Ma_makeUse_61 rfl (lv_at hl 3 rfl) ?_
    refine gf_Ma_cells hC hw hj wd_131 d_Ma_makeUse_62 ?_
    refine lv_bipush (v := 24) hx hb d_Ma_makeUse_65 (by decide) ?_
    refine lv_iload_n hx hb d_Ma_makeUse_67 rfl (lv_at hl 2 rfl) ?_
    refine lv_iadd hx hb d_Ma_makeUse_68 ?_
    refine lv_dup2_11 hx hb d_Ma_makeUse_69 rfl rfl ?_
    have o21 := hp.1
    have hp := hp.2
    refine cs_iald hC hw (is_Ma1 hj) o21 d_Ma_makeUse_70 ?_
    refine lv_iconst (v := 1) hx hb d_Ma_makeUse_71 (by decide) ?_
    refine lv_iadd hx hb d_Ma_makeUse_72 ?_
    have o22 := hp.1
    have hp := hp.2
    refine cs_iast hC hw (is_Ma1 hj) o22 d_Ma_makeUse_73 (fun N23 H locs eN23 hw => ?_)
    have hf := cs_bdE eN23 hf
    exact cs_vret hC hw hr hlk hf d_Ma_makeUse_74
theorem d_Ma_finishTop_0 : decode prog_4_method_21_code 0 = .ok (.aload_n 0, 1) := by decide +kernel
theorem d_Ma_finishTop_1 : decode prog_4_method_21_code 1 = .ok (.iload_n 1, 1) := by decide +kernel
theorem d_Ma_finishTop_2 : decode prog_4_method_21_code 2 = .ok (.iconst 1, 1) := by decide +kernel
theorem d_Ma_finishTop_3 : decode prog_4_method_21_code 3 = .ok (.invokevirtual 98, 3) := by decide +kernel
theorem d_Ma_finishTop_6 : decode prog_4_method_21_code 6 = .ok (.aload_n 0, 1) := by decide +kernel
theorem d_Ma_finishTop_7 : decode prog_4_method_21_code 7 = .ok (.iload_n 1, 1) := by decide +kernel
theorem d_Ma_finishTop_8 : decode prog_4_method_21_code 8 = .ok (.invokevirtual 107, 3) := by decide +kernel
theorem d_Ma_finishTop_11 : decode prog_4_method_21_code 11 = .ok (.return_, 1) := by decide +kernel
def f_Ma_finishTop (M : cs_Mem) (j : Nat) (x1 : Int32) : cs_Mem :=
  cs_bd (f_Ma_dropTop M j x1 1) fun (u2 : cs_Mem) =>
  cs_bd (f_Ma_makeUse u2 j x1) fun (u4 : cs_Mem) =>
  u4
def pre_Ma_finishTop (M : cs_Mem) (j : Nat) (x1 : Int32) : Prop :=
  (pre_Ma_dropTop M j x1 1) ∧
  cs_bd (f_Ma_dropTop M j x1 1) fun (u2 : cs_Mem) =>
  (pre_Ma_makeUse u2 j x1) ∧
  True
set_option maxHeartbeats 4000000 in
set_option maxRecDepth 100000 in
theorem c_Ma_finishTop (l : Launch) (D : va_G) (cA : Nat → ClassId) (ad : Nat → Nat) (M : cs_Mem) (j : Nat) (hj : cs_is 3 j) (x1 : Int32) (hp : pre_Ma_finishTop M j x1) : cs_Cv l ⟨"ClassStarter$Machine", "finishTop", "(I)V"⟩ prog_4_method_21_code 2 none ({ frames := 3, cells := 0, slots := 0, locals := 67 }) D cA ad M [.ref (ad j), .int x1] (f_Ma_finishTop M j x1) := by
  refine cs_entry (by decide) (Nat.le_of_ble_eq_true rfl) (fun p e s m below meth c A ls hC hr hlk _ hw hl => ?_)
  have hx := hC.1
  have hb := hC.2.1
  have hl : lv_has ls 2 [(0, .ref (ad j)), (1, .int x1)] := hl
  generalize hF : f_Ma_finishTop M j x1 = F
  have hf := hF.symm
  unfold f_Ma_finishTop at hf
  unfold pre_Ma_finishTop at hp
  refine lv_aload_n hx hb d_Ma_finishTop_0 rfl (lv_at hl 0 rfl) ?_
  refine lv_iload_n hx hb d_Ma_finishTop_1 rfl (lv_at hl 1 rfl) ?_
  refine lv_iconst (v := 1) hx hb d_Ma_finishTop_2 (by decide) ?_
  have o1 := hp.1
  have hp := hp.2
  refine cs_ret_v hC hw (cs_runV (As := [.int x1, .int 1]) (rest := []) hC hw hj.2 (ci := 3) rfl rfl (cs_sg_is hj) (c_Ma_dropTop l D cA ad M j hj x1 1 o1 _) rfl rfl cw_Ma_98 ⟨Nat.le_of_ble_eq_true rfl, Nat.le_of_ble_eq_true rfl⟩ hl.1 rfl rfl (Nat.le_of_ble_eq_true rfl) d_Ma_finishTop_3 ⟨Nat.zero_le _, Nat.zero_le _⟩) (fun u2 H locs eu2 hw => ?_)
  have hp := cs_bdP eu2 hp
  have hf := cs_bdE eu2 hf
  refine lv_aload_n hx hb d_Ma_finishTop_6 rfl (lv_at hl 0 rfl) ?_
  refine lv_iload_n hx hb d_Ma_finishTop_7 rfl (lv_at hl 1 rfl) ?_
  have o3 := hp.1
  have hp := hp.2
  refine cs_ret_v hC hw (cs_runV (As := [.int x1]) (rest := []) hC hw hj.2 (ci := 3) rfl rfl (cs_sg_is hj) (c_Ma_makeUse l D cA ad u2 j hj x1 o3 _) rfl rfl cw_Ma_107 ⟨Nat.le_of_ble_eq_true rfl, Nat.le_of_ble_eq_true rfl⟩ hl.1 rfl rfl (Nat.le_of_ble_eq_true rfl) d_Ma_finishTop_8 ⟨Nat.zero_le _, Nat.zero_le _⟩) (fun u4 H locs eu4 hw => ?_)
  have hf := cs_bdE eu4 hf
  exact cs_vret hC hw hr hlk hf d_Ma_finishTop_11
theorem d_Ma_begin_0 : decode prog_4_method_24_code 0 = .ok (.aload_n 0, 1) := by decide +kernel
theorem d_Ma_begin_1 : decode prog_4_method_24_code 1 = .ok (.getfield 11, 3) := by decide +kernel
theorem d_Ma_begin_4 : decode prog_4_method_24_code 4 = .ok (.iconst 0, 1) := by decide +kernel
theorem d_Ma_begin_5 : decode prog_4_method_24_code 5 = .ok (.iload_n 2, 1) := by decide +kernel
theorem d_Ma_begin_6 : decode prog_4_method_24_code 6 = .ok (.iadd, 1) := by decide +kernel
theorem d_Ma_begin_7 : decode prog_4_method_24_code 7 = .ok (.iconst 4, 1) := by decide +kernel
theorem d_Ma_begin_8 : decode prog_4_method_24_code 8 = .ok (.iload_n 1, 1) := by decide +kernel
theorem d_Ma_begin_9 : decode prog_4_method_24_code 9 = .ok (.iadd, 1) := by decide +kernel
theorem d_Ma_begin_10 : decode prog_4_method_24_code 10 = .ok (.iastore, 1) := by decide +kernel
theorem d_Ma_begin_11 : decode prog_4_method_24_code 11 = .ok (.aload_n 0, 1) := by decide +kernel
theorem d_Ma_begin_12 : decode prog_4_method_24_code 12 = .ok (.getfield 11, 3) := by decide +kernel
theorem d_Ma_begin_15 : decode prog_4_method_24_code 15 = .ok (.bipush 16, 2) := by decide +kernel
theorem d_Ma_begin_17 : decode prog_4_method_24_code 17 = .ok (.iload_n 2, 1) := by decide +kernel
theorem d_Ma_begin_18 : decode prog_4_method_24_code 18 = .ok (.iadd, 1) := by decide +kernel
theorem d_Ma_begin_19 : decode prog_4_method_24_code 19 = .ok (.aload_n 0, 1) := by decide +kernel
theorem d_Ma_begin_20 : decode prog_4_method_24_code 20 = .ok (.iload_n 1, 1) := by decide +kernel
theorem d_Ma_begin_21 : decode prog_4_method_24_code 21 = .ok (.invokevirtual 47, 3) := by decide +kernel
theorem d_Ma_begin_24 : decode prog_4_method_24_code 24 = .ok (.iastore, 1) := by decide +kernel
theorem d_Ma_begin_25 : decode prog_4_method_24_code 25 = .ok (.aload_n 0, 1) := by decide +kernel
theorem d_Ma_begin_26 : decode prog_4_method_24_code 26 = .ok (.getfield 11, 3) := by decide +kernel
theorem d_Ma_begin_29 : decode prog_4_method_24_code 29 = .ok (.bipush 24, 2) := by decide +kernel
theorem d_Ma_begin_31 : decode prog_4_method_24_code 31 = .ok (.iload_n 2, 1) := by decide +kernel
theorem d_Ma_begin_32 : decode prog_4_method_24_code 32 = .ok (.iadd, 1) := by decide +kernel
theorem d_Ma_begin_33 : decode prog_4_method_24_code 33 = .ok (.iconst 0, 1) := by decide +kernel
theorem d_Ma_begin_34 : decode prog_4_method_24_code 34 = .ok (.iastore, 1) := by decide +kernel
theorem d_Ma_begin_35 : decode prog_4_method_24_code 35 = .ok (.aload_n 0, 1) := by decide +kernel
theorem d_Ma_begin_36 : decode prog_4_method_24_code 36 = .ok (.getfield 11, 3) := by decide +kernel
theorem d_Ma_begin_39 : decode prog_4_method_24_code 39 = .ok (.bipush 35, 2) := by decide +kernel
theorem d_Ma_begin_41 : decode prog_4_method_24_code 41 = .ok (.iload_n 1, 1) := by decide +kernel
theorem d_Ma_begin_42 : decode prog_4_method_24_code 42 = .ok (.iadd, 1) := by decide +kernel
theorem d_Ma_begin_43 : decode prog_4_method_24_code 43 = .ok (.iload_n 2, 1) := by decide +kernel
theorem d_Ma_begin_44 : decode prog_4_method_24_code 44 = .ok (.iastore, 1) := by decide +kernel
theorem d_Ma_begin_45 : decode prog_4_method_24_code 45 = .ok (.return_, 1) := by decide +kernel
def f_Ma_begin (M : cs_Mem) (j : Nat) (x1 : Int32) (x2 : Int32) : cs_Mem :=
  cs_bd (cs_up M (j + 1) (upd (M (j + 1)) (0 + x2).toNatClampNeg (4 + x1))) fun (N2 : cs_Mem) =>
  cs_bd (f_Ma_topFrame N2 j x1) fun (r4 : Int32) =>
  cs_bd (cs_up N2 (j + 1) (upd (N2 (j + 1)) (16 + x2).toNatClampNeg r4)) fun (N6 : cs_Mem) =>
  cs_bd (cs_up N6 (j + 1) (upd (N6 (j + 1)) (24 + x2).toNatClampNeg 0)) fun (N8 : cs_Mem) =>
  cs_bd (cs_up N8 (j + 1) (upd (N8 (j + 1)) (35 + x1).toNatClampNeg x2)) fun (N10 : cs_Mem) =>
  N10
def pre_Ma_begin (M : cs_Mem) (j : Nat) (x1 : Int32) (x2 : Int32) : Prop :=
  (vp_in (0 + x2) (cs_ln M (j + 1))) ∧
  cs_bd (cs_up M (j + 1) (upd (M (j + 1)) (0 + x2).toNatClampNeg (4 + x1))) fun (N2 : cs_Mem) =>
  (pre_Ma_topFrame N2 j x1) ∧
  cs_bd (f_Ma_topFrame N2 j x1) fun (r4 : Int32) =>
  (vp_in (16 + x2) (cs_ln N2 (j + 1))) ∧
  cs_bd (cs_up N2 (j + 1) (upd (N2 (j + 1)) (16 + x2).toNatClampNeg r4)) fun (N6 : cs_Mem) =>
  (vp_in (24 + x2) (cs_ln N6 (j + 1))) ∧
  cs_bd (cs_up N6 (j + 1) (upd (N6 (j + 1)) (24 + x2).toNatClampNeg 0)) fun (N8 : cs_Mem) =>
  (vp_in (35 + x1) (cs_ln N8 (j + 1))) ∧
  True
set_option maxHeartbeats 4000000 in
set_option maxRecDepth 100000 in
theorem c_Ma_begin (l : Launch) (D : va_G) (cA : Nat → ClassId) (ad : Nat → Nat) (M : cs_Mem) (j : Nat) (hj : cs_is 3 j) (x1 : Int32) (x2 : Int32) (hp : pre_Ma_begin M j x1 x2) : cs_Cv l ⟨"ClassStarter$Machine", "begin", "(II)V"⟩ prog_4_method_24_code 3 none ({ frames := 1, cells := 0, slots := 0, locals := 21 }) D cA ad M [.ref (ad j), .int x1, .int x2] (f_Ma_begin M j x1 x2) := by
  refine cs_entry (by decide) (Nat.le_of_ble_eq_true rfl) (fun p e s m below meth c A ls hC hr hlk _ hw hl => ?_)
  have hx := hC.1
  have hb := hC.2.1
  have hl : lv_has ls 3 [(0, .ref (ad j)), (1, .int x1), (2, .int x2)] := hl
  generalize hF : f_Ma_begin M j x1 x2 = F
  have hf := hF.symm
  unfold f_Ma_begin at hf
  unfold pre_Ma_begin at hp
  refine lv_aload_n hx hb d_Ma_begin_0 rfl (lv_at hl 0 rfl) ?_
  refine gf_Ma_cells hC hw hj wd_131 d_Ma_begin_1 ?_
  refine lv_iconst (v := 0) hx hb d_Ma_begin_4 (by decide) ?_
  refine lv_iload_n hx hb d_Ma_begin_5 rfl (lv_at hl 2 rfl) ?_
  refine lv_iadd hx hb d_Ma_begin_6 ?_
  refine lv_iconst (v := 4) hx hb d_Ma_begin_7 (by decide) ?_
  refine lv_iload_n hx hb d_Ma_begin_8 rfl (lv_at hl 1 rfl) ?_
  refine lv_iadd hx hb d_Ma_begin_9 ?_
  have o1 := hp.1
  have hp := hp.2
  refine cs_iast hC hw (is_Ma1 hj) o1 d_Ma_begin_10 (fun N2 H locs eN2 hw => ?_)
  have hp := cs_bdP eN2 hp
  have hf := cs_bdE eN2 hf
  refine lv_aload_n hx hb d_Ma_begin_11 rfl (lv_at hl 0 rfl) ?_
  refine gf_Ma_cells hC hw hj wd_131 d_Ma_begin_12 ?_
  refine lv_bipush (v := 16) hx hb d_Ma_begin_15 (by decide) ?_
  refine lv_iload_n hx hb d_Ma_begin_17 rfl (lv_at hl 2 rfl) ?_
  refine lv_iadd hx hb d_Ma_begin_18 ?_
  refine lv_aload_n hx hb d_Ma_begin_19 rfl (lv_at hl 0 rfl) ?_
  refine lv_iload_n hx hb d_Ma_begin_20 rfl (lv_at hl 1 rfl) ?_
  have o3 := hp.1
  have hp := hp.2
  refine cs_ret_p hC hw (cs_runV (As := [.int x1]) (rest := [.int (16 + x2), .ref (ad (j + 1))]) hC hw hj.2 (ci := 3) rfl rfl (cs_sg_is hj) (c_Ma_topFrame l D cA ad N2 j hj x1 o3 _) rfl rfl cw_Ma_47 ⟨Nat.le_of_ble_eq_true rfl, Nat.le_of_ble_eq_true rfl⟩ hl.1 rfl rfl (Nat.le_of_ble_eq_true rfl) d_Ma_begin_21 ⟨Nat.zero_le _, Nat.zero_le _⟩) (fun r4 H locs er4 hw => ?_)
  have hp := cs_bdP er4 hp
  have hf := cs_bdE er4 hf
  have o5 := hp.1
  have hp := hp.2
  refine cs_iast hC hw (is_Ma1 hj) o5 d_Ma_begin_24 (fun N6 H locs eN6 hw => ?_)
  have hp := cs_bdP eN6 hp
  have hf := cs_bdE eN6 hf
  refine lv_aload_n hx hb d_Ma_begin_25 rfl (lv_at hl 0 rfl) ?_
  refine gf_Ma_cells hC hw hj wd_131 d_Ma_begin_26 ?_
  refine lv_bipush (v := 24) hx hb d_Ma_begin_29 (by decide) ?_
  refine lv_iload_n hx hb d_Ma_begin_31 rfl (lv_at hl 2 rfl) ?_
  refine lv_iadd hx hb d_Ma_begin_32 ?_
  refine lv_iconst (v := 0) hx hb d_Ma_begin_33 (by decide) ?_
  have o7 := hp.1
  have hp := hp.2
  refine cs_iast hC hw (is_Ma1 hj) o7 d_Ma_begin_34 (fun N8 H locs eN8 hw => ?_)
  have hp := cs_bdP eN8 hp
  have hf := cs_bdE eN8 hf
  refine lv_aload_n hx hb d_Ma_begin_35 rfl (lv_at hl 0 rfl) ?_
  refine gf_Ma_cells hC hw hj wd_131 d_Ma_begin_36 ?_
  refine lv_bipush (v := 35) hx hb d_Ma_begin_39 (by decide) ?_
  refine lv_iload_n hx hb d_Ma_begin_41 rfl (lv_at hl 1 rfl) ?_
  refine lv_iadd hx hb d_Ma_begin_42 ?_
  refine lv_iload_n hx hb d_Ma_begin_43 rfl (lv_at hl 2 rfl) ?_
  have o9 := hp.1
  have hp := hp.2
  refine cs_iast hC hw (is_Ma1 hj) o9 d_Ma_begin_44 (fun N10 H locs eN10 hw => ?_)
  have hf := cs_bdE eN10 hf
  exact cs_vret hC hw hr hlk hf d_Ma_begin_45
theorem d_Ma_use_0 : decode prog_4_method_23_code 0 = .ok (.aload_n 0, 1) := by decide +kernel
theorem d_Ma_use_1 : decode prog_4_method_23_code 1 = .ok (.getfield 18, 3) := by decide +kernel
theorem d_Ma_use_4 : decode prog_4_method_23_code 4 = .ok (.iload_n 2, 1) := by decide +kernel
theorem d_Ma_use_5 : decode prog_4_method_23_code 5 = .ok (.invokevirtual 110, 3) := by decide +kernel
theorem d_Ma_use_8 : decode prog_4_method_23_code 8 = .ok (.ifCond .ne 13, 3) := by decide +kernel
theorem d_Ma_use_11 : decode prog_4_method_23_code 11 = .ok (.aload_n 0, 1) := by decide +kernel
theorem d_Ma_use_12 : decode prog_4_method_23_code 12 = .ok (.iload_n 1, 1) := by decide +kernel
theorem d_Ma_use_13 : decode prog_4_method_23_code 13 = .ok (.bipush 21, 2) := by decide +kernel
theorem d_Ma_use_15 : decode prog_4_method_23_code 15 = .ok (.invokevirtual 104, 3) := by decide +kernel
theorem d_Ma_use_18 : decode prog_4_method_23_code 18 = .ok (.goto 44, 3) := by decide +kernel
theorem d_Ma_use_21 : decode prog_4_method_23_code 21 = .ok (.aload_n 0, 1) := by decide +kernel
theorem d_Ma_use_22 : decode prog_4_method_23_code 22 = .ok (.iload_n 2, 1) := by decide +kernel
theorem d_Ma_use_23 : decode prog_4_method_23_code 23 = .ok (.invokevirtual 67, 3) := by decide +kernel
theorem d_Ma_use_26 : decode prog_4_method_23_code 26 = .ok (.ifCond .ne 12, 3) := by decide +kernel
theorem d_Ma_use_29 : decode prog_4_method_23_code 29 = .ok (.aload_n 0, 1) := by decide +kernel
theorem d_Ma_use_30 : decode prog_4_method_23_code 30 = .ok (.iload_n 1, 1) := by decide +kernel
theorem d_Ma_use_31 : decode prog_4_method_23_code 31 = .ok (.iload_n 2, 1) := by decide +kernel
theorem d_Ma_use_32 : decode prog_4_method_23_code 32 = .ok (.invokevirtual 113, 3) := by decide +kernel
theorem d_Ma_use_35 : decode prog_4_method_23_code 35 = .ok (.goto 27, 3) := by decide +kernel
theorem d_Ma_use_38 : decode prog_4_method_23_code 38 = .ok (.aload_n 0, 1) := by decide +kernel
theorem d_Ma_use_39 : decode prog_4_method_23_code 39 = .ok (.iload_n 2, 1) := by decide +kernel
theorem d_Ma_use_40 : decode prog_4_method_23_code 40 = .ok (.invokevirtual 67, 3) := by decide +kernel
theorem d_Ma_use_43 : decode prog_4_method_23_code 43 = .ok (.iconst 2, 1) := by decide +kernel
theorem d_Ma_use_44 : decode prog_4_method_23_code 44 = .ok (.if_icmp .ne 13, 3) := by decide +kernel
theorem d_Ma_use_47 : decode prog_4_method_23_code 47 = .ok (.aload_n 0, 1) := by decide +kernel
theorem d_Ma_use_48 : decode prog_4_method_23_code 48 = .ok (.iload_n 1, 1) := by decide +kernel
theorem d_Ma_use_49 : decode prog_4_method_23_code 49 = .ok (.bipush 22, 2) := by decide +kernel
theorem d_Ma_use_51 : decode prog_4_method_23_code 51 = .ok (.invokevirtual 104, 3) := by decide +kernel
theorem d_Ma_use_54 : decode prog_4_method_23_code 54 = .ok (.goto 8, 3) := by decide +kernel
theorem d_Ma_use_57 : decode prog_4_method_23_code 57 = .ok (.aload_n 0, 1) := by decide +kernel
theorem d_Ma_use_58 : decode prog_4_method_23_code 58 = .ok (.iload_n 1, 1) := by decide +kernel
theorem d_Ma_use_59 : decode prog_4_method_23_code 59 = .ok (.invokevirtual 107, 3) := by decide +kernel
theorem d_Ma_use_62 : decode prog_4_method_23_code 62 = .ok (.return_, 1) := by decide +kernel
def f_Ma_use (M : cs_Mem) (j : Nat) (x1 : Int32) (x2 : Int32) : cs_Mem :=
  cs_bd (f_Pr_isDeclared M 1 x2) fun (r1 : Int32) =>
  if r1 = 0 then
    cs_bd (f_Ma_come M j x1 21) fun (u16 : cs_Mem) =>
    u16
  else
    cs_bd (f_Ma_stateOf M j x2) fun (r4 : Int32) =>
    if r4 = 0 then
      cs_bd (f_Ma_begin M j x1 x2) fun (u14 : cs_Mem) =>
      u14
    else
      cs_bd (f_Ma_stateOf M j x2) fun (r7 : Int32) =>
      if r7 = 2 then
        cs_bd (f_Ma_come M j x1 22) fun (u12 : cs_Mem) =>
        u12
      else
        cs_bd (f_Ma_makeUse M j x1) fun (u10 : cs_Mem) =>
        u10
def pre_Ma_use (M : cs_Mem) (j : Nat) (x1 : Int32) (x2 : Int32) : Prop :=
  cs_bd (f_Pr_isDeclared M 1 x2) fun (r1 : Int32) =>
  (r1 = 0 →
    (pre_Ma_come M j x1 21) ∧
    True
  ) ∧ (¬ (r1 = 0) →
    (pre_Ma_stateOf M j x2) ∧
    cs_bd (f_Ma_stateOf M j x2) fun (r4 : Int32) =>
    (r4 = 0 →
      (pre_Ma_begin M j x1 x2) ∧
      True
    ) ∧ (¬ (r4 = 0) →
      (pre_Ma_stateOf M j x2) ∧
      cs_bd (f_Ma_stateOf M j x2) fun (r7 : Int32) =>
      (r7 = 2 →
        (pre_Ma_come M j x1 22) ∧
        True
      ) ∧ (¬ (r7 = 2) →
        (pre_Ma_makeUse M j x1) ∧
        True
      )
    )
  )
set_option maxHeartbeats 4000000 in
set_option maxRecDepth 100000 in
theorem c_Ma_use (l : Launch) (D : va_G) (cA : Nat → ClassId) (ad : Nat → Nat) (M : cs_Mem) (j : Nat) (hj : cs_is 3 j) (x1 : Int32) (x2 : Int32) (hp : pre_Ma_use M j x1 x2) : cs_Cv l ⟨"ClassStarter$Machine", "use", "(II)V"⟩ prog_4_method_23_code 3 none ({ frames := 3, cells := 0, slots := 0, locals := 67 }) D cA ad M [.ref (ad j), .int x1, .int x2] (f_Ma_use M j x1 x2) := by
  refine cs_entry (by decide) (Nat.le_of_ble_eq_true rfl) (fun p e s m below meth c A ls hC hr hlk _ hw hl => ?_)
  have hx := hC.1
  have hb := hC.2.1
  have hl : lv_has ls 3 [(0, .ref (ad j)), (1, .int x1), (2, .int x2)] := hl
  generalize hF : f_Ma_use M j x1 x2 = F
  have hf := hF.symm
  unfold f_Ma_use at hf
  unfold pre_Ma_use at hp
  refine lv_aload_n hx hb d_Ma_use_0 rfl (lv_at hl 0 rfl) ?_
  refine gf_Ma_program hC hw hj wd_130 d_Ma_use_1 ?_
  refine lv_iload_n hx hb d_Ma_use_4 rfl (lv_at hl 2 rfl) ?_
  refine cs_ret_p hC hw (cs_runV (As := [.int x2]) (rest := []) hC hw is_1.2 (ci := 1) rfl rfl (cs_sg_is is_1) (c_Pr_isDeclared l D cA ad M 1 is_1 x2 _) rfl rfl cw_Ma_110 ⟨Nat.le_of_ble_eq_true rfl, Nat.le_of_ble_eq_true rfl⟩ hl.1 rfl rfl (Nat.le_of_ble_eq_true rfl) d_Ma_use_5 ⟨Nat.zero_le _, Nat.zero_le _⟩) (fun r1 H locs er1 hw => ?_)
  have hp := cs_bdP er1 hp
  have hf := cs_bdE er1 hf
  refine lv_if_ne (tgt := 21) hx hb d_Ma_use_8 (by decide) (fun c2 => ?_) (fun c2 => ?_)
  · have hp := hp.2 c2
    have hf := hf.trans (if_neg c2)
    refine lv_aload_n hx hb d_Ma_use_21 rfl (lv_at hl 0 rfl) ?_
    refine lv_iload_n hx hb d_Ma_use_22 rfl (lv_at hl 2 rfl) ?_
    have o3 := hp.1
    have hp := hp.2
    refine cs_ret_p hC hw (cs_runV (As := [.int x2]) (rest := []) hC hw hj.2 (ci := 3) rfl rfl (cs_sg_is hj) (c_Ma_stateOf l D cA ad M j hj x2 o3 _) rfl rfl cw_Ma_67 ⟨Nat.le_of_ble_eq_true rfl, Nat.le_of_ble_eq_true rfl⟩ hl.1 rfl rfl (Nat.le_of_ble_eq_true rfl) d_Ma_use_23 ⟨Nat.zero_le _, Nat.zero_le _⟩) (fun r4 H locs er4 hw => ?_)
    have hp := cs_bdP er4 hp
    have hf := cs_bdE er4 hf
    refine lv_if_ne (tgt := 38) hx hb d_Ma_use_26 (by decide) (fun c5 => ?_) (fun c5 => ?_)
    · have hp := hp.2 c5
      have hf := hf.trans (if_neg c5)
      refine lv_aload_n hx hb d_Ma_use_38 rfl (lv_at hl 0 rfl) ?_
      refine lv_iload_n hx hb d_Ma_use_39 rfl (lv_at hl 2 rfl) ?_
      have o6 := hp.1
      have hp := hp.2
      refine cs_ret_p hC hw (cs_runV (As := [.int x2]) (rest := []) hC hw hj.2 (ci := 3) rfl rfl (cs_sg_is hj) (c_Ma_stateOf l D cA ad M j hj x2 o6 _) rfl rfl cw_Ma_67 ⟨Nat.le_of_ble_eq_true rfl, Nat.le_of_ble_eq_true rfl⟩ hl.1 rfl rfl (Nat.le_of_ble_eq_true rfl) d_Ma_use_40 ⟨Nat.zero_le _, Nat.zero_le _⟩) (fun r7 H locs er7 hw => ?_)
      have hp := cs_bdP er7 hp
      have hf := cs_bdE er7 hf
      refine lv_iconst (v := 2) hx hb d_Ma_use_43 (by decide) ?_
      refine lv_icmp_ne (tgt := 57) hx hb d_Ma_use_44 (by decide) (fun c8 => ?_) (fun c8 => ?_)
      · have hp := hp.2 c8
        have hf := hf.trans (if_neg c8)
        refine lv_aload_n hx hb d_Ma_use_57 rfl (lv_at hl 0 rfl) ?_
        refine lv_iload_n hx hb d_Ma_use_58 rfl (lv_at hl 1 rfl) ?_
        have o9 := hp.1
        have hp := hp.2
        refine cs_ret_v hC hw (cs_runV (As := [.int x1]) (rest := []) hC hw hj.2 (ci := 3) rfl rfl (cs_sg_is hj) (c_Ma_makeUse l D cA ad M j hj x1 o9 _) rfl rfl cw_Ma_107 ⟨Nat.le_of_ble_eq_true rfl, Nat.le_of_ble_eq_true rfl⟩ hl.1 rfl rfl (Nat.le_of_ble_eq_true rfl) d_Ma_use_59 ⟨Nat.zero_le _, Nat.zero_le _⟩) (fun u10 H locs eu10 hw => ?_)
        have hf := cs_bdE eu10 hf
        exact cs_vret hC hw hr hlk hf d_Ma_use_62
      · have hp := hp.1 c8
        have hf := hf.trans (if_pos c8)
        refine lv_aload_n hx hb d_Ma_use_47 rfl (lv_at hl 0 rfl) ?_
        refine lv_iload_n hx hb d_Ma_use_48 rfl (lv_at hl 1 rfl) ?_
        refine lv_bipush (v := 22) hx hb d_Ma_use_49 (by decide) ?_
        have o11 := hp.1
        have hp := hp.2
        refine cs_ret_v hC hw (cs_runV (As := [.int x1, .int 22]) (rest := []) hC hw hj.2 (ci := 3) rfl rfl (cs_sg_is hj) (c_Ma_come l D cA ad M j hj x1 22 o11 _) rfl rfl cw_Ma_104 ⟨Nat.le_of_ble_eq_true rfl, Nat.le_of_ble_eq_true rfl⟩ hl.1 rfl rfl (Nat.le_of_ble_eq_true rfl) d_Ma_use_51 ⟨Nat.zero_le _, Nat.zero_le _⟩) (fun u12 H locs eu12 hw => ?_)
        have hf := cs_bdE eu12 hf
        refine lv_goto (tgt := 62) hx hb d_Ma_use_54 (by decide) ?_
        exact cs_vret hC hw hr hlk hf d_Ma_use_62
    · have hp := hp.1 c5
      have hf := hf.trans (if_pos c5)
      refine lv_aload_n hx hb d_Ma_use_29 rfl (lv_at hl 0 rfl) ?_
      refine lv_iload_n hx hb d_Ma_use_30 rfl (lv_at hl 1 rfl) ?_
      refine lv_iload_n hx hb d_Ma_use_31 rfl (lv_at hl 2 rfl) ?_
      have o13 := hp.1
      have hp := hp.2
      refine cs_ret_v hC hw (cs_runV (As := [.int x1, .int x2]) (rest := []) hC hw hj.2 (ci := 3) rfl rfl (cs_sg_is hj) (c_Ma_begin l D cA ad M j hj x1 x2 o13 _) rfl rfl cw_Ma_113 ⟨Nat.le_of_ble_eq_true rfl, Nat.le_of_ble_eq_true rfl⟩ hl.1 rfl rfl (Nat.le_of_ble_eq_true rfl) d_Ma_use_32 ⟨Nat.zero_le _, Nat.zero_le _⟩) (fun u14 H locs eu14 hw => ?_)
      have hf := cs_bdE eu14 hf
      refine lv_goto (tgt := 62) hx hb d_Ma_use_35 (by decide) ?_
      exact cs_vret hC hw hr hlk hf d_Ma_use_62
  · have hp := hp.1 c2
    have hf := hf.trans (if_pos c2)
    refine lv_aload_n hx hb d_Ma_use_11 rfl (lv_at hl 0 rfl) ?_
    refine lv_iload_n hx hb d_Ma_use_12 rfl (lv_at hl 1 rfl) ?_
    refine lv_bipush (v := 21) hx hb d_Ma_use_13 (by decide) ?_
    have o15 := hp.1
    have hp := hp.2
    refine cs_ret_v hC hw (cs_runV (As := [.int x1, .int 21]) (rest := []) hC hw hj.2 (ci := 3) rfl rfl (cs_sg_is hj) (c_Ma_come l D cA ad M j hj x1 21 o15 _) rfl rfl cw_Ma_104 ⟨Nat.le_of_ble_eq_true rfl, Nat.le_of_ble_eq_true rfl⟩ hl.1 rfl rfl (Nat.le_of_ble_eq_true rfl) d_Ma_use_15 ⟨Nat.zero_le _, Nat.zero_le _⟩) (fun u16 H locs eu16 hw => ?_)
    have hf := cs_bdE eu16 hf
    refine lv_goto (tgt := 62) hx hb d_Ma_use_18 (by decide) ?_
    exact cs_vret hC hw hr hlk hf d_Ma_use_62
theorem d_Ma_perform_0 : decode prog_4_method_26_code 0 = .ok (.aload_n 0, 1) := by decide +kernel
theorem d_Ma_perform_1 : decode prog_4_method_26_code 1 = .ok (.iload_n 1, 1) := by decide +kernel
theorem d_Ma_perform_2 : decode prog_4_method_26_code 2 = .ok (.invokevirtual 47, 3) := by decide +kernel
theorem d_Ma_perform_5 : decode prog_4_method_26_code 5 = .ok (.istore_n 2, 1) := by decide +kernel
theorem d_Ma_perform_6 : decode prog_4_method_26_code 6 = .ok (.aload_n 0, 1) := by decide +kernel
theorem d_Ma_perform_7 : decode prog_4_method_26_code 7 = .ok (.getfield 11, 3) := by decide +kernel
theorem d_Ma_perform_10 : decode prog_4_method_26_code 10 = .ok (.bipush 24, 2) := by decide +kernel
theorem d_Ma_perform_12 : decode prog_4_method_26_code 12 = .ok (.iload_n 2, 1) := by decide +kernel
theorem d_Ma_perform_13 : decode prog_4_method_26_code 13 = .ok (.iadd, 1) := by decide +kernel
theorem d_Ma_perform_14 : decode prog_4_method_26_code 14 = .ok (.iaload, 1) := by decide +kernel
theorem d_Ma_perform_15 : decode prog_4_method_26_code 15 = .ok (.istore_n 3, 1) := by decide +kernel
theorem d_Ma_perform_16 : decode prog_4_method_26_code 16 = .ok (.aload_n 0, 1) := by decide +kernel
theorem d_Ma_perform_17 : decode prog_4_method_26_code 17 = .ok (.getfield 18, 3) := by decide +kernel
theorem d_Ma_perform_20 : decode prog_4_method_26_code 20 = .ok (.iload_n 2, 1) := by decide +kernel
theorem d_Ma_perform_21 : decode prog_4_method_26_code 21 = .ok (.invokevirtual 53, 3) := by decide +kernel
theorem d_Ma_perform_24 : decode prog_4_method_26_code 24 = .ok (.astore 4, 2) := by decide +kernel
theorem d_Ma_perform_26 : decode prog_4_method_26_code 26 = .ok (.aload 4, 2) := by decide +kernel
theorem d_Ma_perform_28 : decode prog_4_method_26_code 28 = .ok (.iload_n 3, 1) := by decide +kernel
theorem d_Ma_perform_29 : decode prog_4_method_26_code 29 = .ok (.invokevirtual 116, 3) := by decide +kernel
theorem d_Ma_perform_32 : decode prog_4_method_26_code 32 = .ok (.tableswitch 102 1 5 #[65, 83, 36, 50, 89], 36) := by decide +kernel
theorem d_Ma_perform_68 : decode prog_4_method_26_code 68 = .ok (.aload_n 0, 1) := by decide +kernel
theorem d_Ma_perform_69 : decode prog_4_method_26_code 69 = .ok (.iload_n 1, 1) := by decide +kernel
theorem d_Ma_perform_70 : decode prog_4_method_26_code 70 = .ok (.iconst 1, 1) := by decide +kernel
theorem d_Ma_perform_71 : decode prog_4_method_26_code 71 = .ok (.aload 4, 2) := by decide +kernel
theorem d_Ma_perform_73 : decode prog_4_method_26_code 73 = .ok (.iload_n 3, 1) := by decide +kernel
theorem d_Ma_perform_74 : decode prog_4_method_26_code 74 = .ok (.invokevirtual 122, 3) := by decide +kernel
theorem d_Ma_perform_77 : decode prog_4_method_26_code 77 = .ok (.iadd, 1) := by decide +kernel
theorem d_Ma_perform_78 : decode prog_4_method_26_code 78 = .ok (.invokevirtual 104, 3) := by decide +kernel
theorem d_Ma_perform_81 : decode prog_4_method_26_code 81 = .ok (.return_, 1) := by decide +kernel
theorem d_Ma_perform_82 : decode prog_4_method_26_code 82 = .ok (.aload_n 0, 1) := by decide +kernel
theorem d_Ma_perform_83 : decode prog_4_method_26_code 83 = .ok (.iload_n 1, 1) := by decide +kernel
theorem d_Ma_perform_84 : decode prog_4_method_26_code 84 = .ok (.bipush 11, 2) := by decide +kernel
theorem d_Ma_perform_86 : decode prog_4_method_26_code 86 = .ok (.aload 4, 2) := by decide +kernel
theorem d_Ma_perform_88 : decode prog_4_method_26_code 88 = .ok (.iload_n 3, 1) := by decide +kernel
theorem d_Ma_perform_89 : decode prog_4_method_26_code 89 = .ok (.invokevirtual 122, 3) := by decide +kernel
theorem d_Ma_perform_92 : decode prog_4_method_26_code 92 = .ok (.iadd, 1) := by decide +kernel
theorem d_Ma_perform_93 : decode prog_4_method_26_code 93 = .ok (.invokevirtual 104, 3) := by decide +kernel
theorem d_Ma_perform_96 : decode prog_4_method_26_code 96 = .ok (.return_, 1) := by decide +kernel
theorem d_Ma_perform_97 : decode prog_4_method_26_code 97 = .ok (.aload_n 0, 1) := by decide +kernel
theorem d_Ma_perform_98 : decode prog_4_method_26_code 98 = .ok (.getfield 11, 3) := by decide +kernel
theorem d_Ma_perform_101 : decode prog_4_method_26_code 101 = .ok (.bipush 8, 2) := by decide +kernel
theorem d_Ma_perform_103 : decode prog_4_method_26_code 103 = .ok (.iload_n 2, 1) := by decide +kernel
theorem d_Ma_perform_104 : decode prog_4_method_26_code 104 = .ok (.iadd, 1) := by decide +kernel
theorem d_Ma_perform_105 : decode prog_4_method_26_code 105 = .ok (.aload 4, 2) := by decide +kernel
theorem d_Ma_perform_107 : decode prog_4_method_26_code 107 = .ok (.iload_n 3, 1) := by decide +kernel
theorem d_Ma_perform_108 : decode prog_4_method_26_code 108 = .ok (.invokevirtual 119, 3) := by decide +kernel
theorem d_Ma_perform_111 : decode prog_4_method_26_code 111 = .ok (.iastore, 1) := by decide +kernel
theorem d_Ma_perform_112 : decode prog_4_method_26_code 112 = .ok (.goto 22, 3) := by decide +kernel
theorem d_Ma_perform_115 : decode prog_4_method_26_code 115 = .ok (.aload_n 0, 1) := by decide +kernel
theorem d_Ma_perform_116 : decode prog_4_method_26_code 116 = .ok (.iload_n 1, 1) := by decide +kernel
theorem d_Ma_perform_117 : decode prog_4_method_26_code 117 = .ok (.invokevirtual 107, 3) := by decide +kernel
theorem d_Ma_perform_120 : decode prog_4_method_26_code 120 = .ok (.return_, 1) := by decide +kernel
theorem d_Ma_perform_121 : decode prog_4_method_26_code 121 = .ok (.aload_n 0, 1) := by decide +kernel
theorem d_Ma_perform_122 : decode prog_4_method_26_code 122 = .ok (.aload 4, 2) := by decide +kernel
theorem d_Ma_perform_124 : decode prog_4_method_26_code 124 = .ok (.iload_n 3, 1) := by decide +kernel
theorem d_Ma_perform_125 : decode prog_4_method_26_code 125 = .ok (.invokevirtual 122, 3) := by decide +kernel
theorem d_Ma_perform_128 : decode prog_4_method_26_code 128 = .ok (.invokevirtual 128, 3) := by decide +kernel
theorem d_Ma_perform_131 : decode prog_4_method_26_code 131 = .ok (.goto 3, 3) := by decide +kernel
theorem d_Ma_perform_134 : decode prog_4_method_26_code 134 = .ok (.aload_n 0, 1) := by decide +kernel
theorem d_Ma_perform_135 : decode prog_4_method_26_code 135 = .ok (.getfield 11, 3) := by decide +kernel
theorem d_Ma_perform_138 : decode prog_4_method_26_code 138 = .ok (.bipush 24, 2) := by decide +kernel
theorem d_Ma_perform_140 : decode prog_4_method_26_code 140 = .ok (.iload_n 2, 1) := by decide +kernel
theorem d_Ma_perform_141 : decode prog_4_method_26_code 141 = .ok (.iadd, 1) := by decide +kernel
theorem d_Ma_perform_142 : decode prog_4_method_26_code 142 = .ok (.dup2, 1) := by decide +kernel
theorem d_Ma_perform_143 : decode prog_4_method_26_code 143 = .ok (.iaload, 1) := by decide +kernel
theorem d_Ma_perform_144 : decode prog_4_method_26_code 144 = .ok (.iconst 1, 1) := by decide +kernel
theorem d_Ma_perform_145 : decode prog_4_method_26_code 145 = .ok (.iadd, 1) := by decide +kernel
theorem d_Ma_perform_146 : decode prog_4_method_26_code 146 = .ok (.iastore, 1) := by decide +kernel
theorem d_Ma_perform_147 : decode prog_4_method_26_code 147 = .ok (.return_, 1) := by decide +kernel
def f_Ma_perform (M : cs_Mem) (j : Nat) (x1 : Int32) : cs_Mem :=
  cs_bd (f_Ma_topFrame M j x1) fun (r2 : Int32) =>
  cs_bd (M (j + 1) (24 + r2).toNatClampNeg) fun (z4 : Int32) =>
  cs_bd (f_Pr_script M 1 r2) fun (r6 : Nat) =>
  cs_bd (f_Sc_actionAt M r6 z4) fun (r8 : Int32) =>
  if r8 = 1 then
    cs_bd (f_Sc_secondOperandAt M r6 z4) fun (r11 : Int32) =>
    cs_bd (cs_up M (j + 1) (upd (M (j + 1)) (8 + r2).toNatClampNeg r11)) fun (N13 : cs_Mem) =>
    cs_bd (cs_up N13 (j + 1) (upd (N13 (j + 1)) (24 + r2).toNatClampNeg ((N13 (j + 1) (24 + r2).toNatClampNeg) + 1))) fun (N16 : cs_Mem) =>
    N16
  else
    if r8 = 2 then
      cs_bd (f_Ma_makeUse M j x1) fun (u19 : cs_Mem) =>
      u19
    else
      if r8 = 3 then
        cs_bd (f_Sc_firstOperandAt M r6 z4) fun (r22 : Int32) =>
        cs_bd (f_Ma_come M j x1 (1 + r22)) fun (u24 : cs_Mem) =>
        u24
      else
        if r8 = 4 then
          cs_bd (f_Sc_firstOperandAt M r6 z4) fun (r27 : Int32) =>
          cs_bd (f_Ma_come M j x1 (11 + r27)) fun (u29 : cs_Mem) =>
          u29
        else
          if r8 = 5 then
            cs_bd (f_Sc_firstOperandAt M r6 z4) fun (r32 : Int32) =>
            cs_bd (f_Ma_write M j r32) fun (u34 : cs_Mem) =>
            cs_bd (cs_up u34 (j + 1) (upd (u34 (j + 1)) (24 + r2).toNatClampNeg ((u34 (j + 1) (24 + r2).toNatClampNeg) + 1))) fun (N37 : cs_Mem) =>
            N37
          else
            cs_bd (cs_up M (j + 1) (upd (M (j + 1)) (24 + r2).toNatClampNeg ((M (j + 1) (24 + r2).toNatClampNeg) + 1))) fun (N40 : cs_Mem) =>
            N40
def pre_Ma_perform (M : cs_Mem) (j : Nat) (x1 : Int32) : Prop :=
  (pre_Ma_topFrame M j x1) ∧
  cs_bd (f_Ma_topFrame M j x1) fun (r2 : Int32) =>
  (vp_in (24 + r2) (cs_ln M (j + 1))) ∧
  cs_bd (M (j + 1) (24 + r2).toNatClampNeg) fun (z4 : Int32) =>
  (pre_Pr_script M 1 r2) ∧
  cs_bd (f_Pr_script M 1 r2) fun (r6 : Nat) =>
  (pre_Sc_actionAt M r6 z4) ∧
  cs_bd (f_Sc_actionAt M r6 z4) fun (r8 : Int32) =>
  (r8 = 1 →
    (pre_Sc_secondOperandAt M r6 z4) ∧
    cs_bd (f_Sc_secondOperandAt M r6 z4) fun (r11 : Int32) =>
    (vp_in (8 + r2) (cs_ln M (j + 1))) ∧
    cs_bd (cs_up M (j + 1) (upd (M (j + 1)) (8 + r2).toNatClampNeg r11)) fun (N13 : cs_Mem) =>
    (vp_in (24 + r2) (cs_ln N13 (j + 1))) ∧
    (vp_in (24 + r2) (cs_ln N13 (j + 1))) ∧
    True
  ) ∧ (¬ (r8 = 1) →
    (r8 = 2 →
      (pre_Ma_makeUse M j x1) ∧
      True
    ) ∧ (¬ (r8 = 2) →
      (r8 = 3 →
        (pre_Sc_firstOperandAt M r6 z4) ∧
        cs_bd (f_Sc_firstOperandAt M r6 z4) fun (r22 : Int32) =>
        (pre_Ma_come M j x1 (1 + r22)) ∧
        True
      ) ∧ (¬ (r8 = 3) →
        (r8 = 4 →
          (pre_Sc_firstOperandAt M r6 z4) ∧
          cs_bd (f_Sc_firstOperandAt M r6 z4) fun (r27 : Int32) =>
          (pre_Ma_come M j x1 (11 + r27)) ∧
          True
        ) ∧ (¬ (r8 = 4) →
          (r8 = 5 →
            (pre_Sc_firstOperandAt M r6 z4) ∧
            cs_bd (f_Sc_firstOperandAt M r6 z4) fun (r32 : Int32) =>
            (pre_Ma_write M j r32) ∧
            cs_bd (f_Ma_write M j r32) fun (u34 : cs_Mem) =>
            (vp_in (24 + r2) (cs_ln u34 (j + 1))) ∧
            (vp_in (24 + r2) (cs_ln u34 (j + 1))) ∧
            True
          ) ∧ (¬ (r8 = 5) →
            (vp_in (24 + r2) (cs_ln M (j + 1))) ∧
            (vp_in (24 + r2) (cs_ln M (j + 1))) ∧
            True
          )
        )
      )
    )
  )
set_option maxHeartbeats 4000000 in
set_option maxRecDepth 100000 in
theorem c_Ma_perform (l : Launch) (D : va_G) (cA : Nat → ClassId) (ad : Nat → Nat) (M : cs_Mem) (j : Nat) (hj : cs_is 3 j) (x1 : Int32) (hp : pre_Ma_perform M j x1) : cs_Cv l ⟨"ClassStarter$Machine", "perform", "(I)V"⟩ prog_4_method_26_code 5 none ({ frames := 3, cells := 0, slots := 0, locals := 67 }) D cA ad M [.ref (ad j), .int x1] (f_Ma_perform M j x1) := by
  refine cs_entry (by decide) (Nat.le_of_ble_eq_true rfl) (fun p e s m below meth c A ls hC hr hlk _ hw hl => ?_)
  have hx := hC.1
  have hb := hC.2.1
  have hl : lv_has ls 5 [(0, .ref (ad j)), (1, .int x1)] := hl
  generalize hF : f_Ma_perform M j x1 = F
  have hf := hF.symm
  unfold f_Ma_perform at hf
  unfold pre_Ma_perform at hp
  refine lv_aload_n hx hb d_Ma_perform_0 rfl (lv_at hl 0 rfl) ?_
  refine lv_iload_n hx hb d_Ma_perform_1 rfl (lv_at hl 1 rfl) ?_
  have o1 := hp.1
  have hp := hp.2
  refine cs_ret_p hC hw (cs_runV (As := [.int x1]) (rest := []) hC hw hj.2 (ci := 3) rfl rfl (cs_sg_is hj) (c_Ma_topFrame l D cA ad M j hj x1 o1 _) rfl rfl cw_Ma_47 ⟨Nat.le_of_ble_eq_true rfl, Nat.le_of_ble_eq_true rfl⟩ hl.1 rfl rfl (Nat.le_of_ble_eq_true rfl) d_Ma_perform_2 ⟨Nat.zero_le _, Nat.zero_le _⟩) (fun r2 H locs er2 hw => ?_)
  have hp := cs_bdP er2 hp
  have hf := cs_bdE er2 hf
  refine lv_istore_n (lv' := [(2, .int r2), (0, .ref (ad j)), (1, .int x1)]) hx hb d_Ma_perform_5 rfl hl (by decide) rfl (fun ls hl => ?_)
  refine lv_aload_n hx hb d_Ma_perform_6 rfl (lv_at hl 1 rfl) ?_
  refine gf_Ma_cells hC hw hj wd_131 d_Ma_perform_7 ?_
  refine lv_bipush (v := 24) hx hb d_Ma_perform_10 (by decide) ?_
  refine lv_iload_n hx hb d_Ma_perform_12 rfl (lv_at hl 0 rfl) ?_
  refine lv_iadd hx hb d_Ma_perform_13 ?_
  have o3 := hp.1
  have hp := hp.2
  refine cs_iald hC hw (is_Ma1 hj) o3 d_Ma_perform_14 ?_
  refine lv_topi (fun z4 ez4 => ?_)
  have hp := cs_bdP ez4 hp
  have hf := cs_bdE ez4 hf
  refine lv_istore_n (lv' := [(3, .int z4), (2, .int r2), (0, .ref (ad j)), (1, .int x1)]) hx hb d_Ma_perform_15 rfl hl (by decide) rfl (fun ls hl => ?_)
  refine lv_aload_n hx hb d_Ma_perform_16 rfl (lv_at hl 2 rfl) ?_
  refine gf_Ma_program hC hw hj wd_130 d_Ma_perform_17 ?_
  refine lv_iload_n hx hb d_Ma_perform_20 rfl (lv_at hl 1 rfl) ?_
  have o5 := hp.1
  have hp := hp.2
  refine cs_ret_rp hC hw (cs_runV (As := [.int r2]) (rest := []) hC hw is_1.2 (ci := 1) rfl rfl (cs_sg_is is_1) (c_Pr_script l D cA ad M 1 is_1 r2 o5 _) rfl rfl cw_Ma_53 ⟨Nat.le_of_ble_eq_true rfl, Nat.le_of_ble_eq_true rfl⟩ hl.1 rfl rfl (Nat.le_of_ble_eq_true rfl) d_Ma_perform_21 ⟨Nat.zero_le _, Nat.zero_le _⟩) (fun r6 H locs er6 hw => ?_)
  have hp := cs_bdP er6 hp
  have hf := cs_bdE er6 hf
  refine lv_astore (lv' := [(4, .ref (ad r6)), (3, .int z4), (2, .int r2), (0, .ref (ad j)), (1, .int x1)]) hx hb d_Ma_perform_24 hl (by decide) rfl (fun ls hl => ?_)
  refine lv_aload hx hb d_Ma_perform_26 (lv_at hl 0 rfl) ?_
  refine lv_iload_n hx hb d_Ma_perform_28 rfl (lv_at hl 1 rfl) ?_
  have o7 := hp.1
  have hp := hp.2
  refine cs_ret_p hC hw (cs_runV (As := [.int z4]) (rest := []) hC hw (is_script er6 o5).2 (ci := 2) rfl rfl (cs_sg_is (is_script er6 o5)) (c_Sc_actionAt l D cA ad M r6 (is_script er6 o5) z4 o7 _) rfl rfl cw_Ma_116 ⟨Nat.le_of_ble_eq_true rfl, Nat.le_of_ble_eq_true rfl⟩ hl.1 rfl rfl (Nat.le_of_ble_eq_true rfl) d_Ma_perform_29 ⟨Nat.zero_le _, Nat.zero_le _⟩) (fun r8 H locs er8 hw => ?_)
  have hp := cs_bdP er8 hp
  have hf := cs_bdE er8 hf
  rcases Decidable.em (r8 = 1) with c9 | c9
  · have hp := hp.1 c9
    have hf := hf.trans (if_pos c9)
    refine lv_tableIn (off := 65) (tgt := 97) hx hb d_Ma_perform_32 (by rw [c9]; decide) (by rw [c9]; decide) (by rw [c9] <;> rfl) (by decide) ?_
    refine lv_aload_n hx hb d_Ma_perform_97 rfl (lv_at hl 3 rfl) ?_
    refine gf_Ma_cells hC hw hj wd_131 d_Ma_perform_98 ?_
    refine lv_bipush (v := 8) hx hb d_Ma_perform_101 (by decide) ?_
    refine lv_iload_n hx hb d_Ma_perform_103 rfl (lv_at hl 2 rfl) ?_
    refine lv_iadd hx hb d_Ma_perform_104 ?_
    refine lv_aload hx hb d_Ma_perform_105 (lv_at hl 0 rfl) ?_
    refine lv_iload_n hx hb d_Ma_perform_107 rfl (lv_at hl 1 rfl) ?_
    have o10 := hp.1
    have hp := hp.2
    refine cs_ret_p hC hw (cs_runV (As := [.int z4]) (rest := [.int (8 + r2), .ref (ad (j + 1))]) hC hw (is_script er6 o5).2 (ci := 2) rfl rfl (cs_sg_is (is_script er6 o5)) (c_Sc_secondOperandAt l D cA ad M r6 (is_script er6 o5) z4 o10 _) rfl rfl cw_Ma_119 ⟨Nat.le_of_ble_eq_true rfl, Nat.le_of_ble_eq_true rfl⟩ hl.1 rfl rfl (Nat.le_of_ble_eq_true rfl) d_Ma_perform_108 ⟨Nat.zero_le _, Nat.zero_le _⟩) (fun r11 H locs er11 hw => ?_)
    have hp := cs_bdP er11 hp
    have hf := cs_bdE er11 hf
    have o12 := hp.1
    have hp := hp.2
    refine cs_iast hC hw (is_Ma1 hj) o12 d_Ma_perform_111 (fun N13 H locs eN13 hw => ?_)
    have hp := cs_bdP eN13 hp
    have hf := cs_bdE eN13 hf
    refine lv_goto (tgt := 134) hx hb d_Ma_perform_112 (by decide) ?_
    refine lv_aload_n hx hb d_Ma_perform_134 rfl (lv_at hl 3 rfl) ?_
    refine gf_Ma_cells hC hw hj wd_131 d_Ma_perform_135 ?_
    refine lv_bipush (v := 24) hx hb d_Ma_perform_138 (by decide) ?_
    refine lv_iload_n hx hb d_Ma_perform_140 rfl (lv_at hl 2 rfl) ?_
    refine lv_iadd hx hb d_Ma_perform_141 ?_
    refine lv_dup2_11 hx hb d_Ma_perform_142 rfl rfl ?_
    have o14 := hp.1
    have hp := hp.2
    refine cs_iald hC hw (is_Ma1 hj) o14 d_Ma_perform_143 ?_
    refine lv_iconst (v := 1) hx hb d_Ma_perform_144 (by decide) ?_
    refine lv_iadd hx hb d_Ma_perform_145 ?_
    have o15 := hp.1
    have hp := hp.2
    refine cs_iast hC hw (is_Ma1 hj) o15 d_Ma_perform_146 (fun N16 H locs eN16 hw => ?_)
    have hf := cs_bdE eN16 hf
    exact cs_vret hC hw hr hlk hf d_Ma_perform_147
  · have hp := hp.2 c9
    have hf := hf.trans (if_neg c9)
    rcases Decidable.em (r8 = 2) with c17 | c17
    · have hp := hp.1 c17
      have hf := hf.trans (if_pos c17)
      refine lv_tableIn (off := 83) (tgt := 115) hx hb d_Ma_perform_32 (by rw [c17]; decide) (by rw [c17]; decide) (by rw [c17] <;> rfl) (by decide) ?_
      refine lv_aload_n hx hb d_Ma_perform_115 rfl (lv_at hl 3 rfl) ?_
      refine lv_iload_n hx hb d_Ma_perform_116 rfl (lv_at hl 4 rfl) ?_
      have o18 := hp.1
      have hp := hp.2
      refine cs_ret_v hC hw (cs_runV (As := [.int x1]) (rest := []) hC hw hj.2 (ci := 3) rfl rfl (cs_sg_is hj) (c_Ma_makeUse l D cA ad M j hj x1 o18 _) rfl rfl cw_Ma_107 ⟨Nat.le_of_ble_eq_true rfl, Nat.le_of_ble_eq_true rfl⟩ hl.1 rfl rfl (Nat.le_of_ble_eq_true rfl) d_Ma_perform_117 ⟨Nat.zero_le _, Nat.zero_le _⟩) (fun u19 H locs eu19 hw => ?_)
      have hf := cs_bdE eu19 hf
      exact cs_vret hC hw hr hlk hf d_Ma_perform_120
    · have hp := hp.2 c17
      have hf := hf.trans (if_neg c17)
      rcases Decidable.em (r8 = 3) with c20 | c20
      · have hp := hp.1 c20
        have hf := hf.trans (if_pos c20)
        refine lv_tableIn (off := 36) (tgt := 68) hx hb d_Ma_perform_32 (by rw [c20]; decide) (by rw [c20]; decide) (by rw [c20] <;> rfl) (by decide) ?_
        refine lv_aload_n hx hb d_Ma_perform_68 rfl (lv_at hl 3 rfl) ?_
        refine lv_iload_n hx hb d_Ma_perform_69 rfl (lv_at hl 4 rfl) ?_
        refine lv_iconst (v := 1) hx hb d_Ma_perform_70 (by decide) ?_
        refine lv_aload hx hb d_Ma_perform_71 (lv_at hl 0 rfl) ?_
        refine lv_iload_n hx hb d_Ma_perform_73 rfl (lv_at hl 1 rfl) ?_
        have o21 := hp.1
        have hp := hp.2
        refine cs_ret_p hC hw (cs_runV (As := [.int z4]) (rest := [.int 1, .int x1, .ref (ad j)]) hC hw (is_script er6 o5).2 (ci := 2) rfl rfl (cs_sg_is (is_script er6 o5)) (c_Sc_firstOperandAt l D cA ad M r6 (is_script er6 o5) z4 o21 _) rfl rfl cw_Ma_122 ⟨Nat.le_of_ble_eq_true rfl, Nat.le_of_ble_eq_true rfl⟩ hl.1 rfl rfl (Nat.le_of_ble_eq_true rfl) d_Ma_perform_74 ⟨Nat.zero_le _, Nat.zero_le _⟩) (fun r22 H locs er22 hw => ?_)
        have hp := cs_bdP er22 hp
        have hf := cs_bdE er22 hf
        refine lv_iadd hx hb d_Ma_perform_77 ?_
        have o23 := hp.1
        have hp := hp.2
        refine cs_ret_v hC hw (cs_runV (As := [.int x1, .int (1 + r22)]) (rest := []) hC hw hj.2 (ci := 3) rfl rfl (cs_sg_is hj) (c_Ma_come l D cA ad M j hj x1 (1 + r22) o23 _) rfl rfl cw_Ma_104 ⟨Nat.le_of_ble_eq_true rfl, Nat.le_of_ble_eq_true rfl⟩ hl.1 rfl rfl (Nat.le_of_ble_eq_true rfl) d_Ma_perform_78 ⟨Nat.zero_le _, Nat.zero_le _⟩) (fun u24 H locs eu24 hw => ?_)
        have hf := cs_bdE eu24 hf
        exact cs_vret hC hw hr hlk hf d_Ma_perform_81
      · have hp := hp.2 c20
        have hf := hf.trans (if_neg c20)
        rcases Decidable.em (r8 = 4) with c25 | c25
        · have hp := hp.1 c25
          have hf := hf.trans (if_pos c25)
          refine lv_tableIn (off := 50) (tgt := 82) hx hb d_Ma_perform_32 (by rw [c25]; decide) (by rw [c25]; decide) (by rw [c25] <;> rfl) (by decide) ?_
          refine lv_aload_n hx hb d_Ma_perform_82 rfl (lv_at hl 3 rfl) ?_
          refine lv_iload_n hx hb d_Ma_perform_83 rfl (lv_at hl 4 rfl) ?_
          refine lv_bipush (v := 11) hx hb d_Ma_perform_84 (by decide) ?_
          refine lv_aload hx hb d_Ma_perform_86 (lv_at hl 0 rfl) ?_
          refine lv_iload_n hx hb d_Ma_perform_88 rfl (lv_at hl 1 rfl) ?_
          have o26 := hp.1
          have hp := hp.2
          refine cs_ret_p hC hw (cs_runV (As := [.int z4]) (rest := [.int 11, .int x1, .ref (ad j)]) hC hw (is_script er6 o5).2 (ci := 2) rfl rfl (cs_sg_is (is_script er6 o5)) (c_Sc_firstOperandAt l D cA ad M r6 (is_script er6 o5) z4 o26 _) rfl rfl cw_Ma_122 ⟨Nat.le_of_ble_eq_true rfl, Nat.le_of_ble_eq_true rfl⟩ hl.1 rfl rfl (Nat.le_of_ble_eq_true rfl) d_Ma_perform_89 ⟨Nat.zero_le _, Nat.zero_le _⟩) (fun r27 H locs er27 hw => ?_)
          have hp := cs_bdP er27 hp
          have hf := cs_bdE er27 hf
          refine lv_iadd hx hb d_Ma_perform_92 ?_
          have o28 := hp.1
          have hp := hp.2
          refine cs_ret_v hC hw (cs_runV (As := [.int x1, .int (11 + r27)]) (rest := []) hC hw hj.2 (ci := 3) rfl rfl (cs_sg_is hj) (c_Ma_come l D cA ad M j hj x1 (11 + r27) o28 _) rfl rfl cw_Ma_104 ⟨Nat.le_of_ble_eq_true rfl, Nat.le_of_ble_eq_true rfl⟩ hl.1 rfl rfl (Nat.le_of_ble_eq_true rfl) d_Ma_perform_93 ⟨Nat.zero_le _, Nat.zero_le _⟩) (fun u29 H locs eu29 hw => ?_)
          have hf := cs_bdE eu29 hf
          exact cs_vret hC hw hr hlk hf d_Ma_perform_96
        · have hp := hp.2 c25
          have hf := hf.trans (if_neg c25)
          rcases Decidable.em (r8 = 5) with c30 | c30
          · have hp := hp.1 c30
            have hf := hf.trans (if_pos c30)
            refine lv_tableIn (off := 89) (tgt := 121) hx hb d_Ma_perform_32 (by rw [c30]; decide) (by rw [c30]; decide) (by rw [c30] <;> rfl) (by decide) ?_
            refine lv_aload_n hx hb d_Ma_perform_121 rfl (lv_at hl 3 rfl) ?_
            refine lv_aload hx hb d_Ma_perform_122 (lv_at hl 0 rfl) ?_
            refine lv_iload_n hx hb d_Ma_perform_124 rfl (lv_at hl 1 rfl) ?_
            have o31 := hp.1
            have hp := hp.2
            refine cs_ret_p hC hw (cs_runV (As := [.int z4]) (rest := [.ref (ad j)]) hC hw (is_script er6 o5).2 (ci := 2) rfl rfl (cs_sg_is (is_script er6 o5)) (c_Sc_firstOperandAt l D cA ad M r6 (is_script er6 o5) z4 o31 _) rfl rfl cw_Ma_122 ⟨Nat.le_of_ble_eq_true rfl, Nat.le_of_ble_eq_true rfl⟩ hl.1 rfl rfl (Nat.le_of_ble_eq_true rfl) d_Ma_perform_125 ⟨Nat.zero_le _, Nat.zero_le _⟩) (fun r32 H locs er32 hw => ?_)
            have hp := cs_bdP er32 hp
            have hf := cs_bdE er32 hf
            have o33 := hp.1
            have hp := hp.2
            refine cs_ret_v hC hw (cs_runV (As := [.int r32]) (rest := []) hC hw hj.2 (ci := 3) rfl rfl (cs_sg_is hj) (c_Ma_write l D cA ad M j hj r32 o33 _) rfl rfl cw_Ma_128 ⟨Nat.le_of_ble_eq_true rfl, Nat.le_of_ble_eq_true rfl⟩ hl.1 rfl rfl (Nat.le_of_ble_eq_true rfl) d_Ma_perform_128 ⟨Nat.zero_le _, Nat.zero_le _⟩) (fun u34 H locs eu34 hw => ?_)
            have hp := cs_bdP eu34 hp
            have hf := cs_bdE eu34 hf
            refine lv_goto (tgt := 134) hx hb d_Ma_perform_131 (by decide) ?_
            refine lv_aload_n hx hb d_Ma_perform_134 rfl (lv_at hl 3 rfl) ?_
            refine gf_Ma_cells hC hw hj wd_131 d_Ma_perform_135 ?_
            refine lv_bipush (v := 24) hx hb d_Ma_perform_138 (by decide) ?_
            refine lv_iload_n hx hb d_Ma_perform_140 rfl (lv_at hl 2 rfl) ?_
            refine lv_iadd hx hb d_Ma_perform_141 ?_
            refine lv_dup2_11 hx hb d_Ma_perform_142 rfl rfl ?_
            have o35 := hp.1
            have hp := hp.2
            refine cs_iald hC hw (is_Ma1 hj) o35 d_Ma_perform_143 ?_
            refine lv_iconst (v := 1) hx hb d_Ma_perform_144 (by decide) ?_
            refine lv_iadd hx hb d_Ma_perform_145 ?_
            have o36 := hp.1
            have hp := hp.2
            refine cs_iast hC hw (is_Ma1 hj) o36 d_Ma_perform_146 (fun N37 H locs eN37 hw => ?_)
            have hf := cs_bdE eN37 hf
            exact cs_vret hC hw hr hlk hf d_Ma_perform_147
          · have hp := hp.2 c30
            have hf := hf.trans (if_neg c30)
            refine lv_tableOut (tgt := 134) hx hb d_Ma_perform_32 (by have q0 := lv_neT c9 (show (1 : Int32).toInt = 1 by decide); have q1 := lv_neT c17 (show (2 : Int32).toInt = 2 by decide); have q2 := lv_neT c20 (show (3 : Int32).toInt = 3 by decide); have q3 := lv_neT c25 (show (4 : Int32).toInt = 4 by decide); have q4 := lv_neT c30 (show (5 : Int32).toInt = 5 by decide); omega) (by decide) ?_
            refine lv_aload_n hx hb d_Ma_perform_134 rfl (lv_at hl 3 rfl) ?_
            refine gf_Ma_cells hC hw hj wd_131 d_Ma_perform_135 ?_
            refine lv_bipush (v := 24) hx hb d_Ma_perform_138 (by decide) ?_
            refine lv_iload_n hx hb d_Ma_perform_140 rfl (lv_at hl 2 rfl) ?_
            refine lv_iadd hx hb d_Ma_perform_141 ?_
            refine lv_dup2_11 hx hb d_Ma_perform_142 rfl rfl ?_
            have o38 := hp.1
            have hp := hp.2
            refine cs_iald hC hw (is_Ma1 hj) o38 d_Ma_perform_143 ?_
            refine lv_iconst (v := 1) hx hb d_Ma_perform_144 (by decide) ?_
            refine lv_iadd hx hb d_Ma_perform_145 ?_
            have o39 := hp.1
            have hp := hp.2
            refine cs_iast hC hw (is_Ma1 hj) o39 d_Ma_perform_146 (fun N40 H locs eN40 hw => ?_)
            have hf := cs_bdE eN40 hf
            exact cs_vret hC hw hr hlk hf d_Ma_perform_147
theorem d_Ma_advance_0 : decode prog_4_method_19_code 0 = .ok (.aload_n 0, 1) := by decide +kernel
theorem d_Ma_advance_1 : decode prog_4_method_19_code 1 = .ok (.getfield 11, 3) := by decide +kernel
theorem d_Ma_advance_4 : decode prog_4_method_19_code 4 = .ok (.bipush 41, 2) := by decide +kernel
theorem d_Ma_advance_6 : decode prog_4_method_19_code 6 = .ok (.dup2, 1) := by decide +kernel
theorem d_Ma_advance_7 : decode prog_4_method_19_code 7 = .ok (.iaload, 1) := by decide +kernel
theorem d_Ma_advance_8 : decode prog_4_method_19_code 8 = .ok (.iconst 1, 1) := by decide +kernel
theorem d_Ma_advance_9 : decode prog_4_method_19_code 9 = .ok (.iadd, 1) := by decide +kernel
theorem d_Ma_advance_10 : decode prog_4_method_19_code 10 = .ok (.iastore, 1) := by decide +kernel
theorem d_Ma_advance_11 : decode prog_4_method_19_code 11 = .ok (.aload_n 0, 1) := by decide +kernel
theorem d_Ma_advance_12 : decode prog_4_method_19_code 12 = .ok (.iload_n 1, 1) := by decide +kernel
theorem d_Ma_advance_13 : decode prog_4_method_19_code 13 = .ok (.invokevirtual 47, 3) := by decide +kernel
theorem d_Ma_advance_16 : decode prog_4_method_19_code 16 = .ok (.istore_n 2, 1) := by decide +kernel
theorem d_Ma_advance_17 : decode prog_4_method_19_code 17 = .ok (.aload_n 0, 1) := by decide +kernel
theorem d_Ma_advance_18 : decode prog_4_method_19_code 18 = .ok (.getfield 18, 3) := by decide +kernel
theorem d_Ma_advance_21 : decode prog_4_method_19_code 21 = .ok (.iload_n 2, 1) := by decide +kernel
theorem d_Ma_advance_22 : decode prog_4_method_19_code 22 = .ok (.aload_n 0, 1) := by decide +kernel
theorem d_Ma_advance_23 : decode prog_4_method_19_code 23 = .ok (.getfield 11, 3) := by decide +kernel
theorem d_Ma_advance_26 : decode prog_4_method_19_code 26 = .ok (.bipush 24, 2) := by decide +kernel
theorem d_Ma_advance_28 : decode prog_4_method_19_code 28 = .ok (.iload_n 2, 1) := by decide +kernel
theorem d_Ma_advance_29 : decode prog_4_method_19_code 29 = .ok (.iadd, 1) := by decide +kernel
theorem d_Ma_advance_30 : decode prog_4_method_19_code 30 = .ok (.iaload, 1) := by decide +kernel
theorem d_Ma_advance_31 : decode prog_4_method_19_code 31 = .ok (.invokevirtual 63, 3) := by decide +kernel
theorem d_Ma_advance_34 : decode prog_4_method_19_code 34 = .ok (.istore_n 3, 1) := by decide +kernel
theorem d_Ma_advance_35 : decode prog_4_method_19_code 35 = .ok (.aload_n 0, 1) := by decide +kernel
theorem d_Ma_advance_36 : decode prog_4_method_19_code 36 = .ok (.getfield 11, 3) := by decide +kernel
theorem d_Ma_advance_39 : decode prog_4_method_19_code 39 = .ok (.bipush 38, 2) := by decide +kernel
theorem d_Ma_advance_41 : decode prog_4_method_19_code 41 = .ok (.iload_n 1, 1) := by decide +kernel
theorem d_Ma_advance_42 : decode prog_4_method_19_code 42 = .ok (.iadd, 1) := by decide +kernel
theorem d_Ma_advance_43 : decode prog_4_method_19_code 43 = .ok (.iaload, 1) := by decide +kernel
theorem d_Ma_advance_44 : decode prog_4_method_19_code 44 = .ok (.ifCond .eq 11, 3) := by decide +kernel
theorem d_Ma_advance_47 : decode prog_4_method_19_code 47 = .ok (.aload_n 0, 1) := by decide +kernel
theorem d_Ma_advance_48 : decode prog_4_method_19_code 48 = .ok (.iload_n 1, 1) := by decide +kernel
theorem d_Ma_advance_49 : decode prog_4_method_19_code 49 = .ok (.invokevirtual 82, 3) := by decide +kernel
theorem d_Ma_advance_52 : decode prog_4_method_19_code 52 = .ok (.goto 38, 3) := by decide +kernel
theorem d_Ma_advance_55 : decode prog_4_method_19_code 55 = .ok (.aload_n 0, 1) := by decide +kernel
theorem d_Ma_advance_56 : decode prog_4_method_19_code 56 = .ok (.iload_n 2, 1) := by decide +kernel
theorem d_Ma_advance_57 : decode prog_4_method_19_code 57 = .ok (.invokevirtual 50, 3) := by decide +kernel
theorem d_Ma_advance_60 : decode prog_4_method_19_code 60 = .ok (.ifCond .eq 11, 3) := by decide +kernel
theorem d_Ma_advance_63 : decode prog_4_method_19_code 63 = .ok (.aload_n 0, 1) := by decide +kernel
theorem d_Ma_advance_64 : decode prog_4_method_19_code 64 = .ok (.iload_n 1, 1) := by decide +kernel
theorem d_Ma_advance_65 : decode prog_4_method_19_code 65 = .ok (.invokevirtual 86, 3) := by decide +kernel
theorem d_Ma_advance_68 : decode prog_4_method_19_code 68 = .ok (.goto 22, 3) := by decide +kernel
theorem d_Ma_advance_71 : decode prog_4_method_19_code 71 = .ok (.iload_n 3, 1) := by decide +kernel
theorem d_Ma_advance_72 : decode prog_4_method_19_code 72 = .ok (.iconst (-1), 1) := by decide +kernel
theorem d_Ma_advance_73 : decode prog_4_method_19_code 73 = .ok (.if_icmp .eq 12, 3) := by decide +kernel
theorem d_Ma_advance_76 : decode prog_4_method_19_code 76 = .ok (.aload_n 0, 1) := by decide +kernel
theorem d_Ma_advance_77 : decode prog_4_method_19_code 77 = .ok (.iload_n 1, 1) := by decide +kernel
theorem d_Ma_advance_78 : decode prog_4_method_19_code 78 = .ok (.iload_n 3, 1) := by decide +kernel
theorem d_Ma_advance_79 : decode prog_4_method_19_code 79 = .ok (.invokevirtual 89, 3) := by decide +kernel
theorem d_Ma_advance_82 : decode prog_4_method_19_code 82 = .ok (.goto 8, 3) := by decide +kernel
theorem d_Ma_advance_85 : decode prog_4_method_19_code 85 = .ok (.aload_n 0, 1) := by decide +kernel
theorem d_Ma_advance_86 : decode prog_4_method_19_code 86 = .ok (.iload_n 1, 1) := by decide +kernel
theorem d_Ma_advance_87 : decode prog_4_method_19_code 87 = .ok (.invokevirtual 93, 3) := by decide +kernel
theorem d_Ma_advance_90 : decode prog_4_method_19_code 90 = .ok (.return_, 1) := by decide +kernel
def f_Ma_advance (M : cs_Mem) (j : Nat) (x1 : Int32) : cs_Mem :=
  cs_bd (cs_up M (j + 1) (upd (M (j + 1)) 41 ((M (j + 1) 41) + 1))) fun (N3 : cs_Mem) =>
  cs_bd (f_Ma_topFrame N3 j x1) fun (r5 : Int32) =>
  cs_bd (f_Pr_usedBy N3 1 r5 (N3 (j + 1) (24 + r5).toNatClampNeg)) fun (r8 : Int32) =>
  if (N3 (j + 1) (38 + x1).toNatClampNeg) = 0 then
    cs_bd (f_Ma_isBehindLast N3 j r5) fun (r12 : Int32) =>
    if r12 = 0 then
      if r8 = (-1) then
        cs_bd (f_Ma_perform N3 j x1) fun (u16 : cs_Mem) =>
        u16
      else
        cs_bd (f_Ma_use N3 j x1 r8) fun (u18 : cs_Mem) =>
        u18
    else
      cs_bd (f_Ma_finishTop N3 j x1) fun (u20 : cs_Mem) =>
      u20
  else
    cs_bd (f_Ma_failTop N3 j x1) fun (u22 : cs_Mem) =>
    u22
def pre_Ma_advance (M : cs_Mem) (j : Nat) (x1 : Int32) : Prop :=
  (vp_in 41 (cs_ln M (j + 1))) ∧
  (vp_in 41 (cs_ln M (j + 1))) ∧
  cs_bd (cs_up M (j + 1) (upd (M (j + 1)) 41 ((M (j + 1) 41) + 1))) fun (N3 : cs_Mem) =>
  (pre_Ma_topFrame N3 j x1) ∧
  cs_bd (f_Ma_topFrame N3 j x1) fun (r5 : Int32) =>
  (vp_in (24 + r5) (cs_ln N3 (j + 1))) ∧
  (pre_Pr_usedBy N3 1 r5 (N3 (j + 1) (24 + r5).toNatClampNeg)) ∧
  cs_bd (f_Pr_usedBy N3 1 r5 (N3 (j + 1) (24 + r5).toNatClampNeg)) fun (r8 : Int32) =>
  (vp_in (38 + x1) (cs_ln N3 (j + 1))) ∧
  ((N3 (j + 1) (38 + x1).toNatClampNeg) = 0 →
    (pre_Ma_isBehindLast N3 j r5) ∧
    cs_bd (f_Ma_isBehindLast N3 j r5) fun (r12 : Int32) =>
    (r12 = 0 →
      (r8 = (-1) →
        (pre_Ma_perform N3 j x1) ∧
        True
      ) ∧ (¬ (r8 = (-1)) →
        (pre_Ma_use N3 j x1 r8) ∧
        True
      )
    ) ∧ (¬ (r12 = 0) →
      (pre_Ma_finishTop N3 j x1) ∧
      True
    )
  ) ∧ (¬ ((N3 (j + 1) (38 + x1).toNatClampNeg) = 0) →
    (pre_Ma_failTop N3 j x1) ∧
    True
  )
set_option maxHeartbeats 4000000 in
set_option maxRecDepth 100000 in
theorem c_Ma_advance (l : Launch) (D : va_G) (cA : Nat → ClassId) (ad : Nat → Nat) (M : cs_Mem) (j : Nat) (hj : cs_is 3 j) (x1 : Int32) (hp : pre_Ma_advance M j x1) : cs_Cv l ⟨"ClassStarter$Machine", "advance", "(I)V"⟩ prog_4_method_19_code 4 none ({ frames := 4, cells := 0, slots := 0, locals := 91 }) D cA ad M [.ref (ad j), .int x1] (f_Ma_advance M j x1) := by
  refine cs_entry (by decide) (Nat.le_of_ble_eq_true rfl) (fun p e s m below meth c A ls hC hr hlk _ hw hl => ?_)
  have hx := hC.1
  have hb := hC.2.1
  have hl : lv_has ls 4 [(0, .ref (ad j)), (1, .int x1)] := hl
  generalize hF : f_Ma_advance M j x1 = F
  have hf := hF.symm
  unfold f_Ma_advance at hf
  unfold pre_Ma_advance at hp
  refine lv_aload_n hx hb d_Ma_advance_0 rfl (lv_at hl 0 rfl) ?_
  refine gf_Ma_cells hC hw hj wd_131 d_Ma_advance_1 ?_
  refine lv_bipush (v := 41) hx hb d_Ma_advance_4 (by decide) ?_
  refine lv_dup2_11 hx hb d_Ma_advance_6 rfl rfl ?_
  have o1 := hp.1
  have hp := hp.2
  refine cs_iald hC hw (is_Ma1 hj) o1 d_Ma_advance_7 ?_
  refine lv_iconst (v := 1) hx hb d_Ma_advance_8 (by decide) ?_
  refine lv_iadd hx hb d_Ma_advance_9 ?_
  have o2 := hp.1
  have hp := hp.2
  refine cs_iast hC hw (is_Ma1 hj) o2 d_Ma_advance_10 (fun N3 H locs eN3 hw => ?_)
  have hp := cs_bdP eN3 hp
  have hf := cs_bdE eN3 hf
  refine lv_aload_n hx hb d_Ma_advance_11 rfl (lv_at hl 0 rfl) ?_
  refine lv_iload_n hx hb d_Ma_advance_12 rfl (lv_at hl 1 rfl) ?_
  have o4 := hp.1
  have hp := hp.2
  refine cs_ret_p hC hw (cs_runV (As := [.int x1]) (rest := []) hC hw hj.2 (ci := 3) rfl rfl (cs_sg_is hj) (c_Ma_topFrame l D cA ad N3 j hj x1 o4 _) rfl rfl cw_Ma_47 ⟨Nat.le_of_ble_eq_true rfl, Nat.le_of_ble_eq_true rfl⟩ hl.1 rfl rfl (Nat.le_of_ble_eq_true rfl) d_Ma_advance_13 ⟨Nat.zero_le _, Nat.zero_le _⟩) (fun r5 H locs er5 hw => ?_)
  have hp := cs_bdP er5 hp
  have hf := cs_bdE er5 hf
  refine lv_istore_n (lv' := [(2, .int r5), (0, .ref (ad j)), (1, .int x1)]) hx hb d_Ma_advance_16 rfl hl (by decide) rfl (fun ls hl => ?_)
  refine lv_aload_n hx hb d_Ma_advance_17 rfl (lv_at hl 1 rfl) ?_
  refine gf_Ma_program hC hw hj wd_130 d_Ma_advance_18 ?_
  refine lv_iload_n hx hb d_Ma_advance_21 rfl (lv_at hl 0 rfl) ?_
  refine lv_aload_n hx hb d_Ma_advance_22 rfl (lv_at hl 1 rfl) ?_
  refine gf_Ma_cells hC hw hj wd_131 d_Ma_advance_23 ?_
  refine lv_bipush (v := 24) hx hb d_Ma_advance_26 (by decide) ?_
  refine lv_iload_n hx hb d_Ma_advance_28 rfl (lv_at hl 0 rfl) ?_
  refine lv_iadd hx hb d_Ma_advance_29 ?_
  have o6 := hp.1
  have hp := hp.2
  refine cs_iald hC hw (is_Ma1 hj) o6 d_Ma_advance_30 ?_
  have o7 := hp.1
  have hp := hp.2
  refine cs_ret_p hC hw (cs_runV (As := [.int r5, .int (N3 (j + 1) (24 + r5).toNatClampNeg)]) (rest := []) hC hw is_1.2 (ci := 1) rfl rfl (cs_sg_is is_1) (c_Pr_usedBy l D cA ad N3 1 is_1 r5 (N3 (j + 1) (24 + r5).toNatClampNeg) o7 _) rfl rfl cw_Ma_63 ⟨Nat.le_of_ble_eq_true rfl, Nat.le_of_ble_eq_true rfl⟩ hl.1 rfl rfl (Nat.le_of_ble_eq_true rfl) d_Ma_advance_31 ⟨Nat.zero_le _, Nat.zero_le _⟩) (fun r8 H locs er8 hw => ?_)
  have hp := cs_bdP er8 hp
  have hf := cs_bdE er8 hf
  refine lv_istore_n (lv' := [(3, .int r8), (2, .int r5), (0, .ref (ad j)), (1, .int x1)]) hx hb d_Ma_advance_34 rfl hl (by decide) rfl (fun ls hl => ?_)
  refine lv_aload_n hx hb d_Ma_advance_35 rfl (lv_at hl 2 rfl) ?_
  refine gf_Ma_cells hC hw hj wd_131 d_Ma_advance_36 ?_
  refine lv_bipush (v := 38) hx hb d_Ma_advance_39 (by decide) ?_
  refine lv_iload_n hx hb d_Ma_advance_41 rfl (lv_at hl 3 rfl) ?_
  refine lv_iadd hx hb d_Ma_advance_42 ?_
  have o9 := hp.1
  have hp := hp.2
  refine cs_iald hC hw (is_Ma1 hj) o9 d_Ma_advance_43 ?_
  refine lv_if_eq (tgt := 55) hx hb d_Ma_advance_44 (by decide) (fun c10 => ?_) (fun c10 => ?_)
  · have hp := hp.1 c10
    have hf := hf.trans (if_pos c10)
    refine lv_aload_n hx hb d_Ma_advance_55 rfl (lv_at hl 2 rfl) ?_
    refine lv_iload_n hx hb d_Ma_advance_56 rfl (lv_at hl 1 rfl) ?_
    have o11 := hp.1
    have hp := hp.2
    refine cs_ret_p hC hw (cs_runV (As := [.int r5]) (rest := []) hC hw hj.2 (ci := 3) rfl rfl (cs_sg_is hj) (c_Ma_isBehindLast l D cA ad N3 j hj r5 o11 _) rfl rfl cw_Ma_50 ⟨Nat.le_of_ble_eq_true rfl, Nat.le_of_ble_eq_true rfl⟩ hl.1 rfl rfl (Nat.le_of_ble_eq_true rfl) d_Ma_advance_57 ⟨Nat.zero_le _, Nat.zero_le _⟩) (fun r12 H locs er12 hw => ?_)
    have hp := cs_bdP er12 hp
    have hf := cs_bdE er12 hf
    refine lv_if_eq (tgt := 71) hx hb d_Ma_advance_60 (by decide) (fun c13 => ?_) (fun c13 => ?_)
    · have hp := hp.1 c13
      have hf := hf.trans (if_pos c13)
      refine lv_iload_n hx hb d_Ma_advance_71 rfl (lv_at hl 0 rfl) ?_
      refine lv_iconst (v := (-1)) hx hb d_Ma_advance_72 (by decide) ?_
      refine lv_icmp_eq (tgt := 85) hx hb d_Ma_advance_73 (by decide) (fun c14 => ?_) (fun c14 => ?_)
      · have hp := hp.1 c14
        have hf := hf.trans (if_pos c14)
        refine lv_aload_n hx hb d_Ma_advance_85 rfl (lv_at hl 2 rfl) ?_
        refine lv_iload_n hx hb d_Ma_advance_86 rfl (lv_at hl 3 rfl) ?_
        have o15 := hp.1
        have hp := hp.2
        refine cs_ret_v hC hw (cs_runV (As := [.int x1]) (rest := []) hC hw hj.2 (ci := 3) rfl rfl (cs_sg_is hj) (c_Ma_perform l D cA ad N3 j hj x1 o15 _) rfl rfl cw_Ma_93 ⟨Nat.le_of_ble_eq_true rfl, Nat.le_of_ble_eq_true rfl⟩ hl.1 rfl rfl (Nat.le_of_ble_eq_true rfl) d_Ma_advance_87 ⟨Nat.zero_le _, Nat.zero_le _⟩) (fun u16 H locs eu16 hw => ?_)
        have hf := cs_bdE eu16 hf
        exact cs_vret hC hw hr hlk hf d_Ma_advance_90
      · have hp := hp.2 c14
        have hf := hf.trans (if_neg c14)
        refine lv_aload_n hx hb d_Ma_advance_76 rfl (lv_at hl 2 rfl) ?_
        refine lv_iload_n hx hb d_Ma_advance_77 rfl (lv_at hl 3 rfl) ?_
        refine lv_iload_n hx hb d_Ma_advance_78 rfl (lv_at hl 0 rfl) ?_
        have o17 := hp.1
        have hp := hp.2
        refine cs_ret_v hC hw (cs_runV (As := [.int x1, .int r8]) (rest := []) hC hw hj.2 (ci := 3) rfl rfl (cs_sg_is hj) (c_Ma_use l D cA ad N3 j hj x1 r8 o17 _) rfl rfl cw_Ma_89 ⟨Nat.le_of_ble_eq_true rfl, Nat.le_of_ble_eq_true rfl⟩ hl.1 rfl rfl (Nat.le_of_ble_eq_true rfl) d_Ma_advance_79 ⟨Nat.zero_le _, Nat.zero_le _⟩) (fun u18 H locs eu18 hw => ?_)
        have hf := cs_bdE eu18 hf
        refine lv_goto (tgt := 90) hx hb d_Ma_advance_82 (by decide) ?_
        exact cs_vret hC hw hr hlk hf d_Ma_advance_90
    · have hp := hp.2 c13
      have hf := hf.trans (if_neg c13)
      refine lv_aload_n hx hb d_Ma_advance_63 rfl (lv_at hl 2 rfl) ?_
      refine lv_iload_n hx hb d_Ma_advance_64 rfl (lv_at hl 3 rfl) ?_
      have o19 := hp.1
      have hp := hp.2
      refine cs_ret_v hC hw (cs_runV (As := [.int x1]) (rest := []) hC hw hj.2 (ci := 3) rfl rfl (cs_sg_is hj) (c_Ma_finishTop l D cA ad N3 j hj x1 o19 _) rfl rfl cw_Ma_86 ⟨Nat.le_of_ble_eq_true rfl, Nat.le_of_ble_eq_true rfl⟩ hl.1 rfl rfl (Nat.le_of_ble_eq_true rfl) d_Ma_advance_65 ⟨Nat.zero_le _, Nat.zero_le _⟩) (fun u20 H locs eu20 hw => ?_)
      have hf := cs_bdE eu20 hf
      refine lv_goto (tgt := 90) hx hb d_Ma_advance_68 (by decide) ?_
      exact cs_vret hC hw hr hlk hf d_Ma_advance_90
  · have hp := hp.2 c10
    have hf := hf.trans (if_neg c10)
    refine lv_aload_n hx hb d_Ma_advance_47 rfl (lv_at hl 2 rfl) ?_
    refine lv_iload_n hx hb d_Ma_advance_48 rfl (lv_at hl 3 rfl) ?_
    have o21 := hp.1
    have hp := hp.2
    refine cs_ret_v hC hw (cs_runV (As := [.int x1]) (rest := []) hC hw hj.2 (ci := 3) rfl rfl (cs_sg_is hj) (c_Ma_failTop l D cA ad N3 j hj x1 o21 _) rfl rfl cw_Ma_82 ⟨Nat.le_of_ble_eq_true rfl, Nat.le_of_ble_eq_true rfl⟩ hl.1 rfl rfl (Nat.le_of_ble_eq_true rfl) d_Ma_advance_49 ⟨Nat.zero_le _, Nat.zero_le _⟩) (fun u22 H locs eu22 hw => ?_)
    have hf := cs_bdE eu22 hf
    refine lv_goto (tgt := 90) hx hb d_Ma_advance_52 (by decide) ?_
    exact cs_vret hC hw hr hlk hf d_Ma_advance_90
theorem d_Ma_steps_0 : decode prog_4_method_5_code 0 = .ok (.aload_n 0, 1) := by decide +kernel
theorem d_Ma_steps_1 : decode prog_4_method_5_code 1 = .ok (.getfield 11, 3) := by decide +kernel
theorem d_Ma_steps_4 : decode prog_4_method_5_code 4 = .ok (.bipush 41, 2) := by decide +kernel
theorem d_Ma_steps_6 : decode prog_4_method_5_code 6 = .ok (.iaload, 1) := by decide +kernel
theorem d_Ma_steps_7 : decode prog_4_method_5_code 7 = .ok (.ireturn, 1) := by decide +kernel
def f_Ma_steps (M : cs_Mem) (j : Nat) : Int32 :=
  M (j + 1) 41
def pre_Ma_steps (M : cs_Mem) (j : Nat) : Prop :=
  (vp_in 41 (cs_ln M (j + 1))) ∧
  True
set_option maxHeartbeats 4000000 in
set_option maxRecDepth 100000 in
theorem c_Ma_steps (l : Launch) (D : va_G) (cA : Nat → ClassId) (ad : Nat → Nat) (M : cs_Mem) (j : Nat) (hj : cs_is 3 j) (hp : pre_Ma_steps M j) : cs_Ci l ⟨"ClassStarter$Machine", "steps", "()I"⟩ prog_4_method_5_code 1 (some .int) ({ frames := 0, cells := 0, slots := 0, locals := 0 }) D cA ad M [.ref (ad j)] ((f_Ma_steps M j, M)) := by
  refine cs_entry (by decide) (Nat.le_of_ble_eq_true rfl) (fun p e s m below meth c A ls hC hr hlk _ hw hl => ?_)
  have hx := hC.1
  have hb := hC.2.1
  have hl : lv_has ls 1 [(0, .ref (ad j))] := hl
  generalize hF : f_Ma_steps M j = F
  have hf := hF.symm
  unfold f_Ma_steps at hf
  unfold pre_Ma_steps at hp
  refine lv_aload_n hx hb d_Ma_steps_0 rfl (lv_at hl 0 rfl) ?_
  refine gf_Ma_cells hC hw hj wd_131 d_Ma_steps_1 ?_
  refine lv_bipush (v := 41) hx hb d_Ma_steps_4 (by decide) ?_
  have o1 := hp.1
  have hp := hp.2
  refine cs_iald hC hw (is_Ma1 hj) o1 d_Ma_steps_6 ?_
  exact cs_iret hC hw hr hlk (congrArg (fun z => (z, M)) hf) d_Ma_steps_7
theorem d_Ma_nextAble_0 : decode prog_4_method_16_code 0 = .ok (.iload_n 1, 1) := by decide +kernel
theorem d_Ma_nextAble_1 : decode prog_4_method_16_code 1 = .ok (.istore_n 2, 1) := by decide +kernel
theorem d_Ma_nextAble_2 : decode prog_4_method_16_code 2 = .ok (.iload_n 2, 1) := by decide +kernel
theorem d_Ma_nextAble_3 : decode prog_4_method_16_code 3 = .ok (.iconst 3, 1) := by decide +kernel
theorem d_Ma_nextAble_4 : decode prog_4_method_16_code 4 = .ok (.if_icmp .ge 28, 3) := by decide +kernel
theorem d_Ma_nextAble_7 : decode prog_4_method_16_code 7 = .ok (.aload_n 0, 1) := by decide +kernel
theorem d_Ma_nextAble_8 : decode prog_4_method_16_code 8 = .ok (.iload_n 2, 1) := by decide +kernel
theorem d_Ma_nextAble_9 : decode prog_4_method_16_code 9 = .ok (.invokevirtual 70, 3) := by decide +kernel
theorem d_Ma_nextAble_12 : decode prog_4_method_16_code 12 = .ok (.ifCond .ne 14, 3) := by decide +kernel
theorem d_Ma_nextAble_15 : decode prog_4_method_16_code 15 = .ok (.aload_n 0, 1) := by decide +kernel
theorem d_Ma_nextAble_16 : decode prog_4_method_16_code 16 = .ok (.iload_n 2, 1) := by decide +kernel
theorem d_Ma_nextAble_17 : decode prog_4_method_16_code 17 = .ok (.invokevirtual 73, 3) := by decide +kernel
theorem d_Ma_nextAble_20 : decode prog_4_method_16_code 20 = .ok (.iconst (-1), 1) := by decide +kernel
theorem d_Ma_nextAble_21 : decode prog_4_method_16_code 21 = .ok (.if_icmp .ne 5, 3) := by decide +kernel
theorem d_Ma_nextAble_24 : decode prog_4_method_16_code 24 = .ok (.iload_n 2, 1) := by decide +kernel
theorem d_Ma_nextAble_25 : decode prog_4_method_16_code 25 = .ok (.ireturn, 1) := by decide +kernel
theorem d_Ma_nextAble_26 : decode prog_4_method_16_code 26 = .ok (.iinc 2 1, 3) := by decide +kernel
theorem d_Ma_nextAble_29 : decode prog_4_method_16_code 29 = .ok (.goto (-27), 3) := by decide +kernel
theorem d_Ma_nextAble_32 : decode prog_4_method_16_code 32 = .ok (.iconst 3, 1) := by decide +kernel
theorem d_Ma_nextAble_33 : decode prog_4_method_16_code 33 = .ok (.ireturn, 1) := by decide +kernel
def f_Ma_nextAble_L2 : Nat → cs_Mem → Nat → Int32 → Int32
  | 0, M, j, y2 => 0
  | fuel + 1, M, j, y2 =>
    if 3 ≤ y2 then
      3
    else
      cs_bd (f_Ma_hasEnded M j y2) fun (r3 : Int32) =>
      if r3 = 0 then
        cs_bd (f_Ma_awaited M j y2) fun (r7 : Int32) =>
        if r7 = (-1) then
          y2
        else
          cs_bd (y2 + 1) fun (z9 : Int32) =>
          f_Ma_nextAble_L2 fuel M j z9
      else
        cs_bd (y2 + 1) fun (z5 : Int32) =>
        f_Ma_nextAble_L2 fuel M j z5
def pre_Ma_nextAble_L2 : Nat → cs_Mem → Nat → Int32 → Prop
  | 0, _, _, _ => False
  | fuel + 1, M, j, y2 =>
    (3 ≤ y2 →
      True
    ) ∧ (¬ (3 ≤ y2) →
      (pre_Ma_hasEnded M j y2) ∧
      cs_bd (f_Ma_hasEnded M j y2) fun (r3 : Int32) =>
      (r3 = 0 →
        (pre_Ma_awaited M j y2) ∧
        cs_bd (f_Ma_awaited M j y2) fun (r7 : Int32) =>
        (r7 = (-1) →
          True
        ) ∧ (¬ (r7 = (-1)) →
          cs_bd (y2 + 1) fun (z9 : Int32) =>
          pre_Ma_nextAble_L2 fuel M j z9
        )
      ) ∧ (¬ (r3 = 0) →
        cs_bd (y2 + 1) fun (z5 : Int32) =>
        pre_Ma_nextAble_L2 fuel M j z5
      )
    )
def f_Ma_nextAble (M : cs_Mem) (j : Nat) (x1 : Int32) : Int32 :=
  f_Ma_nextAble_L2 5 M j x1
def pre_Ma_nextAble (M : cs_Mem) (j : Nat) (x1 : Int32) : Prop :=
  pre_Ma_nextAble_L2 5 M j x1
set_option maxHeartbeats 4000000 in
set_option maxRecDepth 100000 in
theorem w_Ma_nextAble_L2 {p : Program} {l : Launch} {e : Env} {s : State} {m : MethodId} {args : Array Value} {below : List Frame} {meth : Method} {c : Code} {D : va_G} {cA : Nat → ClassId} {A : Nat → Prop} {ad : Nat → Nat} {F : Int32} (hC : cs_Ctx p s m args c prog_4_method_16_code 3 "ClassStarter$Machine" D cA A) (hr : meth.sig.returnType = (some .int)) (hlk : meth.locks = false) (fuel : Nat) : ∀ (M : cs_Mem) (j : Nat) (y2 : Int32) (H : Heap) (locs : List Loc) (ls : Array Slot), cs_Wd D cA ad M A s H locs → lv_has ls 3 [(0, .ref (ad j)), (2, .int y2)] → cs_is 3 j → pre_Ma_nextAble_L2 fuel M j y2 → F = f_Ma_nextAble_L2 fuel M j y2 → W p l e ({ frames := 3, cells := 0, slots := 0, locals := 68 }) s m args below meth c H locs 0 0 (MQ below (cs_Qi D cA ad (F, M) A) args s 0 0 A) (F0 m 2 ls []) := by
  have hx := hC.1
  have hb := hC.2.1
  induction fuel with
  | zero =>
    intro M j y2 H locs ls hw hl g0 hp hf
    exact absurd hp (by simp [pre_Ma_nextAble_L2])
  | succ fuel ih =>
    intro M j y2 H locs ls hw hl g0 hp hf
    rw [f_Ma_nextAble_L2] at hf
    rw [pre_Ma_nextAble_L2] at hp
    refine lv_iload_n hx hb d_Ma_nextAble_2 rfl (lv_at hl 1 rfl) ?_
    refine lv_iconst (v := 3) hx hb d_Ma_nextAble_3 (by decide) ?_
    refine lv_icmp_ge (tgt := 32) hx hb d_Ma_nextAble_4 (by decide) (fun c1 => ?_) (fun c1 => ?_)
    · have hp := hp.1 c1
      have hf := hf.trans (if_pos c1)
      refine lv_iconst (v := 3) hx hb d_Ma_nextAble_32 (by decide) ?_
      exact cs_iret hC hw hr hlk (congrArg (fun z => (z, M)) hf) d_Ma_nextAble_33
    · have hp := hp.2 c1
      have hf := hf.trans (if_neg c1)
      refine lv_aload_n hx hb d_Ma_nextAble_7 rfl (lv_at hl 0 rfl) ?_
      refine lv_iload_n hx hb d_Ma_nextAble_8 rfl (lv_at hl 1 rfl) ?_
      have o2 := hp.1
      have hp := hp.2
      refine cs_ret_p hC hw (cs_runV (As := [.int y2]) (rest := []) hC hw g0.2 (ci := 3) rfl rfl (cs_sg_is g0) (c_Ma_hasEnded l D cA ad M j g0 y2 o2 _) rfl rfl cw_Ma_70 ⟨Nat.le_of_ble_eq_true rfl, Nat.le_of_ble_eq_true rfl⟩ hl.1 rfl rfl (Nat.le_of_ble_eq_true rfl) d_Ma_nextAble_9 ⟨Nat.zero_le _, Nat.zero_le _⟩) (fun r3 H locs er3 hw => ?_)
      have hp := cs_bdP er3 hp
      have hf := cs_bdE er3 hf
      refine lv_if_ne (tgt := 26) hx hb d_Ma_nextAble_12 (by decide) (fun c4 => ?_) (fun c4 => ?_)
      · have hp := hp.2 c4
        have hf := hf.trans (if_neg c4)
        obtain ⟨z5, ez5⟩ : ∃ y : Int32, y = y2 + 1 := ⟨_, rfl⟩
        have hp := cs_bdP ez5 hp
        have hf := cs_bdE ez5 hf
        refine lv_iinc (v := z5) (lv' := [(2, .int z5), (0, .ref (ad j))]) hx hb d_Ma_nextAble_26 hl (k := 1) rfl (by rw [ez5]; rfl) (by decide) rfl (fun ls hl => ?_)
        refine lv_goto (tgt := 2) hx hb d_Ma_nextAble_29 (by decide) ?_
        exact ih M j z5 _ _ ls hw (lv_sub hl [1, 0] rfl) g0 hp hf
      · have hp := hp.1 c4
        have hf := hf.trans (if_pos c4)
        refine lv_aload_n hx hb d_Ma_nextAble_15 rfl (lv_at hl 0 rfl) ?_
        refine lv_iload_n hx hb d_Ma_nextAble_16 rfl (lv_at hl 1 rfl) ?_
        have o6 := hp.1
        have hp := hp.2
        refine cs_ret_p hC hw (cs_runV (As := [.int y2]) (rest := []) hC hw g0.2 (ci := 3) rfl rfl (cs_sg_is g0) (c_Ma_awaited l D cA ad M j g0 y2 o6 _) rfl rfl cw_Ma_73 ⟨Nat.le_of_ble_eq_true rfl, Nat.le_of_ble_eq_true rfl⟩ hl.1 rfl rfl (Nat.le_of_ble_eq_true rfl) d_Ma_nextAble_17 ⟨Nat.zero_le _, Nat.zero_le _⟩) (fun r7 H locs er7 hw => ?_)
        have hp := cs_bdP er7 hp
        have hf := cs_bdE er7 hf
        refine lv_iconst (v := (-1)) hx hb d_Ma_nextAble_20 (by decide) ?_
        refine lv_icmp_ne (tgt := 26) hx hb d_Ma_nextAble_21 (by decide) (fun c8 => ?_) (fun c8 => ?_)
        · have hp := hp.2 c8
          have hf := hf.trans (if_neg c8)
          obtain ⟨z9, ez9⟩ : ∃ y : Int32, y = y2 + 1 := ⟨_, rfl⟩
          have hp := cs_bdP ez9 hp
          have hf := cs_bdE ez9 hf
          refine lv_iinc (v := z9) (lv' := [(2, .int z9), (0, .ref (ad j))]) hx hb d_Ma_nextAble_26 hl (k := 1) rfl (by rw [ez9]; rfl) (by decide) rfl (fun ls hl => ?_)
          refine lv_goto (tgt := 2) hx hb d_Ma_nextAble_29 (by decide) ?_
          exact ih M j z9 _ _ ls hw (lv_sub hl [1, 0] rfl) g0 hp hf
        · have hp := hp.1 c8
          have hf := hf.trans (if_pos c8)
          refine lv_iload_n hx hb d_Ma_nextAble_24 rfl (lv_at hl 1 rfl) ?_
          exact cs_iret hC hw hr hlk (congrArg (fun z => (z, M)) hf) d_Ma_nextAble_25
set_option maxHeartbeats 4000000 in
set_option maxRecDepth 100000 in
theorem c_Ma_nextAble (l : Launch) (D : va_G) (cA : Nat → ClassId) (ad : Nat → Nat) (M : cs_Mem) (j : Nat) (hj : cs_is 3 j) (x1 : Int32) (hp : pre_Ma_nextAble M j x1) : cs_Ci l ⟨"ClassStarter$Machine", "nextAble", "(I)I"⟩ prog_4_method_16_code 3 (some .int) ({ frames := 3, cells := 0, slots := 0, locals := 68 }) D cA ad M [.ref (ad j), .int x1] ((f_Ma_nextAble M j x1, M)) := by
  refine cs_entry (by decide) (Nat.le_of_ble_eq_true rfl) (fun p e s m below meth c A ls hC hr hlk _ hw hl => ?_)
  have hx := hC.1
  have hb := hC.2.1
  have hl : lv_has ls 3 [(0, .ref (ad j)), (1, .int x1)] := hl
  generalize hF : f_Ma_nextAble M j x1 = F
  have hf := hF.symm
  unfold f_Ma_nextAble at hf
  unfold pre_Ma_nextAble at hp
  refine lv_iload_n hx hb d_Ma_nextAble_0 rfl (lv_at hl 1 rfl) ?_
  refine lv_istore_n (lv' := [(2, .int x1), (0, .ref (ad j)), (1, .int x1)]) hx hb d_Ma_nextAble_1 rfl hl (by decide) rfl (fun ls hl => ?_)
  exact w_Ma_nextAble_L2 hC hr hlk 5 M j x1 _ _ ls hw (lv_sub hl [1, 0] rfl) hj hp hf
theorem d_Ma_lastResultOf_0 : decode prog_4_method_18_code 0 = .ok (.aload_n 0, 1) := by decide +kernel
theorem d_Ma_lastResultOf_1 : decode prog_4_method_18_code 1 = .ok (.iload_n 1, 1) := by decide +kernel
theorem d_Ma_lastResultOf_2 : decode prog_4_method_18_code 2 = .ok (.invokevirtual 70, 3) := by decide +kernel
theorem d_Ma_lastResultOf_5 : decode prog_4_method_18_code 5 = .ok (.ifCond .eq 15, 3) := by decide +kernel
theorem d_Ma_lastResultOf_8 : decode prog_4_method_18_code 8 = .ok (.aload_n 0, 1) := by decide +kernel
theorem d_Ma_lastResultOf_9 : decode prog_4_method_18_code 9 = .ok (.getfield 11, 3) := by decide +kernel
theorem d_Ma_lastResultOf_12 : decode prog_4_method_18_code 12 = .ok (.bipush 38, 2) := by decide +kernel
theorem d_Ma_lastResultOf_14 : decode prog_4_method_18_code 14 = .ok (.iload_n 1, 1) := by decide +kernel
theorem d_Ma_lastResultOf_15 : decode prog_4_method_18_code 15 = .ok (.iadd, 1) := by decide +kernel
theorem d_Ma_lastResultOf_16 : decode prog_4_method_18_code 16 = .ok (.iaload, 1) := by decide +kernel
theorem d_Ma_lastResultOf_17 : decode prog_4_method_18_code 17 = .ok (.goto 5, 3) := by decide +kernel
theorem d_Ma_lastResultOf_20 : decode prog_4_method_18_code 20 = .ok (.bipush 50, 2) := by decide +kernel
theorem d_Ma_lastResultOf_22 : decode prog_4_method_18_code 22 = .ok (.ireturn, 1) := by decide +kernel
def f_Ma_lastResultOf (M : cs_Mem) (j : Nat) (x1 : Int32) : Int32 :=
  cs_bd (f_Ma_hasEnded M j x1) fun (r2 : Int32) =>
  if r2 = 0 then
    50
  else
    M (j + 1) (38 + x1).toNatClampNeg
def pre_Ma_lastResultOf (M : cs_Mem) (j : Nat) (x1 : Int32) : Prop :=
  (pre_Ma_hasEnded M j x1) ∧
  cs_bd (f_Ma_hasEnded M j x1) fun (r2 : Int32) =>
  (r2 = 0 →
    True
  ) ∧ (¬ (r2 = 0) →
    (vp_in (38 + x1) (cs_ln M (j + 1))) ∧
    True
  )
set_option maxHeartbeats 4000000 in
set_option maxRecDepth 100000 in
theorem c_Ma_lastResultOf (l : Launch) (D : va_G) (cA : Nat → ClassId) (ad : Nat → Nat) (M : cs_Mem) (j : Nat) (hj : cs_is 3 j) (x1 : Int32) (hp : pre_Ma_lastResultOf M j x1) : cs_Ci l ⟨"ClassStarter$Machine", "lastResultOf", "(I)I"⟩ prog_4_method_18_code 2 (some .int) ({ frames := 3, cells := 0, slots := 0, locals := 63 }) D cA ad M [.ref (ad j), .int x1] ((f_Ma_lastResultOf M j x1, M)) := by
  refine cs_entry (by decide) (Nat.le_of_ble_eq_true rfl) (fun p e s m below meth c A ls hC hr hlk _ hw hl => ?_)
  have hx := hC.1
  have hb := hC.2.1
  have hl : lv_has ls 2 [(0, .ref (ad j)), (1, .int x1)] := hl
  generalize hF : f_Ma_lastResultOf M j x1 = F
  have hf := hF.symm
  unfold f_Ma_lastResultOf at hf
  unfold pre_Ma_lastResultOf at hp
  refine lv_aload_n hx hb d_Ma_lastResultOf_0 rfl (lv_at hl 0 rfl) ?_
  refine lv_iload_n hx hb d_Ma_lastResultOf_1 rfl (lv_at hl 1 rfl) ?_
  have o1 := hp.1
  have hp := hp.2
  refine cs_ret_p hC hw (cs_runV (As := [.int x1]) (rest := []) hC hw hj.2 (ci := 3) rfl rfl (cs_sg_is hj) (c_Ma_hasEnded l D cA ad M j hj x1 o1 _) rfl rfl cw_Ma_70 ⟨Nat.le_of_ble_eq_true rfl, Nat.le_of_ble_eq_true rfl⟩ hl.1 rfl rfl (Nat.le_of_ble_eq_true rfl) d_Ma_lastResultOf_2 ⟨Nat.zero_le _, Nat.zero_le _⟩) (fun r2 H locs er2 hw => ?_)
  have hp := cs_bdP er2 hp
  have hf := cs_bdE er2 hf
  refine lv_if_eq (tgt := 20) hx hb d_Ma_lastResultOf_5 (by decide) (fun c3 => ?_) (fun c3 => ?_)
  · have hp := hp.1 c3
    have hf := hf.trans (if_pos c3)
    refine lv_bipush (v := 50) hx hb d_Ma_lastResultOf_20 (by decide) ?_
    exact cs_iret hC hw hr hlk (congrArg (fun z => (z, M)) hf) d_Ma_lastResultOf_22
  · have hp := hp.2 c3
    have hf := hf.trans (if_neg c3)
    refine lv_aload_n hx hb d_Ma_lastResultOf_8 rfl (lv_at hl 0 rfl) ?_
    refine gf_Ma_cells hC hw hj wd_131 d_Ma_lastResultOf_9 ?_
    refine lv_bipush (v := 38) hx hb d_Ma_lastResultOf_12 (by decide) ?_
    refine lv_iload_n hx hb d_Ma_lastResultOf_14 rfl (lv_at hl 1 rfl) ?_
    refine lv_iadd hx hb d_Ma_lastResultOf_15 ?_
    have o4 := hp.1
    have hp := hp.2
    refine cs_iald hC hw (is_Ma1 hj) o4 d_Ma_lastResultOf_16 ?_
    refine lv_goto (tgt := 22) hx hb d_Ma_lastResultOf_17 (by decide) ?_
    exact cs_iret hC hw hr hlk (congrArg (fun z => (z, M)) hf) d_Ma_lastResultOf_22
theorem d_Ma_resultOf_0 : decode prog_4_method_17_code 0 = .ok (.aload_n 0, 1) := by decide +kernel
theorem d_Ma_resultOf_1 : decode prog_4_method_17_code 1 = .ok (.iload_n 1, 1) := by decide +kernel
theorem d_Ma_resultOf_2 : decode prog_4_method_17_code 2 = .ok (.invokevirtual 70, 3) := by decide +kernel
theorem d_Ma_resultOf_5 : decode prog_4_method_17_code 5 = .ok (.ifCond .ne 12, 3) := by decide +kernel
theorem d_Ma_resultOf_8 : decode prog_4_method_17_code 8 = .ok (.aload_n 0, 1) := by decide +kernel
theorem d_Ma_resultOf_9 : decode prog_4_method_17_code 9 = .ok (.iconst 0, 1) := by decide +kernel
theorem d_Ma_resultOf_10 : decode prog_4_method_17_code 10 = .ok (.invokevirtual 76, 3) := by decide +kernel
theorem d_Ma_resultOf_13 : decode prog_4_method_17_code 13 = .ok (.iconst 3, 1) := by decide +kernel
theorem d_Ma_resultOf_14 : decode prog_4_method_17_code 14 = .ok (.if_icmp .ne 11, 3) := by decide +kernel
theorem d_Ma_resultOf_17 : decode prog_4_method_17_code 17 = .ok (.aload_n 0, 1) := by decide +kernel
theorem d_Ma_resultOf_18 : decode prog_4_method_17_code 18 = .ok (.iload_n 1, 1) := by decide +kernel
theorem d_Ma_resultOf_19 : decode prog_4_method_17_code 19 = .ok (.invokevirtual 79, 3) := by decide +kernel
theorem d_Ma_resultOf_22 : decode prog_4_method_17_code 22 = .ok (.goto 4, 3) := by decide +kernel
theorem d_Ma_resultOf_25 : decode prog_4_method_17_code 25 = .ok (.iconst (-1), 1) := by decide +kernel
theorem d_Ma_resultOf_26 : decode prog_4_method_17_code 26 = .ok (.ireturn, 1) := by decide +kernel
def f_Ma_resultOf (M : cs_Mem) (j : Nat) (x1 : Int32) : Int32 :=
  cs_bd (f_Ma_hasEnded M j x1) fun (r2 : Int32) =>
  if r2 = 0 then
    cs_bd (f_Ma_nextAble M j 0) fun (r7 : Int32) =>
    if r7 = 3 then
      cs_bd (f_Ma_lastResultOf M j x1) fun (r10 : Int32) =>
      r10
    else
      (-1)
  else
    cs_bd (f_Ma_lastResultOf M j x1) fun (r5 : Int32) =>
    r5
def pre_Ma_resultOf (M : cs_Mem) (j : Nat) (x1 : Int32) : Prop :=
  (pre_Ma_hasEnded M j x1) ∧
  cs_bd (f_Ma_hasEnded M j x1) fun (r2 : Int32) =>
  (r2 = 0 →
    (pre_Ma_nextAble M j 0) ∧
    cs_bd (f_Ma_nextAble M j 0) fun (r7 : Int32) =>
    (r7 = 3 →
      (pre_Ma_lastResultOf M j x1) ∧
      True
    ) ∧ (¬ (r7 = 3) →
      True
    )
  ) ∧ (¬ (r2 = 0) →
    (pre_Ma_lastResultOf M j x1) ∧
    True
  )
set_option maxHeartbeats 4000000 in
set_option maxRecDepth 100000 in
theorem c_Ma_resultOf (l : Launch) (D : va_G) (cA : Nat → ClassId) (ad : Nat → Nat) (M : cs_Mem) (j : Nat) (hj : cs_is 3 j) (x1 : Int32) (hp : pre_Ma_resultOf M j x1) : cs_Ci l ⟨"ClassStarter$Machine", "resultOf", "(I)I"⟩ prog_4_method_17_code 2 (some .int) ({ frames := 4, cells := 0, slots := 0, locals := 90 }) D cA ad M [.ref (ad j), .int x1] ((f_Ma_resultOf M j x1, M)) := by
  refine cs_entry (by decide) (Nat.le_of_ble_eq_true rfl) (fun p e s m below meth c A ls hC hr hlk _ hw hl => ?_)
  have hx := hC.1
  have hb := hC.2.1
  have hl : lv_has ls 2 [(0, .ref (ad j)), (1, .int x1)] := hl
  generalize hF : f_Ma_resultOf M j x1 = F
  have hf := hF.symm
  unfold f_Ma_resultOf at hf
  unfold pre_Ma_resultOf at hp
  refine lv_aload_n hx hb d_Ma_resultOf_0 rfl (lv_at hl 0 rfl) ?_
  refine lv_iload_n hx hb d_Ma_resultOf_1 rfl (lv_at hl 1 rfl) ?_
  have o1 := hp.1
  have hp := hp.2
  refine cs_ret_p hC hw (cs_runV (As := [.int x1]) (rest := []) hC hw hj.2 (ci := 3) rfl rfl (cs_sg_is hj) (c_Ma_hasEnded l D cA ad M j hj x1 o1 _) rfl rfl cw_Ma_70 ⟨Nat.le_of_ble_eq_true rfl, Nat.le_of_ble_eq_true rfl⟩ hl.1 rfl rfl (Nat.le_of_ble_eq_true rfl) d_Ma_resultOf_2 ⟨Nat.zero_le _, Nat.zero_le _⟩) (fun r2 H locs er2 hw => ?_)
  have hp := cs_bdP er2 hp
  have hf := cs_bdE er2 hf
  refine lv_if_ne (tgt := 17) hx hb d_Ma_resultOf_5 (by decide) (fun c3 => ?_) (fun c3 => ?_)
  · have hp := hp.2 c3
    have hf := hf.trans (if_neg c3)
    refine lv_aload_n hx hb d_Ma_resultOf_17 rfl (lv_at hl 0 rfl) ?_
    refine lv_iload_n hx hb d_Ma_resultOf_18 rfl (lv_at hl 1 rfl) ?_
    have o4 := hp.1
    have hp := hp.2
    refine cs_ret_p hC hw (cs_runV (As := [.int x1]) (rest := []) hC hw hj.2 (ci := 3) rfl rfl (cs_sg_is hj) (c_Ma_lastResultOf l D cA ad M j hj x1 o4 _) rfl rfl cw_Ma_79 ⟨Nat.le_of_ble_eq_true rfl, Nat.le_of_ble_eq_true rfl⟩ hl.1 rfl rfl (Nat.le_of_ble_eq_true rfl) d_Ma_resultOf_19 ⟨Nat.zero_le _, Nat.zero_le _⟩) (fun r5 H locs er5 hw => ?_)
    have hf := cs_bdE er5 hf
    refine lv_goto (tgt := 26) hx hb d_Ma_resultOf_22 (by decide) ?_
    exact cs_iret hC hw hr hlk (congrArg (fun z => (z, M)) hf) d_Ma_resultOf_26
  · have hp := hp.1 c3
    have hf := hf.trans (if_pos c3)
    refine lv_aload_n hx hb d_Ma_resultOf_8 rfl (lv_at hl 0 rfl) ?_
    refine lv_iconst (v := 0) hx hb d_Ma_resultOf_9 (by decide) ?_
    have o6 := hp.1
    have hp := hp.2
    refine cs_ret_p hC hw (cs_runV (As := [.int 0]) (rest := []) hC hw hj.2 (ci := 3) rfl rfl (cs_sg_is hj) (c_Ma_nextAble l D cA ad M j hj 0 o6 _) rfl rfl cw_Ma_76 ⟨Nat.le_of_ble_eq_true rfl, Nat.le_of_ble_eq_true rfl⟩ hl.1 rfl rfl (Nat.le_of_ble_eq_true rfl) d_Ma_resultOf_10 ⟨Nat.zero_le _, Nat.zero_le _⟩) (fun r7 H locs er7 hw => ?_)
    have hp := cs_bdP er7 hp
    have hf := cs_bdE er7 hf
    refine lv_iconst (v := 3) hx hb d_Ma_resultOf_13 (by decide) ?_
    refine lv_icmp_ne (tgt := 25) hx hb d_Ma_resultOf_14 (by decide) (fun c8 => ?_) (fun c8 => ?_)
    · have hp := hp.2 c8
      have hf := hf.trans (if_neg c8)
      refine lv_iconst (v := (-1)) hx hb d_Ma_resultOf_25 (by decide) ?_
      exact cs_iret hC hw hr hlk (congrArg (fun z => (z, M)) hf) d_Ma_resultOf_26
    · have hp := hp.1 c8
      have hf := hf.trans (if_pos c8)
      refine lv_aload_n hx hb d_Ma_resultOf_17 rfl (lv_at hl 0 rfl) ?_
      refine lv_iload_n hx hb d_Ma_resultOf_18 rfl (lv_at hl 1 rfl) ?_
      have o9 := hp.1
      have hp := hp.2
      refine cs_ret_p hC hw (cs_runV (As := [.int x1]) (rest := []) hC hw hj.2 (ci := 3) rfl rfl (cs_sg_is hj) (c_Ma_lastResultOf l D cA ad M j hj x1 o9 _) rfl rfl cw_Ma_79 ⟨Nat.le_of_ble_eq_true rfl, Nat.le_of_ble_eq_true rfl⟩ hl.1 rfl rfl (Nat.le_of_ble_eq_true rfl) d_Ma_resultOf_19 ⟨Nat.zero_le _, Nat.zero_le _⟩) (fun r10 H locs er10 hw => ?_)
      have hf := cs_bdE er10 hf
      refine lv_goto (tgt := 26) hx hb d_Ma_resultOf_22 (by decide) ?_
      exact cs_iret hC hw hr hlk (congrArg (fun z => (z, M)) hf) d_Ma_resultOf_26
theorem d_Ma_logSize_0 : decode prog_4_method_9_code 0 = .ok (.aload_n 0, 1) := by decide +kernel
theorem d_Ma_logSize_1 : decode prog_4_method_9_code 1 = .ok (.getfield 11, 3) := by decide +kernel
theorem d_Ma_logSize_4 : decode prog_4_method_9_code 4 = .ok (.bipush 42, 2) := by decide +kernel
theorem d_Ma_logSize_6 : decode prog_4_method_9_code 6 = .ok (.iaload, 1) := by decide +kernel
theorem d_Ma_logSize_7 : decode prog_4_method_9_code 7 = .ok (.ireturn, 1) := by decide +kernel
def f_Ma_logSize (M : cs_Mem) (j : Nat) : Int32 :=
  M (j + 1) 42
def pre_Ma_logSize (M : cs_Mem) (j : Nat) : Prop :=
  (vp_in 42 (cs_ln M (j + 1))) ∧
  True
set_option maxHeartbeats 4000000 in
set_option maxRecDepth 100000 in
theorem c_Ma_logSize (l : Launch) (D : va_G) (cA : Nat → ClassId) (ad : Nat → Nat) (M : cs_Mem) (j : Nat) (hj : cs_is 3 j) (hp : pre_Ma_logSize M j) : cs_Ci l ⟨"ClassStarter$Machine", "logSize", "()I"⟩ prog_4_method_9_code 1 (some .int) ({ frames := 0, cells := 0, slots := 0, locals := 0 }) D cA ad M [.ref (ad j)] ((f_Ma_logSize M j, M)) := by
  refine cs_entry (by decide) (Nat.le_of_ble_eq_true rfl) (fun p e s m below meth c A ls hC hr hlk _ hw hl => ?_)
  have hx := hC.1
  have hb := hC.2.1
  have hl : lv_has ls 1 [(0, .ref (ad j))] := hl
  generalize hF : f_Ma_logSize M j = F
  have hf := hF.symm
  unfold f_Ma_logSize at hf
  unfold pre_Ma_logSize at hp
  refine lv_aload_n hx hb d_Ma_logSize_0 rfl (lv_at hl 0 rfl) ?_
  refine gf_Ma_cells hC hw hj wd_131 d_Ma_logSize_1 ?_
  refine lv_bipush (v := 42) hx hb d_Ma_logSize_4 (by decide) ?_
  have o1 := hp.1
  have hp := hp.2
  refine cs_iald hC hw (is_Ma1 hj) o1 d_Ma_logSize_6 ?_
  exact cs_iret hC hw hr hlk (congrArg (fun z => (z, M)) hf) d_Ma_logSize_7
theorem d_Ma_logEntry_0 : decode prog_4_method_10_code 0 = .ok (.aload_n 0, 1) := by decide +kernel
theorem d_Ma_logEntry_1 : decode prog_4_method_10_code 1 = .ok (.getfield 15, 3) := by decide +kernel
theorem d_Ma_logEntry_4 : decode prog_4_method_10_code 4 = .ok (.iload_n 1, 1) := by decide +kernel
theorem d_Ma_logEntry_5 : decode prog_4_method_10_code 5 = .ok (.iaload, 1) := by decide +kernel
theorem d_Ma_logEntry_6 : decode prog_4_method_10_code 6 = .ok (.ireturn, 1) := by decide +kernel
def f_Ma_logEntry (M : cs_Mem) (j : Nat) (x1 : Int32) : Int32 :=
  M (j + 2) x1.toNatClampNeg
def pre_Ma_logEntry (M : cs_Mem) (j : Nat) (x1 : Int32) : Prop :=
  (vp_in x1 (cs_ln M (j + 2))) ∧
  True
set_option maxHeartbeats 4000000 in
set_option maxRecDepth 100000 in
theorem c_Ma_logEntry (l : Launch) (D : va_G) (cA : Nat → ClassId) (ad : Nat → Nat) (M : cs_Mem) (j : Nat) (hj : cs_is 3 j) (x1 : Int32) (hp : pre_Ma_logEntry M j x1) : cs_Ci l ⟨"ClassStarter$Machine", "logEntry", "(I)I"⟩ prog_4_method_10_code 2 (some .int) ({ frames := 0, cells := 0, slots := 0, locals := 0 }) D cA ad M [.ref (ad j), .int x1] ((f_Ma_logEntry M j x1, M)) := by
  refine cs_entry (by decide) (Nat.le_of_ble_eq_true rfl) (fun p e s m below meth c A ls hC hr hlk _ hw hl => ?_)
  have hx := hC.1
  have hb := hC.2.1
  have hl : lv_has ls 2 [(0, .ref (ad j)), (1, .int x1)] := hl
  generalize hF : f_Ma_logEntry M j x1 = F
  have hf := hF.symm
  unfold f_Ma_logEntry at hf
  unfold pre_Ma_logEntry at hp
  refine lv_aload_n hx hb d_Ma_logEntry_0 rfl (lv_at hl 0 rfl) ?_
  refine gf_Ma_log hC hw hj wd_132 d_Ma_logEntry_1 ?_
  refine lv_iload_n hx hb d_Ma_logEntry_4 rfl (lv_at hl 1 rfl) ?_
  have o1 := hp.1
  have hp := hp.2
  refine cs_iald hC hw (is_Ma2 hj) o1 d_Ma_logEntry_5 ?_
  exact cs_iret hC hw hr hlk (congrArg (fun z => (z, M)) hf) d_Ma_logEntry_6
theorem d_Ma_keepIn_0 : decode prog_4_method_3_code 0 = .ok (.aload_n 0, 1) := by decide +kernel
theorem d_Ma_keepIn_1 : decode prog_4_method_3_code 1 = .ok (.getfield 11, 3) := by decide +kernel
theorem d_Ma_keepIn_4 : decode prog_4_method_3_code 4 = .ok (.iconst 0, 1) := by decide +kernel
theorem d_Ma_keepIn_5 : decode prog_4_method_3_code 5 = .ok (.aload_n 1, 1) := by decide +kernel
theorem d_Ma_keepIn_6 : decode prog_4_method_3_code 6 = .ok (.iload_n 2, 1) := by decide +kernel
theorem d_Ma_keepIn_7 : decode prog_4_method_3_code 7 = .ok (.bipush 43, 2) := by decide +kernel
theorem d_Ma_keepIn_9 : decode prog_4_method_3_code 9 = .ok (.invokestatic 31, 3) := by decide +kernel
theorem d_Ma_keepIn_12 : decode prog_4_method_3_code 12 = .ok (.return_, 1) := by decide +kernel
def f_Ma_keepIn (M : cs_Mem) (j : Nat) (x1 : Nat) (x2 : Int32) : cs_Mem :=
  cs_bd (cs_up M x1 (va_cpy (M (j + 1)) (M x1) 0 x2.toNatClampNeg 43)) fun (N6 : cs_Mem) =>
  N6
def pre_Ma_keepIn (M : cs_Mem) (j : Nat) (x1 : Nat) (x2 : Int32) : Prop :=
  (¬ (0 : Int32) < 0) ∧
  (¬ (x2 : Int32) < 0) ∧
  (¬ (43 : Int32) < 0) ∧
  (0 + 43 ≤ cs_ln M (j + 1)) ∧
  (x2.toNatClampNeg + 43 ≤ cs_ln M x1) ∧
  True
set_option maxHeartbeats 4000000 in
set_option maxRecDepth 100000 in
theorem c_Ma_keepIn (l : Launch) (D : va_G) (cA : Nat → ClassId) (ad : Nat → Nat) (M : cs_Mem) (j : Nat) (hj : cs_is 3 j) (x1 : Nat) (h1 : cs_is 20 x1) (x2 : Int32) (hp : pre_Ma_keepIn M j x1 x2) : cs_Cv l ⟨"ClassStarter$Machine", "keepIn", "([II)V"⟩ prog_4_method_3_code 3 none ({ frames := 1, cells := 0, slots := 0, locals := 40 }) D cA ad M [.ref (ad j), .ref (ad x1), .int x2] (f_Ma_keepIn M j x1 x2) := by
  refine cs_entry (by decide) (Nat.le_of_ble_eq_true rfl) (fun p e s m below meth c A ls hC hr hlk _ hw hl => ?_)
  have hx := hC.1
  have hb := hC.2.1
  have hl : lv_has ls 3 [(0, .ref (ad j)), (1, .ref (ad x1)), (2, .int x2)] := hl
  generalize hF : f_Ma_keepIn M j x1 x2 = F
  have hf := hF.symm
  unfold f_Ma_keepIn at hf
  unfold pre_Ma_keepIn at hp
  refine lv_aload_n hx hb d_Ma_keepIn_0 rfl (lv_at hl 0 rfl) ?_
  refine gf_Ma_cells hC hw hj wd_131 d_Ma_keepIn_1 ?_
  refine lv_iconst (v := 0) hx hb d_Ma_keepIn_4 (by decide) ?_
  refine lv_aload_n hx hb d_Ma_keepIn_5 rfl (lv_at hl 1 rfl) ?_
  refine lv_iload_n hx hb d_Ma_keepIn_6 rfl (lv_at hl 2 rfl) ?_
  refine lv_bipush (v := 43) hx hb d_Ma_keepIn_7 (by decide) ?_
  have o1 := hp.1
  have hp := hp.2
  have o2 := hp.1
  have hp := hp.2
  have o3 := hp.1
  have hp := hp.2
  have o4 := hp.1
  have hp := hp.2
  have o5 := hp.1
  have hp := hp.2
  refine cs_icpy hC hw hl.1 (is_Ma1 hj) h1 wd_473 cs_acN cs_acS cs_acI o1 o2 o3 o4 o5 (Nat.le_of_ble_eq_true rfl) (Nat.le_of_ble_eq_true rfl) d_Ma_keepIn_9 (fun N6 H locs eN6 hw => ?_)
  have hf := cs_bdE eN6 hf
  exact cs_vret hC hw hr hlk hf d_Ma_keepIn_12
theorem d_Ma_bringBack_0 : decode prog_4_method_4_code 0 = .ok (.aload_n 1, 1) := by decide +kernel
theorem d_Ma_bringBack_1 : decode prog_4_method_4_code 1 = .ok (.iload_n 2, 1) := by decide +kernel
theorem d_Ma_bringBack_2 : decode prog_4_method_4_code 2 = .ok (.aload_n 0, 1) := by decide +kernel
theorem d_Ma_bringBack_3 : decode prog_4_method_4_code 3 = .ok (.getfield 11, 3) := by decide +kernel
theorem d_Ma_bringBack_6 : decode prog_4_method_4_code 6 = .ok (.iconst 0, 1) := by decide +kernel
theorem d_Ma_bringBack_7 : decode prog_4_method_4_code 7 = .ok (.bipush 43, 2) := by decide +kernel
theorem d_Ma_bringBack_9 : decode prog_4_method_4_code 9 = .ok (.invokestatic 31, 3) := by decide +kernel
theorem d_Ma_bringBack_12 : decode prog_4_method_4_code 12 = .ok (.return_, 1) := by decide +kernel
def f_Ma_bringBack (M : cs_Mem) (j : Nat) (x1 : Nat) (x2 : Int32) : cs_Mem :=
  cs_bd (cs_up M (j + 1) (va_cpy (M x1) (M (j + 1)) x2.toNatClampNeg 0 43)) fun (N6 : cs_Mem) =>
  N6
def pre_Ma_bringBack (M : cs_Mem) (j : Nat) (x1 : Nat) (x2 : Int32) : Prop :=
  (¬ (x2 : Int32) < 0) ∧
  (¬ (0 : Int32) < 0) ∧
  (¬ (43 : Int32) < 0) ∧
  (x2.toNatClampNeg + 43 ≤ cs_ln M x1) ∧
  (0 + 43 ≤ cs_ln M (j + 1)) ∧
  True
set_option maxHeartbeats 4000000 in
set_option maxRecDepth 100000 in
theorem c_Ma_bringBack (l : Launch) (D : va_G) (cA : Nat → ClassId) (ad : Nat → Nat) (M : cs_Mem) (j : Nat) (hj : cs_is 3 j) (x1 : Nat) (h1 : cs_is 20 x1) (x2 : Int32) (hp : pre_Ma_bringBack M j x1 x2) : cs_Cv l ⟨"ClassStarter$Machine", "bringBack", "([II)V"⟩ prog_4_method_4_code 3 none ({ frames := 1, cells := 0, slots := 0, locals := 40 }) D cA ad M [.ref (ad j), .ref (ad x1), .int x2] (f_Ma_bringBack M j x1 x2) := by
  refine cs_entry (by decide) (Nat.le_of_ble_eq_true rfl) (fun p e s m below meth c A ls hC hr hlk _ hw hl => ?_)
  have hx := hC.1
  have hb := hC.2.1
  have hl : lv_has ls 3 [(0, .ref (ad j)), (1, .ref (ad x1)), (2, .int x2)] := hl
  generalize hF : f_Ma_bringBack M j x1 x2 = F
  have hf := hF.symm
  unfold f_Ma_bringBack at hf
  unfold pre_Ma_bringBack at hp
  refine lv_aload_n hx hb d_Ma_bringBack_0 rfl (lv_at hl 1 rfl) ?_
  refine lv_iload_n hx hb d_Ma_bringBack_1 rfl (lv_at hl 2 rfl) ?_
  refine lv_aload_n hx hb d_Ma_bringBack_2 rfl (lv_at hl 0 rfl) ?_
  refine gf_Ma_cells hC hw hj wd_131 d_Ma_bringBack_3 ?_
  refine lv_iconst (v := 0) hx hb d_Ma_bringBack_6 (by decide) ?_
  refine lv_bipush (v := 43) hx hb d_Ma_bringBack_7 (by decide) ?_
  have o1 := hp.1
  have hp := hp.2
  have o2 := hp.1
  have hp := hp.2
  have o3 := hp.1
  have hp := hp.2
  have o4 := hp.1
  have hp := hp.2
  have o5 := hp.1
  have hp := hp.2
  refine cs_icpy hC hw hl.1 h1 (is_Ma1 hj) wd_473 cs_acN cs_acS cs_acI o1 o2 o3 o4 o5 (Nat.le_of_ble_eq_true rfl) (Nat.le_of_ble_eq_true rfl) d_Ma_bringBack_9 (fun N6 H locs eN6 hw => ?_)
  have hf := cs_bdE eN6 hf
  exact cs_vret hC hw hr hlk hf d_Ma_bringBack_12
end
section
theorem d_Ex_forget_0 : decode prog_2_method_6_code 0 = .ok (.aload_n 0, 1) := by decide +kernel
theorem d_Ex_forget_1 : decode prog_2_method_6_code 1 = .ok (.iconst 0, 1) := by decide +kernel
theorem d_Ex_forget_2 : decode prog_2_method_6_code 2 = .ok (.putfield 27, 3) := by decide +kernel
theorem d_Ex_forget_5 : decode prog_2_method_6_code 5 = .ok (.aload_n 0, 1) := by decide +kernel
theorem d_Ex_forget_6 : decode prog_2_method_6_code 6 = .ok (.iconst 0, 1) := by decide +kernel
theorem d_Ex_forget_7 : decode prog_2_method_6_code 7 = .ok (.putfield 37, 3) := by decide +kernel
theorem d_Ex_forget_10 : decode prog_2_method_6_code 10 = .ok (.return_, 1) := by decide +kernel
def f_Ex_forget (M : cs_Mem) (j : Nat) : cs_Mem :=
  cs_bd (cs_up M j (upd (M j) 4 0)) fun (N1 : cs_Mem) =>
  cs_bd (cs_up N1 j (upd (N1 j) 8 0)) fun (N2 : cs_Mem) =>
  N2
set_option maxHeartbeats 4000000 in
set_option maxRecDepth 100000 in
theorem c_Ex_forget (l : Launch) (D : va_G) (cA : Nat → ClassId) (ad : Nat → Nat) (M : cs_Mem) (j : Nat) (hj : cs_is 4 j) : cs_Cv l ⟨"ClassStarter$Explorer", "forget", "()V"⟩ prog_2_method_6_code 1 none ({ frames := 0, cells := 0, slots := 0, locals := 0 }) D cA ad M [.ref (ad j)] (f_Ex_forget M j) := by
  refine cs_entry (by decide) (Nat.le_of_ble_eq_true rfl) (fun p e s m below meth c A ls hC hr hlk _ hw hl => ?_)
  have hx := hC.1
  have hb := hC.2.1
  have hl : lv_has ls 1 [(0, .ref (ad j))] := hl
  generalize hF : f_Ex_forget M j = F
  have hf := hF.symm
  unfold f_Ex_forget at hf
  refine lv_aload_n hx hb d_Ex_forget_0 rfl (lv_at hl 0 rfl) ?_
  refine lv_iconst (v := 0) hx hb d_Ex_forget_1 (by decide) ?_
  refine pf_Ex_foundCount hC hw hj wd_150 d_Ex_forget_2 (fun N1 H locs eN1 hw => ?_)
  have hf := cs_bdE eN1 hf
  refine lv_aload_n hx hb d_Ex_forget_5 rfl (lv_at hl 0 rfl) ?_
  refine lv_iconst (v := 0) hx hb d_Ex_forget_6 (by decide) ?_
  refine pf_Ex_isKnown hC hw hj wd_154 (Or.inl rfl) d_Ex_forget_7 (fun N2 H locs eN2 hw => ?_)
  have hf := cs_bdE eN2 hf
  exact cs_vret hC hw hr hlk hf d_Ex_forget_10
theorem d_Ex_isKnown_0 : decode prog_2_method_7_code 0 = .ok (.aload_n 0, 1) := by decide +kernel
theorem d_Ex_isKnown_1 : decode prog_2_method_7_code 1 = .ok (.getfield 37, 3) := by decide +kernel
theorem d_Ex_isKnown_4 : decode prog_2_method_7_code 4 = .ok (.ireturn, 1) := by decide +kernel
def f_Ex_isKnown (M : cs_Mem) (j : Nat) : Int32 :=
  M j 8
def pre_Ex_isKnown (M : cs_Mem) (j : Nat) : Prop :=
  ((M j 8) = 0 ∨ (M j 8) = 1) ∧
  True
set_option maxHeartbeats 4000000 in
set_option maxRecDepth 100000 in
theorem c_Ex_isKnown (l : Launch) (D : va_G) (cA : Nat → ClassId) (ad : Nat → Nat) (M : cs_Mem) (j : Nat) (hj : cs_is 4 j) (hp : pre_Ex_isKnown M j) : cs_Ci l ⟨"ClassStarter$Explorer", "isKnown", "()Z"⟩ prog_2_method_7_code 1 (some .boolean) ({ frames := 0, cells := 0, slots := 0, locals := 0 }) D cA ad M [.ref (ad j)] ((f_Ex_isKnown M j, M)) := by
  refine cs_entry (by decide) (Nat.le_of_ble_eq_true rfl) (fun p e s m below meth c A ls hC hr hlk _ hw hl => ?_)
  have hx := hC.1
  have hb := hC.2.1
  have hl : lv_has ls 1 [(0, .ref (ad j))] := hl
  generalize hF : f_Ex_isKnown M j = F
  have hf := hF.symm
  unfold f_Ex_isKnown at hf
  unfold pre_Ex_isKnown at hp
  refine lv_aload_n hx hb d_Ex_isKnown_0 rfl (lv_at hl 0 rfl) ?_
  refine gf_Ex_isKnown hC hw hj wd_154 d_Ex_isKnown_1 ?_
  have o1 := hp.1
  have hp := hp.2
  exact cs_zret hC hw hr hlk o1 (congrArg (fun z => (z, M)) hf) d_Ex_isKnown_4
theorem d_Ex_dropAll_0 : decode prog_2_method_12_code 0 = .ok (.aload_n 0, 1) := by decide +kernel
theorem d_Ex_dropAll_1 : decode prog_2_method_12_code 1 = .ok (.iconst 0, 1) := by decide +kernel
theorem d_Ex_dropAll_2 : decode prog_2_method_12_code 2 = .ok (.putfield 27, 3) := by decide +kernel
theorem d_Ex_dropAll_5 : decode prog_2_method_12_code 5 = .ok (.aload_n 0, 1) := by decide +kernel
theorem d_Ex_dropAll_6 : decode prog_2_method_12_code 6 = .ok (.iconst 0, 1) := by decide +kernel
theorem d_Ex_dropAll_7 : decode prog_2_method_12_code 7 = .ok (.putfield 31, 3) := by decide +kernel
theorem d_Ex_dropAll_10 : decode prog_2_method_12_code 10 = .ok (.aload_n 0, 1) := by decide +kernel
theorem d_Ex_dropAll_11 : decode prog_2_method_12_code 11 = .ok (.iconst 0, 1) := by decide +kernel
theorem d_Ex_dropAll_12 : decode prog_2_method_12_code 12 = .ok (.putfield 34, 3) := by decide +kernel
theorem d_Ex_dropAll_15 : decode prog_2_method_12_code 15 = .ok (.return_, 1) := by decide +kernel
def f_Ex_dropAll (M : cs_Mem) (j : Nat) : cs_Mem :=
  cs_bd (cs_up M j (upd (M j) 4 0)) fun (N1 : cs_Mem) =>
  cs_bd (cs_up N1 j (upd (N1 j) 5 0)) fun (N2 : cs_Mem) =>
  cs_bd (cs_up N2 j (upd (N2 j) 6 0)) fun (N3 : cs_Mem) =>
  N3
set_option maxHeartbeats 4000000 in
set_option maxRecDepth 100000 in
theorem c_Ex_dropAll (l : Launch) (D : va_G) (cA : Nat → ClassId) (ad : Nat → Nat) (M : cs_Mem) (j : Nat) (hj : cs_is 4 j) : cs_Cv l ⟨"ClassStarter$Explorer", "dropAll", "()V"⟩ prog_2_method_12_code 1 none ({ frames := 0, cells := 0, slots := 0, locals := 0 }) D cA ad M [.ref (ad j)] (f_Ex_dropAll M j) := by
  refine cs_entry (by decide) (Nat.le_of_ble_eq_true rfl) (fun p e s m below meth c A ls hC hr hlk _ hw hl => ?_)
  have hx := hC.1
  have hb := hC.2.1
  have hl : lv_has ls 1 [(0, .ref (ad j))] := hl
  generalize hF : f_Ex_dropAll M j = F
  have hf := hF.symm
  unfold f_Ex_dropAll at hf
  refine lv_aload_n hx hb d_Ex_dropAll_0 rfl (lv_at hl 0 rfl) ?_
  refine lv_iconst (v := 0) hx hb d_Ex_dropAll_1 (by decide) ?_
  refine pf_Ex_foundCount hC hw hj wd_150 d_Ex_dropAll_2 (fun N1 H locs eN1 hw => ?_)
  have hf := cs_bdE eN1 hf
  refine lv_aload_n hx hb d_Ex_dropAll_5 rfl (lv_at hl 0 rfl) ?_
  refine lv_iconst (v := 0) hx hb d_Ex_dropAll_6 (by decide) ?_
  refine pf_Ex_orders hC hw hj wd_151 d_Ex_dropAll_7 (fun N2 H locs eN2 hw => ?_)
  have hf := cs_bdE eN2 hf
  refine lv_aload_n hx hb d_Ex_dropAll_10 rfl (lv_at hl 0 rfl) ?_
  refine lv_iconst (v := 0) hx hb d_Ex_dropAll_11 (by decide) ?_
  refine pf_Ex_stuckOrders hC hw hj wd_152 d_Ex_dropAll_12 (fun N3 H locs eN3 hw => ?_)
  have hf := cs_bdE eN3 hf
  exact cs_vret hC hw hr hlk hf d_Ex_dropAll_15
theorem d_Ex_begin_0 : decode prog_2_method_10_code 0 = .ok (.aload_n 0, 1) := by decide +kernel
theorem d_Ex_begin_1 : decode prog_2_method_10_code 1 = .ok (.invokevirtual 71, 3) := by decide +kernel
theorem d_Ex_begin_4 : decode prog_2_method_10_code 4 = .ok (.aload_n 0, 1) := by decide +kernel
theorem d_Ex_begin_5 : decode prog_2_method_10_code 5 = .ok (.getfield 23, 3) := by decide +kernel
theorem d_Ex_begin_8 : decode prog_2_method_10_code 8 = .ok (.invokevirtual 74, 3) := by decide +kernel
theorem d_Ex_begin_11 : decode prog_2_method_10_code 11 = .ok (.aload_n 0, 1) := by decide +kernel
theorem d_Ex_begin_12 : decode prog_2_method_10_code 12 = .ok (.iconst 0, 1) := by decide +kernel
theorem d_Ex_begin_13 : decode prog_2_method_10_code 13 = .ok (.putfield 48, 3) := by decide +kernel
theorem d_Ex_begin_16 : decode prog_2_method_10_code 16 = .ok (.aload_n 0, 1) := by decide +kernel
theorem d_Ex_begin_17 : decode prog_2_method_10_code 17 = .ok (.getfield 17, 3) := by decide +kernel
theorem d_Ex_begin_20 : decode prog_2_method_10_code 20 = .ok (.iconst 0, 1) := by decide +kernel
theorem d_Ex_begin_21 : decode prog_2_method_10_code 21 = .ok (.iconst 0, 1) := by decide +kernel
theorem d_Ex_begin_22 : decode prog_2_method_10_code 22 = .ok (.iastore, 1) := by decide +kernel
theorem d_Ex_begin_23 : decode prog_2_method_10_code 23 = .ok (.return_, 1) := by decide +kernel
def f_Ex_begin (M : cs_Mem) (j : Nat) : cs_Mem :=
  cs_bd (f_Ex_dropAll M j) fun (u1 : cs_Mem) =>
  cs_bd (f_Ma_restart u1 56) fun (u3 : cs_Mem) =>
  cs_bd (cs_up u3 j (upd (u3 j) 7 0)) fun (N4 : cs_Mem) =>
  cs_bd (cs_up N4 60 (upd (N4 60) 0 0)) fun (N6 : cs_Mem) =>
  N6
def pre_Ex_begin (M : cs_Mem) (j : Nat) : Prop :=
  cs_bd (f_Ex_dropAll M j) fun (u1 : cs_Mem) =>
  (pre_Ma_restart u1 56) ∧
  cs_bd (f_Ma_restart u1 56) fun (u3 : cs_Mem) =>
  cs_bd (cs_up u3 j (upd (u3 j) 7 0)) fun (N4 : cs_Mem) =>
  (vp_in 0 (cs_ln N4 60)) ∧
  True
set_option maxHeartbeats 4000000 in
set_option maxRecDepth 100000 in
theorem c_Ex_begin (l : Launch) (D : va_G) (cA : Nat → ClassId) (ad : Nat → Nat) (M : cs_Mem) (j : Nat) (hj : cs_is 4 j) (hp : pre_Ex_begin M j) : cs_Cv l ⟨"ClassStarter$Explorer", "begin", "()V"⟩ prog_2_method_10_code 1 none ({ frames := 2, cells := 0, slots := 0, locals := 44 }) D cA ad M [.ref (ad j)] (f_Ex_begin M j) := by
  refine cs_entry (by decide) (Nat.le_of_ble_eq_true rfl) (fun p e s m below meth c A ls hC hr hlk _ hw hl => ?_)
  have hx := hC.1
  have hb := hC.2.1
  have hl : lv_has ls 1 [(0, .ref (ad j))] := hl
  generalize hF : f_Ex_begin M j = F
  have hf := hF.symm
  unfold f_Ex_begin at hf
  unfold pre_Ex_begin at hp
  refine lv_aload_n hx hb d_Ex_begin_0 rfl (lv_at hl 0 rfl) ?_
  refine cs_ret_v hC hw (cs_runV (As := []) (rest := []) hC hw hj.2 (ci := 4) rfl rfl (cs_sg_is hj) (c_Ex_dropAll l D cA ad M j hj _) rfl rfl cw_Ex_71 ⟨Nat.le_of_ble_eq_true rfl, Nat.le_of_ble_eq_true rfl⟩ hl.1 rfl rfl (Nat.le_of_ble_eq_true rfl) d_Ex_begin_1 ⟨Nat.zero_le _, Nat.zero_le _⟩) (fun u1 H locs eu1 hw => ?_)
  have hp := cs_bdP eu1 hp
  have hf := cs_bdE eu1 hf
  refine lv_aload_n hx hb d_Ex_begin_4 rfl (lv_at hl 0 rfl) ?_
  refine gf_Ex_machine hC hw hj wd_146 d_Ex_begin_5 ?_
  have o2 := hp.1
  have hp := hp.2
  refine cs_ret_v hC hw (cs_runV (As := []) (rest := []) hC hw is_56.2 (ci := 3) rfl rfl (cs_sg_is is_56) (c_Ma_restart l D cA ad u1 56 is_56 o2 _) rfl rfl cw_Ex_74 ⟨Nat.le_of_ble_eq_true rfl, Nat.le_of_ble_eq_true rfl⟩ hl.1 rfl rfl (Nat.le_of_ble_eq_true rfl) d_Ex_begin_8 ⟨Nat.zero_le _, Nat.zero_le _⟩) (fun u3 H locs eu3 hw => ?_)
  have hp := cs_bdP eu3 hp
  have hf := cs_bdE eu3 hf
  refine lv_aload_n hx hb d_Ex_begin_11 rfl (lv_at hl 0 rfl) ?_
  refine lv_iconst (v := 0) hx hb d_Ex_begin_12 (by decide) ?_
  refine pf_Ex_depth hC hw hj wd_153 d_Ex_begin_13 (fun N4 H locs eN4 hw => ?_)
  have hp := cs_bdP eN4 hp
  have hf := cs_bdE eN4 hf
  refine lv_aload_n hx hb d_Ex_begin_16 rfl (lv_at hl 0 rfl) ?_
  refine gf_Ex_untried hC hw hj wd_148 d_Ex_begin_17 ?_
  refine lv_iconst (v := 0) hx hb d_Ex_begin_20 (by decide) ?_
  refine lv_iconst (v := 0) hx hb d_Ex_begin_21 (by decide) ?_
  have o5 := hp.1
  have hp := hp.2
  refine cs_iast hC hw is_60 o5 d_Ex_begin_22 (fun N6 H locs eN6 hw => ?_)
  have hf := cs_bdE eN6 hf
  exact cs_vret hC hw hr hlk hf d_Ex_begin_23
theorem d_Ex_goDown_0 : decode prog_2_method_13_code 0 = .ok (.aload_n 0, 1) := by decide +kernel
theorem d_Ex_goDown_1 : decode prog_2_method_13_code 1 = .ok (.getfield 17, 3) := by decide +kernel
theorem d_Ex_goDown_4 : decode prog_2_method_13_code 4 = .ok (.aload_n 0, 1) := by decide +kernel
theorem d_Ex_goDown_5 : decode prog_2_method_13_code 5 = .ok (.getfield 48, 3) := by decide +kernel
theorem d_Ex_goDown_8 : decode prog_2_method_13_code 8 = .ok (.iaload, 1) := by decide +kernel
theorem d_Ex_goDown_9 : decode prog_2_method_13_code 9 = .ok (.ifCond .ne 21, 3) := by decide +kernel
theorem d_Ex_goDown_12 : decode prog_2_method_13_code 12 = .ok (.aload_n 0, 1) := by decide +kernel
theorem d_Ex_goDown_13 : decode prog_2_method_13_code 13 = .ok (.getfield 23, 3) := by decide +kernel
theorem d_Ex_goDown_16 : decode prog_2_method_13_code 16 = .ok (.aload_n 0, 1) := by decide +kernel
theorem d_Ex_goDown_17 : decode prog_2_method_13_code 17 = .ok (.getfield 11, 3) := by decide +kernel
theorem d_Ex_goDown_20 : decode prog_2_method_13_code 20 = .ok (.aload_n 0, 1) := by decide +kernel
theorem d_Ex_goDown_21 : decode prog_2_method_13_code 21 = .ok (.getfield 48, 3) := by decide +kernel
theorem d_Ex_goDown_24 : decode prog_2_method_13_code 24 = .ok (.bipush 43, 2) := by decide +kernel
theorem d_Ex_goDown_26 : decode prog_2_method_13_code 26 = .ok (.imul, 1) := by decide +kernel
theorem d_Ex_goDown_27 : decode prog_2_method_13_code 27 = .ok (.invokevirtual 77, 3) := by decide +kernel
theorem d_Ex_goDown_30 : decode prog_2_method_13_code 30 = .ok (.aload_n 0, 1) := by decide +kernel
theorem d_Ex_goDown_31 : decode prog_2_method_13_code 31 = .ok (.getfield 17, 3) := by decide +kernel
theorem d_Ex_goDown_34 : decode prog_2_method_13_code 34 = .ok (.aload_n 0, 1) := by decide +kernel
theorem d_Ex_goDown_35 : decode prog_2_method_13_code 35 = .ok (.getfield 48, 3) := by decide +kernel
theorem d_Ex_goDown_38 : decode prog_2_method_13_code 38 = .ok (.iload_n 1, 1) := by decide +kernel
theorem d_Ex_goDown_39 : decode prog_2_method_13_code 39 = .ok (.iconst 1, 1) := by decide +kernel
theorem d_Ex_goDown_40 : decode prog_2_method_13_code 40 = .ok (.iadd, 1) := by decide +kernel
theorem d_Ex_goDown_41 : decode prog_2_method_13_code 41 = .ok (.iastore, 1) := by decide +kernel
theorem d_Ex_goDown_42 : decode prog_2_method_13_code 42 = .ok (.aload_n 0, 1) := by decide +kernel
theorem d_Ex_goDown_43 : decode prog_2_method_13_code 43 = .ok (.dup, 1) := by decide +kernel
theorem d_Ex_goDown_44 : decode prog_2_method_13_code 44 = .ok (.getfield 48, 3) := by decide +kernel
theorem d_Ex_goDown_47 : decode prog_2_method_13_code 47 = .ok (.iconst 1, 1) := by decide +kernel
theorem d_Ex_goDown_48 : decode prog_2_method_13_code 48 = .ok (.iadd, 1) := by decide +kernel
theorem d_Ex_goDown_49 : decode prog_2_method_13_code 49 = .ok (.putfield 48, 3) := by decide +kernel
theorem d_Ex_goDown_52 : decode prog_2_method_13_code 52 = .ok (.aload_n 0, 1) := by decide +kernel
theorem d_Ex_goDown_53 : decode prog_2_method_13_code 53 = .ok (.getfield 17, 3) := by decide +kernel
theorem d_Ex_goDown_56 : decode prog_2_method_13_code 56 = .ok (.aload_n 0, 1) := by decide +kernel
theorem d_Ex_goDown_57 : decode prog_2_method_13_code 57 = .ok (.getfield 48, 3) := by decide +kernel
theorem d_Ex_goDown_60 : decode prog_2_method_13_code 60 = .ok (.iconst 0, 1) := by decide +kernel
theorem d_Ex_goDown_61 : decode prog_2_method_13_code 61 = .ok (.iastore, 1) := by decide +kernel
theorem d_Ex_goDown_62 : decode prog_2_method_13_code 62 = .ok (.return_, 1) := by decide +kernel
def f_Ex_goDown_J30 (M : cs_Mem) (j : Nat) (y1 : Int32) : cs_Mem :=
  cs_bd (cs_up M 60 (upd (M 60) (M j 7).toNatClampNeg (y1 + 1))) fun (N6 : cs_Mem) =>
  cs_bd (cs_up N6 j (upd (N6 j) 7 ((N6 j 7) + 1))) fun (N7 : cs_Mem) =>
  cs_bd (cs_up N7 60 (upd (N7 60) (N7 j 7).toNatClampNeg 0)) fun (N9 : cs_Mem) =>
  N9
def pre_Ex_goDown_J30 (M : cs_Mem) (j : Nat) (y1 : Int32) : Prop :=
  (vp_in (M j 7) (cs_ln M 60)) ∧
  cs_bd (cs_up M 60 (upd (M 60) (M j 7).toNatClampNeg (y1 + 1))) fun (N6 : cs_Mem) =>
  cs_bd (cs_up N6 j (upd (N6 j) 7 ((N6 j 7) + 1))) fun (N7 : cs_Mem) =>
  (vp_in (N7 j 7) (cs_ln N7 60)) ∧
  True
def f_Ex_goDown (M : cs_Mem) (j : Nat) (x1 : Int32) : cs_Mem :=
  if (M 60 (M j 7).toNatClampNeg) = 0 then
    cs_bd (f_Ma_keepIn M 56 59 ((M j 7) * 43)) fun (u4 : cs_Mem) =>
    f_Ex_goDown_J30 u4 j x1
  else
    f_Ex_goDown_J30 M j x1
def pre_Ex_goDown (M : cs_Mem) (j : Nat) (x1 : Int32) : Prop :=
  (vp_in (M j 7) (cs_ln M 60)) ∧
  ((M 60 (M j 7).toNatClampNeg) = 0 →
    (pre_Ma_keepIn M 56 59 ((M j 7) * 43)) ∧
    cs_bd (f_Ma_keepIn M 56 59 ((M j 7) * 43)) fun (u4 : cs_Mem) =>
    pre_Ex_goDown_J30 u4 j x1
  ) ∧ (¬ ((M 60 (M j 7).toNatClampNeg) = 0) →
    pre_Ex_goDown_J30 M j x1
  )
set_option maxHeartbeats 4000000 in
set_option maxRecDepth 100000 in
theorem w_Ex_goDown_J30 {p : Program} {l : Launch} {e : Env} {s : State} {m : MethodId} {args : Array Value} {below : List Frame} {meth : Method} {c : Code} {D : va_G} {cA : Nat → ClassId} {A : Nat → Prop} {ad : Nat → Nat} {F : cs_Mem} (hC : cs_Ctx p s m args c prog_2_method_13_code 2 "ClassStarter$Explorer" D cA A) (hr : meth.sig.returnType = none) (hlk : meth.locks = false) : ∀ (M : cs_Mem) (j : Nat) (y1 : Int32) (H : Heap) (locs : List Loc) (ls : Array Slot), cs_Wd D cA ad M A s H locs → lv_has ls 2 [(0, .ref (ad j)), (1, .int y1)] → cs_is 4 j → pre_Ex_goDown_J30 M j y1 → F = f_Ex_goDown_J30 M j y1 → W p l e ({ frames := 2, cells := 0, slots := 0, locals := 62 }) s m args below meth c H locs 0 0 (MQ below (cs_Qv D cA ad F A) args s 0 0 A) (F0 m 30 ls []) := by
  have hx := hC.1
  have hb := hC.2.1
  intro M j y1 H locs ls hw hl g0 hp hf
  unfold f_Ex_goDown_J30 at hf
  unfold pre_Ex_goDown_J30 at hp
  refine lv_aload_n hx hb d_Ex_goDown_30 rfl (lv_at hl 0 rfl) ?_
  refine gf_Ex_untried hC hw g0 wd_148 d_Ex_goDown_31 ?_
  refine lv_aload_n hx hb d_Ex_goDown_34 rfl (lv_at hl 0 rfl) ?_
  refine gf_Ex_depth hC hw g0 wd_153 d_Ex_goDown_35 ?_
  refine lv_iload_n hx hb d_Ex_goDown_38 rfl (lv_at hl 1 rfl) ?_
  refine lv_iconst (v := 1) hx hb d_Ex_goDown_39 (by decide) ?_
  refine lv_iadd hx hb d_Ex_goDown_40 ?_
  have o5 := hp.1
  have hp := hp.2
  refine cs_iast hC hw is_60 o5 d_Ex_goDown_41 (fun N6 H locs eN6 hw => ?_)
  have hp := cs_bdP eN6 hp
  have hf := cs_bdE eN6 hf
  refine lv_aload_n hx hb d_Ex_goDown_42 rfl (lv_at hl 0 rfl) ?_
  refine lv_dup hx hb d_Ex_goDown_43 rfl ?_
  refine gf_Ex_depth hC hw g0 wd_153 d_Ex_goDown_44 ?_
  refine lv_iconst (v := 1) hx hb d_Ex_goDown_47 (by decide) ?_
  refine lv_iadd hx hb d_Ex_goDown_48 ?_
  refine pf_Ex_depth hC hw g0 wd_153 d_Ex_goDown_49 (fun N7 H locs eN7 hw => ?_)
  have hp := cs_bdP eN7 hp
  have hf := cs_bdE eN7 hf
  refine lv_aload_n hx hb d_Ex_goDown_52 rfl (lv_at hl 0 rfl) ?_
  refine gf_Ex_untried hC hw g0 wd_148 d_Ex_goDown_53 ?_
  refine lv_aload_n hx hb d_Ex_goDown_56 rfl (lv_at hl 0 rfl) ?_
  refine gf_Ex_depth hC hw g0 wd_153 d_Ex_goDown_57 ?_
  refine lv_iconst (v := 0) hx hb d_Ex_goDown_60 (by decide) ?_
  have o8 := hp.1
  have hp := hp.2
  refine cs_iast hC hw is_60 o8 d_Ex_goDown_61 (fun N9 H locs eN9 hw => ?_)
  have hf := cs_bdE eN9 hf
  exact cs_vret hC hw hr hlk hf d_Ex_goDown_62
set_option maxHeartbeats 4000000 in
set_option maxRecDepth 100000 in
theorem c_Ex_goDown (l : Launch) (D : va_G) (cA : Nat → ClassId) (ad : Nat → Nat) (M : cs_Mem) (j : Nat) (hj : cs_is 4 j) (x1 : Int32) (hp : pre_Ex_goDown M j x1) : cs_Cv l ⟨"ClassStarter$Explorer", "goDown", "(I)V"⟩ prog_2_method_13_code 2 none ({ frames := 2, cells := 0, slots := 0, locals := 62 }) D cA ad M [.ref (ad j), .int x1] (f_Ex_goDown M j x1) := by
  refine cs_entry (by decide) (Nat.le_of_ble_eq_true rfl) (fun p e s m below meth c A ls hC hr hlk _ hw hl => ?_)
  have hx := hC.1
  have hb := hC.2.1
  have hl : lv_has ls 2 [(0, .ref (ad j)), (1, .int x1)] := hl
  generalize hF : f_Ex_goDown M j x1 = F
  have hf := hF.symm
  unfold f_Ex_goDown at hf
  unfold pre_Ex_goDown at hp
  refine lv_aload_n hx hb d_Ex_goDown_0 rfl (lv_at hl 0 rfl) ?_
  refine gf_Ex_untried hC hw hj wd_148 d_Ex_goDown_1 ?_
  refine lv_aload_n hx hb d_Ex_goDown_4 rfl (lv_at hl 0 rfl) ?_
  refine gf_Ex_depth hC hw hj wd_153 d_Ex_goDown_5 ?_
  have o1 := hp.1
  have hp := hp.2
  refine cs_iald hC hw is_60 o1 d_Ex_goDown_8 ?_
  refine lv_if_ne (tgt := 30) hx hb d_Ex_goDown_9 (by decide) (fun c2 => ?_) (fun c2 => ?_)
  · have hp := hp.2 c2
    have hf := hf.trans (if_neg c2)
    exact w_Ex_goDown_J30 hC hr hlk M j x1 _ _ ls hw (lv_sub hl [0, 1] rfl) hj hp hf
  · have hp := hp.1 c2
    have hf := hf.trans (if_pos c2)
    refine lv_aload_n hx hb d_Ex_goDown_12 rfl (lv_at hl 0 rfl) ?_
    refine gf_Ex_machine hC hw hj wd_146 d_Ex_goDown_13 ?_
    refine lv_aload_n hx hb d_Ex_goDown_16 rfl (lv_at hl 0 rfl) ?_
    refine gf_Ex_kept hC hw hj wd_147 d_Ex_goDown_17 ?_
    refine lv_aload_n hx hb d_Ex_goDown_20 rfl (lv_at hl 0 rfl) ?_
    refine gf_Ex_depth hC hw hj wd_153 d_Ex_goDown_21 ?_
    refine lv_bipush (v := 43) hx hb d_Ex_goDown_24 (by decide) ?_
    refine lv_imul hx hb d_Ex_goDown_26 ?_
    have o3 := hp.1
    have hp := hp.2
    refine cs_ret_v hC hw (cs_runV (As := [.ref (ad 59), .int ((M j 7) * 43)]) (rest := []) hC hw is_56.2 (ci := 3) rfl rfl (cs_sg_is is_56) (c_Ma_keepIn l D cA ad M 56 is_56 59 is_59 ((M j 7) * 43) o3 _) rfl rfl cw_Ex_77 ⟨Nat.le_of_ble_eq_true rfl, Nat.le_of_ble_eq_true rfl⟩ hl.1 rfl rfl (Nat.le_of_ble_eq_true rfl) d_Ex_goDown_27 ⟨Nat.zero_le _, Nat.zero_le _⟩) (fun u4 H locs eu4 hw => ?_)
    have hp := cs_bdP eu4 hp
    have hf := cs_bdE eu4 hf
    exact w_Ex_goDown_J30 hC hr hlk u4 j x1 _ _ ls hw (lv_sub hl [0, 1] rfl) hj hp hf
theorem d_Ex_goUp_0 : decode prog_2_method_14_code 0 = .ok (.aload_n 0, 1) := by decide +kernel
theorem d_Ex_goUp_1 : decode prog_2_method_14_code 1 = .ok (.dup, 1) := by decide +kernel
theorem d_Ex_goUp_2 : decode prog_2_method_14_code 2 = .ok (.getfield 48, 3) := by decide +kernel
theorem d_Ex_goUp_5 : decode prog_2_method_14_code 5 = .ok (.iconst 1, 1) := by decide +kernel
theorem d_Ex_goUp_6 : decode prog_2_method_14_code 6 = .ok (.isub, 1) := by decide +kernel
theorem d_Ex_goUp_7 : decode prog_2_method_14_code 7 = .ok (.putfield 48, 3) := by decide +kernel
theorem d_Ex_goUp_10 : decode prog_2_method_14_code 10 = .ok (.aload_n 0, 1) := by decide +kernel
theorem d_Ex_goUp_11 : decode prog_2_method_14_code 11 = .ok (.getfield 48, 3) := by decide +kernel
theorem d_Ex_goUp_14 : decode prog_2_method_14_code 14 = .ok (.ifCond .lt 21, 3) := by decide +kernel
theorem d_Ex_goUp_17 : decode prog_2_method_14_code 17 = .ok (.aload_n 0, 1) := by decide +kernel
theorem d_Ex_goUp_18 : decode prog_2_method_14_code 18 = .ok (.getfield 23, 3) := by decide +kernel
theorem d_Ex_goUp_21 : decode prog_2_method_14_code 21 = .ok (.aload_n 0, 1) := by decide +kernel
theorem d_Ex_goUp_22 : decode prog_2_method_14_code 22 = .ok (.getfield 11, 3) := by decide +kernel
theorem d_Ex_goUp_25 : decode prog_2_method_14_code 25 = .ok (.aload_n 0, 1) := by decide +kernel
theorem d_Ex_goUp_26 : decode prog_2_method_14_code 26 = .ok (.getfield 48, 3) := by decide +kernel
theorem d_Ex_goUp_29 : decode prog_2_method_14_code 29 = .ok (.bipush 43, 2) := by decide +kernel
theorem d_Ex_goUp_31 : decode prog_2_method_14_code 31 = .ok (.imul, 1) := by decide +kernel
theorem d_Ex_goUp_32 : decode prog_2_method_14_code 32 = .ok (.invokevirtual 81, 3) := by decide +kernel
theorem d_Ex_goUp_35 : decode prog_2_method_14_code 35 = .ok (.return_, 1) := by decide +kernel
def f_Ex_goUp (M : cs_Mem) (j : Nat) : cs_Mem :=
  cs_bd (cs_up M j (upd (M j) 7 ((M j 7) - 1))) fun (N1 : cs_Mem) =>
  if (N1 j 7) < 0 then
    N1
  else
    cs_bd (f_Ma_bringBack N1 56 59 ((N1 j 7) * 43)) fun (u4 : cs_Mem) =>
    u4
def pre_Ex_goUp (M : cs_Mem) (j : Nat) : Prop :=
  cs_bd (cs_up M j (upd (M j) 7 ((M j 7) - 1))) fun (N1 : cs_Mem) =>
  ((N1 j 7) < 0 →
    True
  ) ∧ (¬ ((N1 j 7) < 0) →
    (pre_Ma_bringBack N1 56 59 ((N1 j 7) * 43)) ∧
    True
  )
set_option maxHeartbeats 4000000 in
set_option maxRecDepth 100000 in
theorem c_Ex_goUp (l : Launch) (D : va_G) (cA : Nat → ClassId) (ad : Nat → Nat) (M : cs_Mem) (j : Nat) (hj : cs_is 4 j) (hp : pre_Ex_goUp M j) : cs_Cv l ⟨"ClassStarter$Explorer", "goUp", "()V"⟩ prog_2_method_14_code 1 none ({ frames := 2, cells := 0, slots := 0, locals := 62 }) D cA ad M [.ref (ad j)] (f_Ex_goUp M j) := by
  refine cs_entry (by decide) (Nat.le_of_ble_eq_true rfl) (fun p e s m below meth c A ls hC hr hlk _ hw hl => ?_)
  have hx := hC.1
  have hb := hC.2.1
  have hl : lv_has ls 1 [(0, .ref (ad j))] := hl
  generalize hF : f_Ex_goUp M j = F
  have hf := hF.symm
  unfold f_Ex_goUp at hf
  unfold pre_Ex_goUp at hp
  refine lv_aload_n hx hb d_Ex_goUp_0 rfl (lv_at hl 0 rfl) ?_
  refine lv_dup hx hb d_Ex_goUp_1 rfl ?_
  refine gf_Ex_depth hC hw hj wd_153 d_Ex_goUp_2 ?_
  refine lv_iconst (v := 1) hx hb d_Ex_goUp_5 (by decide) ?_
  refine lv_isub hx hb d_Ex_goUp_6 ?_
  refine pf_Ex_depth hC hw hj wd_153 d_Ex_goUp_7 (fun N1 H locs eN1 hw => ?_)
  have hp := cs_bdP eN1 hp
  have hf := cs_bdE eN1 hf
  refine lv_aload_n hx hb d_Ex_goUp_10 rfl (lv_at hl 0 rfl) ?_
  refine gf_Ex_depth hC hw hj wd_153 d_Ex_goUp_11 ?_
  refine lv_if_lt (tgt := 35) hx hb d_Ex_goUp_14 (by decide) (fun c2 => ?_) (fun c2 => ?_)
  · have hp := hp.1 c2
    have hf := hf.trans (if_pos c2)
    exact cs_vret hC hw hr hlk hf d_Ex_goUp_35
  · have hp := hp.2 c2
    have hf := hf.trans (if_neg c2)
    refine lv_aload_n hx hb d_Ex_goUp_17 rfl (lv_at hl 0 rfl) ?_
    refine gf_Ex_machine hC hw hj wd_146 d_Ex_goUp_18 ?_
    refine lv_aload_n hx hb d_Ex_goUp_21 rfl (lv_at hl 0 rfl) ?_
    refine gf_Ex_kept hC hw hj wd_147 d_Ex_goUp_22 ?_
    refine lv_aload_n hx hb d_Ex_goUp_25 rfl (lv_at hl 0 rfl) ?_
    refine gf_Ex_depth hC hw hj wd_153 d_Ex_goUp_26 ?_
    refine lv_bipush (v := 43) hx hb d_Ex_goUp_29 (by decide) ?_
    refine lv_imul hx hb d_Ex_goUp_31 ?_
    have o3 := hp.1
    have hp := hp.2
    refine cs_ret_v hC hw (cs_runV (As := [.ref (ad 59), .int ((N1 j 7) * 43)]) (rest := []) hC hw is_56.2 (ci := 3) rfl rfl (cs_sg_is is_56) (c_Ma_bringBack l D cA ad N1 56 is_56 59 is_59 ((N1 j 7) * 43) o3 _) rfl rfl cw_Ex_81 ⟨Nat.le_of_ble_eq_true rfl, Nat.le_of_ble_eq_true rfl⟩ hl.1 rfl rfl (Nat.le_of_ble_eq_true rfl) d_Ex_goUp_32 ⟨Nat.zero_le _, Nat.zero_le _⟩) (fun u4 H locs eu4 hw => ?_)
    have hf := cs_bdE eu4 hf
    exact cs_vret hC hw hr hlk hf d_Ex_goUp_35
theorem d_Ex_finish_0 : decode prog_2_method_11_code 0 = .ok (.aload_n 0, 1) := by decide +kernel
theorem d_Ex_finish_1 : decode prog_2_method_11_code 1 = .ok (.aload_n 0, 1) := by decide +kernel
theorem d_Ex_finish_2 : decode prog_2_method_11_code 2 = .ok (.getfield 27, 3) := by decide +kernel
theorem d_Ex_finish_5 : decode prog_2_method_11_code 5 = .ok (.putfield 41, 3) := by decide +kernel
theorem d_Ex_finish_8 : decode prog_2_method_11_code 8 = .ok (.aload_n 0, 1) := by decide +kernel
theorem d_Ex_finish_9 : decode prog_2_method_11_code 9 = .ok (.getfield 48, 3) := by decide +kernel
theorem d_Ex_finish_12 : decode prog_2_method_11_code 12 = .ok (.ifCond .ge 13, 3) := by decide +kernel
theorem d_Ex_finish_15 : decode prog_2_method_11_code 15 = .ok (.aload_n 0, 1) := by decide +kernel
theorem d_Ex_finish_16 : decode prog_2_method_11_code 16 = .ok (.getfield 31, 3) := by decide +kernel
theorem d_Ex_finish_19 : decode prog_2_method_11_code 19 = .ok (.sipush 3000, 3) := by decide +kernel
theorem d_Ex_finish_22 : decode prog_2_method_11_code 22 = .ok (.if_icmp .le 13, 3) := by decide +kernel
theorem d_Ex_finish_25 : decode prog_2_method_11_code 25 = .ok (.aload_n 0, 1) := by decide +kernel
theorem d_Ex_finish_26 : decode prog_2_method_11_code 26 = .ok (.invokevirtual 71, 3) := by decide +kernel
theorem d_Ex_finish_29 : decode prog_2_method_11_code 29 = .ok (.aload_n 0, 1) := by decide +kernel
theorem d_Ex_finish_30 : decode prog_2_method_11_code 30 = .ok (.bipush (-2), 2) := by decide +kernel
theorem d_Ex_finish_32 : decode prog_2_method_11_code 32 = .ok (.putfield 41, 3) := by decide +kernel
theorem d_Ex_finish_35 : decode prog_2_method_11_code 35 = .ok (.aload_n 0, 1) := by decide +kernel
theorem d_Ex_finish_36 : decode prog_2_method_11_code 36 = .ok (.iconst 1, 1) := by decide +kernel
theorem d_Ex_finish_37 : decode prog_2_method_11_code 37 = .ok (.putfield 37, 3) := by decide +kernel
theorem d_Ex_finish_40 : decode prog_2_method_11_code 40 = .ok (.return_, 1) := by decide +kernel
def f_Ex_finish (M : cs_Mem) (j : Nat) : cs_Mem :=
  cs_bd (cs_up M j (upd (M j) 9 (M j 4))) fun (N1 : cs_Mem) =>
  if 0 ≤ (N1 j 7) then
    cs_bd (f_Ex_dropAll N1 j) fun (u3 : cs_Mem) =>
    cs_bd (cs_up u3 j (upd (u3 j) 9 (-2))) fun (N4 : cs_Mem) =>
    cs_bd (cs_up N4 j (upd (N4 j) 8 1)) fun (N5 : cs_Mem) =>
    N5
  else
    if (N1 j 5) ≤ 3000 then
      cs_bd (cs_up N1 j (upd (N1 j) 8 1)) fun (N8 : cs_Mem) =>
      N8
    else
      cs_bd (f_Ex_dropAll N1 j) fun (u10 : cs_Mem) =>
      cs_bd (cs_up u10 j (upd (u10 j) 9 (-2))) fun (N11 : cs_Mem) =>
      cs_bd (cs_up N11 j (upd (N11 j) 8 1)) fun (N12 : cs_Mem) =>
      N12
set_option maxHeartbeats 4000000 in
set_option maxRecDepth 100000 in
theorem c_Ex_finish (l : Launch) (D : va_G) (cA : Nat → ClassId) (ad : Nat → Nat) (M : cs_Mem) (j : Nat) (hj : cs_is 4 j) : cs_Cv l ⟨"ClassStarter$Explorer", "finish", "()V"⟩ prog_2_method_11_code 1 none ({ frames := 1, cells := 0, slots := 0, locals := 20 }) D cA ad M [.ref (ad j)] (f_Ex_finish M j) := by
  refine cs_entry (by decide) (Nat.le_of_ble_eq_true rfl) (fun p e s m below meth c A ls hC hr hlk _ hw hl => ?_)
  have hx := hC.1
  have hb := hC.2.1
  have hl : lv_has ls 1 [(0, .ref (ad j))] := hl
  generalize hF : f_Ex_finish M j = F
  have hf := hF.symm
  unfold f_Ex_finish at hf
  refine lv_aload_n hx hb d_Ex_finish_0 rfl (lv_at hl 0 rfl) ?_
  refine lv_aload_n hx hb d_Ex_finish_1 rfl (lv_at hl 0 rfl) ?_
  refine gf_Ex_foundCount hC hw hj wd_150 d_Ex_finish_2 ?_
  refine pf_Ex_answer hC hw hj wd_155 d_Ex_finish_5 (fun N1 H locs eN1 hw => ?_)
  have hf := cs_bdE eN1 hf
  refine lv_aload_n hx hb d_Ex_finish_8 rfl (lv_at hl 0 rfl) ?_
  refine gf_Ex_depth hC hw hj wd_153 d_Ex_finish_9 ?_
  refine lv_if_ge (tgt := 25) hx hb d_Ex_finish_12 (by decide) (fun c2 => ?_) (fun c2 => ?_)
  · have hf := hf.trans (if_pos c2)
    refine lv_aload_n hx hb d_Ex_finish_25 rfl (lv_at hl 0 rfl) ?_
    refine cs_ret_v hC hw (cs_runV (As := []) (rest := []) hC hw hj.2 (ci := 4) rfl rfl (cs_sg_is hj) (c_Ex_dropAll l D cA ad N1 j hj _) rfl rfl cw_Ex_71 ⟨Nat.le_of_ble_eq_true rfl, Nat.le_of_ble_eq_true rfl⟩ hl.1 rfl rfl (Nat.le_of_ble_eq_true rfl) d_Ex_finish_26 ⟨Nat.zero_le _, Nat.zero_le _⟩) (fun u3 H locs eu3 hw => ?_)
    have hf := cs_bdE eu3 hf
    refine lv_aload_n hx hb d_Ex_finish_29 rfl (lv_at hl 0 rfl) ?_
    refine lv_bipush (v := (-2)) hx hb d_Ex_finish_30 (by decide) ?_
    refine pf_Ex_answer hC hw hj wd_155 d_Ex_finish_32 (fun N4 H locs eN4 hw => ?_)
    have hf := cs_bdE eN4 hf
    refine lv_aload_n hx hb d_Ex_finish_35 rfl (lv_at hl 0 rfl) ?_
    refine lv_iconst (v := 1) hx hb d_Ex_finish_36 (by decide) ?_
    refine pf_Ex_isKnown hC hw hj wd_154 (Or.inr rfl) d_Ex_finish_37 (fun N5 H locs eN5 hw => ?_)
    have hf := cs_bdE eN5 hf
    exact cs_vret hC hw hr hlk hf d_Ex_finish_40
  · have hf := hf.trans (if_neg c2)
    refine lv_aload_n hx hb d_Ex_finish_15 rfl (lv_at hl 0 rfl) ?_
    refine gf_Ex_orders hC hw hj wd_151 d_Ex_finish_16 ?_
    refine lv_sipush (v := 3000) hx hb d_Ex_finish_19 (by decide) ?_
    refine lv_icmp_le (tgt := 35) hx hb d_Ex_finish_22 (by decide) (fun c7 => ?_) (fun c7 => ?_)
    · have hf := hf.trans (if_pos c7)
      refine lv_aload_n hx hb d_Ex_finish_35 rfl (lv_at hl 0 rfl) ?_
      refine lv_iconst (v := 1) hx hb d_Ex_finish_36 (by decide) ?_
      refine pf_Ex_isKnown hC hw hj wd_154 (Or.inr rfl) d_Ex_finish_37 (fun N8 H locs eN8 hw => ?_)
      have hf := cs_bdE eN8 hf
      exact cs_vret hC hw hr hlk hf d_Ex_finish_40
    · have hf := hf.trans (if_neg c7)
      refine lv_aload_n hx hb d_Ex_finish_25 rfl (lv_at hl 0 rfl) ?_
      refine cs_ret_v hC hw (cs_runV (As := []) (rest := []) hC hw hj.2 (ci := 4) rfl rfl (cs_sg_is hj) (c_Ex_dropAll l D cA ad N1 j hj _) rfl rfl cw_Ex_71 ⟨Nat.le_of_ble_eq_true rfl, Nat.le_of_ble_eq_true rfl⟩ hl.1 rfl rfl (Nat.le_of_ble_eq_true rfl) d_Ex_finish_26 ⟨Nat.zero_le _, Nat.zero_le _⟩) (fun u10 H locs eu10 hw => ?_)
      have hf := cs_bdE eu10 hf
      refine lv_aload_n hx hb d_Ex_finish_29 rfl (lv_at hl 0 rfl) ?_
      refine lv_bipush (v := (-2)) hx hb d_Ex_finish_30 (by decide) ?_
      refine pf_Ex_answer hC hw hj wd_155 d_Ex_finish_32 (fun N11 H locs eN11 hw => ?_)
      have hf := cs_bdE eN11 hf
      refine lv_aload_n hx hb d_Ex_finish_35 rfl (lv_at hl 0 rfl) ?_
      refine lv_iconst (v := 1) hx hb d_Ex_finish_36 (by decide) ?_
      refine pf_Ex_isKnown hC hw hj wd_154 (Or.inr rfl) d_Ex_finish_37 (fun N12 H locs eN12 hw => ?_)
      have hf := cs_bdE eN12 hf
      exact cs_vret hC hw hr hlk hf d_Ex_finish_40
theorem d_Ex_answer_0 : decode prog_2_method_8_code 0 = .ok (.aload_n 0, 1) := by decide +kernel
theorem d_Ex_answer_1 : decode prog_2_method_8_code 1 = .ok (.getfield 41, 3) := by decide +kernel
theorem d_Ex_answer_4 : decode prog_2_method_8_code 4 = .ok (.ireturn, 1) := by decide +kernel
def f_Ex_answer (M : cs_Mem) (j : Nat) : Int32 :=
  M j 9
set_option maxHeartbeats 4000000 in
set_option maxRecDepth 100000 in
theorem c_Ex_answer (l : Launch) (D : va_G) (cA : Nat → ClassId) (ad : Nat → Nat) (M : cs_Mem) (j : Nat) (hj : cs_is 4 j) : cs_Ci l ⟨"ClassStarter$Explorer", "answer", "()I"⟩ prog_2_method_8_code 1 (some .int) ({ frames := 0, cells := 0, slots := 0, locals := 0 }) D cA ad M [.ref (ad j)] ((f_Ex_answer M j, M)) := by
  refine cs_entry (by decide) (Nat.le_of_ble_eq_true rfl) (fun p e s m below meth c A ls hC hr hlk _ hw hl => ?_)
  have hx := hC.1
  have hb := hC.2.1
  have hl : lv_has ls 1 [(0, .ref (ad j))] := hl
  generalize hF : f_Ex_answer M j = F
  have hf := hF.symm
  unfold f_Ex_answer at hf
  refine lv_aload_n hx hb d_Ex_answer_0 rfl (lv_at hl 0 rfl) ?_
  refine gf_Ex_answer hC hw hj wd_155 d_Ex_answer_1 ?_
  exact cs_iret hC hw hr hlk (congrArg (fun z => (z, M)) hf) d_Ex_answer_4
theorem d_Ex_foundCount_0 : decode prog_2_method_2_code 0 = .ok (.aload_n 0, 1) := by decide +kernel
theorem d_Ex_foundCount_1 : decode prog_2_method_2_code 1 = .ok (.getfield 27, 3) := by decide +kernel
theorem d_Ex_foundCount_4 : decode prog_2_method_2_code 4 = .ok (.ireturn, 1) := by decide +kernel
def f_Ex_foundCount (M : cs_Mem) (j : Nat) : Int32 :=
  M j 4
set_option maxHeartbeats 4000000 in
set_option maxRecDepth 100000 in
theorem c_Ex_foundCount (l : Launch) (D : va_G) (cA : Nat → ClassId) (ad : Nat → Nat) (M : cs_Mem) (j : Nat) (hj : cs_is 4 j) : cs_Ci l ⟨"ClassStarter$Explorer", "foundCount", "()I"⟩ prog_2_method_2_code 1 (some .int) ({ frames := 0, cells := 0, slots := 0, locals := 0 }) D cA ad M [.ref (ad j)] ((f_Ex_foundCount M j, M)) := by
  refine cs_entry (by decide) (Nat.le_of_ble_eq_true rfl) (fun p e s m below meth c A ls hC hr hlk _ hw hl => ?_)
  have hx := hC.1
  have hb := hC.2.1
  have hl : lv_has ls 1 [(0, .ref (ad j))] := hl
  generalize hF : f_Ex_foundCount M j = F
  have hf := hF.symm
  unfold f_Ex_foundCount at hf
  refine lv_aload_n hx hb d_Ex_foundCount_0 rfl (lv_at hl 0 rfl) ?_
  refine gf_Ex_foundCount hC hw hj wd_150 d_Ex_foundCount_1 ?_
  exact cs_iret hC hw hr hlk (congrArg (fun z => (z, M)) hf) d_Ex_foundCount_4
theorem d_Ex_foundAt_0 : decode prog_2_method_3_code 0 = .ok (.aload_n 0, 1) := by decide +kernel
theorem d_Ex_foundAt_1 : decode prog_2_method_3_code 1 = .ok (.getfield 20, 3) := by decide +kernel
theorem d_Ex_foundAt_4 : decode prog_2_method_3_code 4 = .ok (.iload_n 1, 1) := by decide +kernel
theorem d_Ex_foundAt_5 : decode prog_2_method_3_code 5 = .ok (.iaload, 1) := by decide +kernel
theorem d_Ex_foundAt_6 : decode prog_2_method_3_code 6 = .ok (.ireturn, 1) := by decide +kernel
def f_Ex_foundAt (M : cs_Mem) (j : Nat) (x1 : Int32) : Int32 :=
  M 61 x1.toNatClampNeg
def pre_Ex_foundAt (M : cs_Mem) (j : Nat) (x1 : Int32) : Prop :=
  (vp_in x1 (cs_ln M 61)) ∧
  True
set_option maxHeartbeats 4000000 in
set_option maxRecDepth 100000 in
theorem c_Ex_foundAt (l : Launch) (D : va_G) (cA : Nat → ClassId) (ad : Nat → Nat) (M : cs_Mem) (j : Nat) (hj : cs_is 4 j) (x1 : Int32) (hp : pre_Ex_foundAt M j x1) : cs_Ci l ⟨"ClassStarter$Explorer", "foundAt", "(I)I"⟩ prog_2_method_3_code 2 (some .int) ({ frames := 0, cells := 0, slots := 0, locals := 0 }) D cA ad M [.ref (ad j), .int x1] ((f_Ex_foundAt M j x1, M)) := by
  refine cs_entry (by decide) (Nat.le_of_ble_eq_true rfl) (fun p e s m below meth c A ls hC hr hlk _ hw hl => ?_)
  have hx := hC.1
  have hb := hC.2.1
  have hl : lv_has ls 2 [(0, .ref (ad j)), (1, .int x1)] := hl
  generalize hF : f_Ex_foundAt M j x1 = F
  have hf := hF.symm
  unfold f_Ex_foundAt at hf
  unfold pre_Ex_foundAt at hp
  refine lv_aload_n hx hb d_Ex_foundAt_0 rfl (lv_at hl 0 rfl) ?_
  refine gf_Ex_found hC hw hj wd_149 d_Ex_foundAt_1 ?_
  refine lv_iload_n hx hb d_Ex_foundAt_4 rfl (lv_at hl 1 rfl) ?_
  have o1 := hp.1
  have hp := hp.2
  refine cs_iald hC hw is_61 o1 d_Ex_foundAt_5 ?_
  exact cs_iret hC hw hr hlk (congrArg (fun z => (z, M)) hf) d_Ex_foundAt_6
theorem d_Ex_orders_0 : decode prog_2_method_4_code 0 = .ok (.aload_n 0, 1) := by decide +kernel
theorem d_Ex_orders_1 : decode prog_2_method_4_code 1 = .ok (.getfield 31, 3) := by decide +kernel
theorem d_Ex_orders_4 : decode prog_2_method_4_code 4 = .ok (.ireturn, 1) := by decide +kernel
def f_Ex_orders (M : cs_Mem) (j : Nat) : Int32 :=
  M j 5
set_option maxHeartbeats 4000000 in
set_option maxRecDepth 100000 in
theorem c_Ex_orders (l : Launch) (D : va_G) (cA : Nat → ClassId) (ad : Nat → Nat) (M : cs_Mem) (j : Nat) (hj : cs_is 4 j) : cs_Ci l ⟨"ClassStarter$Explorer", "orders", "()I"⟩ prog_2_method_4_code 1 (some .int) ({ frames := 0, cells := 0, slots := 0, locals := 0 }) D cA ad M [.ref (ad j)] ((f_Ex_orders M j, M)) := by
  refine cs_entry (by decide) (Nat.le_of_ble_eq_true rfl) (fun p e s m below meth c A ls hC hr hlk _ hw hl => ?_)
  have hx := hC.1
  have hb := hC.2.1
  have hl : lv_has ls 1 [(0, .ref (ad j))] := hl
  generalize hF : f_Ex_orders M j = F
  have hf := hF.symm
  unfold f_Ex_orders at hf
  refine lv_aload_n hx hb d_Ex_orders_0 rfl (lv_at hl 0 rfl) ?_
  refine gf_Ex_orders hC hw hj wd_151 d_Ex_orders_1 ?_
  exact cs_iret hC hw hr hlk (congrArg (fun z => (z, M)) hf) d_Ex_orders_4
theorem d_Ex_stuckOrders_0 : decode prog_2_method_5_code 0 = .ok (.aload_n 0, 1) := by decide +kernel
theorem d_Ex_stuckOrders_1 : decode prog_2_method_5_code 1 = .ok (.getfield 34, 3) := by decide +kernel
theorem d_Ex_stuckOrders_4 : decode prog_2_method_5_code 4 = .ok (.ireturn, 1) := by decide +kernel
def f_Ex_stuckOrders (M : cs_Mem) (j : Nat) : Int32 :=
  M j 6
set_option maxHeartbeats 4000000 in
set_option maxRecDepth 100000 in
theorem c_Ex_stuckOrders (l : Launch) (D : va_G) (cA : Nat → ClassId) (ad : Nat → Nat) (M : cs_Mem) (j : Nat) (hj : cs_is 4 j) : cs_Ci l ⟨"ClassStarter$Explorer", "stuckOrders", "()I"⟩ prog_2_method_5_code 1 (some .int) ({ frames := 0, cells := 0, slots := 0, locals := 0 }) D cA ad M [.ref (ad j)] ((f_Ex_stuckOrders M j, M)) := by
  refine cs_entry (by decide) (Nat.le_of_ble_eq_true rfl) (fun p e s m below meth c A ls hC hr hlk _ hw hl => ?_)
  have hx := hC.1
  have hb := hC.2.1
  have hl : lv_has ls 1 [(0, .ref (ad j))] := hl
  generalize hF : f_Ex_stuckOrders M j = F
  have hf := hF.symm
  unfold f_Ex_stuckOrders at hf
  refine lv_aload_n hx hb d_Ex_stuckOrders_0 rfl (lv_at hl 0 rfl) ?_
  refine gf_Ex_stuckOrders hC hw hj wd_152 d_Ex_stuckOrders_1 ?_
  exact cs_iret hC hw hr hlk (congrArg (fun z => (z, M)) hf) d_Ex_stuckOrders_4
end
section
theorem d_X_changed_0 : decode prog_1_method_17_code 0 = .ok (.iload_n 1, 1) := by decide +kernel
theorem d_X_changed_1 : decode prog_1_method_17_code 1 = .ok (.iconst (-1), 1) := by decide +kernel
theorem d_X_changed_2 : decode prog_1_method_17_code 2 = .ok (.if_icmp .eq 16, 3) := by decide +kernel
theorem d_X_changed_5 : decode prog_1_method_17_code 5 = .ok (.iload_n 1, 1) := by decide +kernel
theorem d_X_changed_6 : decode prog_1_method_17_code 6 = .ok (.bipush (-2), 2) := by decide +kernel
theorem d_X_changed_8 : decode prog_1_method_17_code 8 = .ok (.if_icmp .eq 10, 3) := by decide +kernel
theorem d_X_changed_11 : decode prog_1_method_17_code 11 = .ok (.aload_n 0, 1) := by decide +kernel
theorem d_X_changed_12 : decode prog_1_method_17_code 12 = .ok (.getfield 30, 3) := by decide +kernel
theorem d_X_changed_15 : decode prog_1_method_17_code 15 = .ok (.invokevirtual 130, 3) := by decide +kernel
theorem d_X_changed_18 : decode prog_1_method_17_code 18 = .ok (.iload_n 1, 1) := by decide +kernel
theorem d_X_changed_19 : decode prog_1_method_17_code 19 = .ok (.ireturn, 1) := by decide +kernel
def f_X_changed (M : cs_Mem) (j : Nat) (x1 : Int32) : Int32 × cs_Mem :=
  if x1 = (-1) then
    (x1, M)
  else
    if x1 = (-2) then
      (x1, M)
    else
      cs_bd (f_Ex_forget M 55) fun (u3 : cs_Mem) =>
      (x1, u3)
set_option maxHeartbeats 4000000 in
set_option maxRecDepth 100000 in
theorem c_X_changed (l : Launch) (D : va_G) (cA : Nat → ClassId) (ad : Nat → Nat) (M : cs_Mem) (j : Nat) (hj : cs_is 0 j) (x1 : Int32) : cs_Ci l ⟨"ClassStarter", "changed", "(I)I"⟩ prog_1_method_17_code 2 (some .int) ({ frames := 1, cells := 0, slots := 0, locals := 20 }) D cA ad M [.ref (ad j), .int x1] (f_X_changed M j x1) := by
  refine cs_entry (by decide) (Nat.le_of_ble_eq_true rfl) (fun p e s m below meth c A ls hC hr hlk _ hw hl => ?_)
  have hx := hC.1
  have hb := hC.2.1
  have hl : lv_has ls 2 [(0, .ref (ad j)), (1, .int x1)] := hl
  generalize hF : f_X_changed M j x1 = F
  have hf := hF.symm
  unfold f_X_changed at hf
  refine lv_iload_n hx hb d_X_changed_0 rfl (lv_at hl 1 rfl) ?_
  refine lv_iconst (v := (-1)) hx hb d_X_changed_1 (by decide) ?_
  refine lv_icmp_eq (tgt := 18) hx hb d_X_changed_2 (by decide) (fun c1 => ?_) (fun c1 => ?_)
  · have hf := hf.trans (if_pos c1)
    refine lv_iload_n hx hb d_X_changed_18 rfl (lv_at hl 1 rfl) ?_
    exact cs_iret hC hw hr hlk hf d_X_changed_19
  · have hf := hf.trans (if_neg c1)
    refine lv_iload_n hx hb d_X_changed_5 rfl (lv_at hl 1 rfl) ?_
    refine lv_bipush (v := (-2)) hx hb d_X_changed_6 (by decide) ?_
    refine lv_icmp_eq (tgt := 18) hx hb d_X_changed_8 (by decide) (fun c2 => ?_) (fun c2 => ?_)
    · have hf := hf.trans (if_pos c2)
      refine lv_iload_n hx hb d_X_changed_18 rfl (lv_at hl 1 rfl) ?_
      exact cs_iret hC hw hr hlk hf d_X_changed_19
    · have hf := hf.trans (if_neg c2)
      refine lv_aload_n hx hb d_X_changed_11 rfl (lv_at hl 0 rfl) ?_
      refine gf_X_explorer hC hw hj wd_179 d_X_changed_12 ?_
      refine cs_ret_v hC hw (cs_runV (As := []) (rest := []) hC hw is_55.2 (ci := 4) rfl rfl (cs_sg_is is_55) (c_Ex_forget l D cA ad M 55 is_55 _) rfl rfl cw_X_130 ⟨Nat.le_of_ble_eq_true rfl, Nat.le_of_ble_eq_true rfl⟩ hl.1 rfl rfl (Nat.le_of_ble_eq_true rfl) d_X_changed_15 ⟨Nat.zero_le _, Nat.zero_le _⟩) (fun u3 H locs eu3 hw => ?_)
      have hf := cs_bdE eu3 hf
      refine lv_iload_n hx hb d_X_changed_18 rfl (lv_at hl 1 rfl) ?_
      exact cs_iret hC hw hr hlk hf d_X_changed_19
theorem d_X_declare_0 : decode prog_1_method_2_code 0 = .ok (.aload_n 0, 1) := by decide +kernel
theorem d_X_declare_1 : decode prog_1_method_2_code 1 = .ok (.getfield 21, 3) := by decide +kernel
theorem d_X_declare_4 : decode prog_1_method_2_code 4 = .ok (.invokevirtual 34, 3) := by decide +kernel
theorem d_X_declare_7 : decode prog_1_method_2_code 7 = .ok (.ifCond .eq 5, 3) := by decide +kernel
theorem d_X_declare_10 : decode prog_1_method_2_code 10 = .ok (.iconst (-1), 1) := by decide +kernel
theorem d_X_declare_11 : decode prog_1_method_2_code 11 = .ok (.ireturn, 1) := by decide +kernel
theorem d_X_declare_12 : decode prog_1_method_2_code 12 = .ok (.aload_n 0, 1) := by decide +kernel
theorem d_X_declare_13 : decode prog_1_method_2_code 13 = .ok (.aload_n 0, 1) := by decide +kernel
theorem d_X_declare_14 : decode prog_1_method_2_code 14 = .ok (.getfield 12, 3) := by decide +kernel
theorem d_X_declare_17 : decode prog_1_method_2_code 17 = .ok (.iload_n 1, 1) := by decide +kernel
theorem d_X_declare_18 : decode prog_1_method_2_code 18 = .ok (.iload_n 2, 1) := by decide +kernel
theorem d_X_declare_19 : decode prog_1_method_2_code 19 = .ok (.iload_n 3, 1) := by decide +kernel
theorem d_X_declare_20 : decode prog_1_method_2_code 20 = .ok (.iload 4, 2) := by decide +kernel
theorem d_X_declare_22 : decode prog_1_method_2_code 22 = .ok (.invokevirtual 38, 3) := by decide +kernel
theorem d_X_declare_25 : decode prog_1_method_2_code 25 = .ok (.invokevirtual 42, 3) := by decide +kernel
theorem d_X_declare_28 : decode prog_1_method_2_code 28 = .ok (.ireturn, 1) := by decide +kernel
def f_X_declare (M : cs_Mem) (j : Nat) (x1 : Int32) (x2 : Int32) (x3 : Int32) (x4 : Int32) : Int32 × cs_Mem :=
  cs_bd (f_Ma_hasBegun M 52) fun (r2 : Int32) =>
  if r2 = 0 then
    cs_bd (f_Pr_addClass M 1 x1 x2 x3 x4) fun (u5 : Int32 × cs_Mem) =>
    cs_bd (f_X_changed u5.2 j u5.1) fun (u6 : Int32 × cs_Mem) =>
    (u6.1, u6.2)
  else
    ((-1), M)
def pre_X_declare (M : cs_Mem) (j : Nat) (x1 : Int32) (x2 : Int32) (x3 : Int32) (x4 : Int32) : Prop :=
  (pre_Ma_hasBegun M 52) ∧
  cs_bd (f_Ma_hasBegun M 52) fun (r2 : Int32) =>
  (r2 = 0 →
    (pre_Pr_addClass M 1 x1 x2 x3 x4) ∧
    True
  ) ∧ (¬ (r2 = 0) →
    True
  )
set_option maxHeartbeats 4000000 in
set_option maxRecDepth 100000 in
theorem c_X_declare (l : Launch) (D : va_G) (cA : Nat → ClassId) (ad : Nat → Nat) (M : cs_Mem) (j : Nat) (hj : cs_is 0 j) (x1 : Int32) (x2 : Int32) (x3 : Int32) (x4 : Int32) (hp : pre_X_declare M j x1 x2 x3 x4) : cs_Ci l ⟨"ClassStarter", "declare", "(IZZI)I"⟩ prog_1_method_2_code 5 (some .int) ({ frames := 3, cells := 0, slots := 0, locals := 87 }) D cA ad M [.ref (ad j), .int x1, .int x2, .int x3, .int x4] (f_X_declare M j x1 x2 x3 x4) := by
  refine cs_entry (by decide) (Nat.le_of_ble_eq_true rfl) (fun p e s m below meth c A ls hC hr hlk _ hw hl => ?_)
  have hx := hC.1
  have hb := hC.2.1
  have hl : lv_has ls 5 [(0, .ref (ad j)), (1, .int x1), (2, .int x2), (3, .int x3), (4, .int x4)] := hl
  generalize hF : f_X_declare M j x1 x2 x3 x4 = F
  have hf := hF.symm
  unfold f_X_declare at hf
  unfold pre_X_declare at hp
  refine lv_aload_n hx hb d_X_declare_0 rfl (lv_at hl 0 rfl) ?_
  refine gf_X_machine hC hw hj wd_178 d_X_declare_1 ?_
  have o1 := hp.1
  have hp := hp.2
  refine cs_ret_p hC hw (cs_runV (As := []) (rest := []) hC hw is_52.2 (ci := 3) rfl rfl (cs_sg_is is_52) (c_Ma_hasBegun l D cA ad M 52 is_52 o1 _) rfl rfl cw_X_34 ⟨Nat.le_of_ble_eq_true rfl, Nat.le_of_ble_eq_true rfl⟩ hl.1 rfl rfl (Nat.le_of_ble_eq_true rfl) d_X_declare_4 ⟨Nat.zero_le _, Nat.zero_le _⟩) (fun r2 H locs er2 hw => ?_)
  have hp := cs_bdP er2 hp
  have hf := cs_bdE er2 hf
  refine lv_if_eq (tgt := 12) hx hb d_X_declare_7 (by decide) (fun c3 => ?_) (fun c3 => ?_)
  · have hp := hp.1 c3
    have hf := hf.trans (if_pos c3)
    refine lv_aload_n hx hb d_X_declare_12 rfl (lv_at hl 0 rfl) ?_
    refine lv_aload_n hx hb d_X_declare_13 rfl (lv_at hl 0 rfl) ?_
    refine gf_X_program hC hw hj wd_177 d_X_declare_14 ?_
    refine lv_iload_n hx hb d_X_declare_17 rfl (lv_at hl 1 rfl) ?_
    refine lv_iload_n hx hb d_X_declare_18 rfl (lv_at hl 2 rfl) ?_
    refine lv_iload_n hx hb d_X_declare_19 rfl (lv_at hl 3 rfl) ?_
    refine lv_iload hx hb d_X_declare_20 (lv_at hl 4 rfl) ?_
    have o4 := hp.1
    have hp := hp.2
    refine cs_ret_i hC hw (cs_runV (As := [.int x1, .int x2, .int x3, .int x4]) (rest := [.ref (ad j)]) hC hw is_1.2 (ci := 1) rfl rfl (cs_sg_is is_1) (c_Pr_addClass l D cA ad M 1 is_1 x1 x2 x3 x4 o4 _) rfl rfl cw_X_38 ⟨Nat.le_of_ble_eq_true rfl, Nat.le_of_ble_eq_true rfl⟩ hl.1 rfl rfl (Nat.le_of_ble_eq_true rfl) d_X_declare_22 ⟨Nat.zero_le _, Nat.zero_le _⟩) (fun u5 H locs eu5 hw => ?_)
    have hf := cs_bdE eu5 hf
    refine cs_ret_i hC hw (cs_runV (As := [.int u5.1]) (rest := []) hC hw hj.2 (ci := 0) rfl rfl (cs_sg_is hj) (c_X_changed l D cA ad u5.2 j hj u5.1 _) rfl rfl cw_X_42 ⟨Nat.le_of_ble_eq_true rfl, Nat.le_of_ble_eq_true rfl⟩ hl.1 rfl rfl (Nat.le_of_ble_eq_true rfl) d_X_declare_25 ⟨Nat.zero_le _, Nat.zero_le _⟩) (fun u6 H locs eu6 hw => ?_)
    have hf := cs_bdE eu6 hf
    exact cs_iret hC hw hr hlk hf d_X_declare_28
  · have hp := hp.2 c3
    have hf := hf.trans (if_neg c3)
    refine lv_iconst (v := (-1)) hx hb d_X_declare_10 (by decide) ?_
    exact cs_iret hC hw hr hlk hf d_X_declare_11
theorem d_X_inherit_0 : decode prog_1_method_3_code 0 = .ok (.aload_n 0, 1) := by decide +kernel
theorem d_X_inherit_1 : decode prog_1_method_3_code 1 = .ok (.getfield 21, 3) := by decide +kernel
theorem d_X_inherit_4 : decode prog_1_method_3_code 4 = .ok (.invokevirtual 34, 3) := by decide +kernel
theorem d_X_inherit_7 : decode prog_1_method_3_code 7 = .ok (.ifCond .eq 5, 3) := by decide +kernel
theorem d_X_inherit_10 : decode prog_1_method_3_code 10 = .ok (.iconst (-1), 1) := by decide +kernel
theorem d_X_inherit_11 : decode prog_1_method_3_code 11 = .ok (.ireturn, 1) := by decide +kernel
theorem d_X_inherit_12 : decode prog_1_method_3_code 12 = .ok (.aload_n 0, 1) := by decide +kernel
theorem d_X_inherit_13 : decode prog_1_method_3_code 13 = .ok (.aload_n 0, 1) := by decide +kernel
theorem d_X_inherit_14 : decode prog_1_method_3_code 14 = .ok (.getfield 12, 3) := by decide +kernel
theorem d_X_inherit_17 : decode prog_1_method_3_code 17 = .ok (.iload_n 1, 1) := by decide +kernel
theorem d_X_inherit_18 : decode prog_1_method_3_code 18 = .ok (.iload_n 2, 1) := by decide +kernel
theorem d_X_inherit_19 : decode prog_1_method_3_code 19 = .ok (.iload_n 3, 1) := by decide +kernel
theorem d_X_inherit_20 : decode prog_1_method_3_code 20 = .ok (.invokevirtual 46, 3) := by decide +kernel
theorem d_X_inherit_23 : decode prog_1_method_3_code 23 = .ok (.invokevirtual 42, 3) := by decide +kernel
theorem d_X_inherit_26 : decode prog_1_method_3_code 26 = .ok (.ireturn, 1) := by decide +kernel
def f_X_inherit (M : cs_Mem) (j : Nat) (x1 : Int32) (x2 : Int32) (x3 : Int32) : Int32 × cs_Mem :=
  cs_bd (f_Ma_hasBegun M 52) fun (r2 : Int32) =>
  if r2 = 0 then
    cs_bd (f_Pr_addInterface M 1 x1 x2 x3) fun (u5 : Int32 × cs_Mem) =>
    cs_bd (f_X_changed u5.2 j u5.1) fun (u6 : Int32 × cs_Mem) =>
    (u6.1, u6.2)
  else
    ((-1), M)
def pre_X_inherit (M : cs_Mem) (j : Nat) (x1 : Int32) (x2 : Int32) (x3 : Int32) : Prop :=
  (pre_Ma_hasBegun M 52) ∧
  cs_bd (f_Ma_hasBegun M 52) fun (r2 : Int32) =>
  (r2 = 0 →
    (pre_Pr_addInterface M 1 x1 x2 x3) ∧
    True
  ) ∧ (¬ (r2 = 0) →
    True
  )
set_option maxHeartbeats 4000000 in
set_option maxRecDepth 100000 in
theorem c_X_inherit (l : Launch) (D : va_G) (cA : Nat → ClassId) (ad : Nat → Nat) (M : cs_Mem) (j : Nat) (hj : cs_is 0 j) (x1 : Int32) (x2 : Int32) (x3 : Int32) (hp : pre_X_inherit M j x1 x2 x3) : cs_Ci l ⟨"ClassStarter", "inherit", "(IIZ)I"⟩ prog_1_method_3_code 4 (some .int) ({ frames := 3, cells := 0, slots := 0, locals := 85 }) D cA ad M [.ref (ad j), .int x1, .int x2, .int x3] (f_X_inherit M j x1 x2 x3) := by
  refine cs_entry (by decide) (Nat.le_of_ble_eq_true rfl) (fun p e s m below meth c A ls hC hr hlk _ hw hl => ?_)
  have hx := hC.1
  have hb := hC.2.1
  have hl : lv_has ls 4 [(0, .ref (ad j)), (1, .int x1), (2, .int x2), (3, .int x3)] := hl
  generalize hF : f_X_inherit M j x1 x2 x3 = F
  have hf := hF.symm
  unfold f_X_inherit at hf
  unfold pre_X_inherit at hp
  refine lv_aload_n hx hb d_X_inherit_0 rfl (lv_at hl 0 rfl) ?_
  refine gf_X_machine hC hw hj wd_178 d_X_inherit_1 ?_
  have o1 := hp.1
  have hp := hp.2
  refine cs_ret_p hC hw (cs_runV (As := []) (rest := []) hC hw is_52.2 (ci := 3) rfl rfl (cs_sg_is is_52) (c_Ma_hasBegun l D cA ad M 52 is_52 o1 _) rfl rfl cw_X_34 ⟨Nat.le_of_ble_eq_true rfl, Nat.le_of_ble_eq_true rfl⟩ hl.1 rfl rfl (Nat.le_of_ble_eq_true rfl) d_X_inherit_4 ⟨Nat.zero_le _, Nat.zero_le _⟩) (fun r2 H locs er2 hw => ?_)
  have hp := cs_bdP er2 hp
  have hf := cs_bdE er2 hf
  refine lv_if_eq (tgt := 12) hx hb d_X_inherit_7 (by decide) (fun c3 => ?_) (fun c3 => ?_)
  · have hp := hp.1 c3
    have hf := hf.trans (if_pos c3)
    refine lv_aload_n hx hb d_X_inherit_12 rfl (lv_at hl 0 rfl) ?_
    refine lv_aload_n hx hb d_X_inherit_13 rfl (lv_at hl 0 rfl) ?_
    refine gf_X_program hC hw hj wd_177 d_X_inherit_14 ?_
    refine lv_iload_n hx hb d_X_inherit_17 rfl (lv_at hl 1 rfl) ?_
    refine lv_iload_n hx hb d_X_inherit_18 rfl (lv_at hl 2 rfl) ?_
    refine lv_iload_n hx hb d_X_inherit_19 rfl (lv_at hl 3 rfl) ?_
    have o4 := hp.1
    have hp := hp.2
    refine cs_ret_i hC hw (cs_runV (As := [.int x1, .int x2, .int x3]) (rest := [.ref (ad j)]) hC hw is_1.2 (ci := 1) rfl rfl (cs_sg_is is_1) (c_Pr_addInterface l D cA ad M 1 is_1 x1 x2 x3 o4 _) rfl rfl cw_X_46 ⟨Nat.le_of_ble_eq_true rfl, Nat.le_of_ble_eq_true rfl⟩ hl.1 rfl rfl (Nat.le_of_ble_eq_true rfl) d_X_inherit_20 ⟨Nat.zero_le _, Nat.zero_le _⟩) (fun u5 H locs eu5 hw => ?_)
    have hf := cs_bdE eu5 hf
    refine cs_ret_i hC hw (cs_runV (As := [.int u5.1]) (rest := []) hC hw hj.2 (ci := 0) rfl rfl (cs_sg_is hj) (c_X_changed l D cA ad u5.2 j hj u5.1 _) rfl rfl cw_X_42 ⟨Nat.le_of_ble_eq_true rfl, Nat.le_of_ble_eq_true rfl⟩ hl.1 rfl rfl (Nat.le_of_ble_eq_true rfl) d_X_inherit_23 ⟨Nat.zero_le _, Nat.zero_le _⟩) (fun u6 H locs eu6 hw => ?_)
    have hf := cs_bdE eu6 hf
    exact cs_iret hC hw hr hlk hf d_X_inherit_26
  · have hp := hp.2 c3
    have hf := hf.trans (if_neg c3)
    refine lv_iconst (v := (-1)) hx hb d_X_inherit_10 (by decide) ?_
    exact cs_iret hC hw hr hlk hf d_X_inherit_11
theorem d_X_act_0 : decode prog_1_method_4_code 0 = .ok (.aload_n 0, 1) := by decide +kernel
theorem d_X_act_1 : decode prog_1_method_4_code 1 = .ok (.getfield 21, 3) := by decide +kernel
theorem d_X_act_4 : decode prog_1_method_4_code 4 = .ok (.invokevirtual 34, 3) := by decide +kernel
theorem d_X_act_7 : decode prog_1_method_4_code 7 = .ok (.ifCond .eq 5, 3) := by decide +kernel
theorem d_X_act_10 : decode prog_1_method_4_code 10 = .ok (.iconst (-1), 1) := by decide +kernel
theorem d_X_act_11 : decode prog_1_method_4_code 11 = .ok (.ireturn, 1) := by decide +kernel
theorem d_X_act_12 : decode prog_1_method_4_code 12 = .ok (.aload_n 0, 1) := by decide +kernel
theorem d_X_act_13 : decode prog_1_method_4_code 13 = .ok (.aload_n 0, 1) := by decide +kernel
theorem d_X_act_14 : decode prog_1_method_4_code 14 = .ok (.getfield 12, 3) := by decide +kernel
theorem d_X_act_17 : decode prog_1_method_4_code 17 = .ok (.iload_n 1, 1) := by decide +kernel
theorem d_X_act_18 : decode prog_1_method_4_code 18 = .ok (.iload_n 2, 1) := by decide +kernel
theorem d_X_act_19 : decode prog_1_method_4_code 19 = .ok (.iload_n 3, 1) := by decide +kernel
theorem d_X_act_20 : decode prog_1_method_4_code 20 = .ok (.iload 4, 2) := by decide +kernel
theorem d_X_act_22 : decode prog_1_method_4_code 22 = .ok (.invokevirtual 50, 3) := by decide +kernel
theorem d_X_act_25 : decode prog_1_method_4_code 25 = .ok (.invokevirtual 42, 3) := by decide +kernel
theorem d_X_act_28 : decode prog_1_method_4_code 28 = .ok (.ireturn, 1) := by decide +kernel
def f_X_act (M : cs_Mem) (j : Nat) (x1 : Int32) (x2 : Int32) (x3 : Int32) (x4 : Int32) : Int32 × cs_Mem :=
  cs_bd (f_Ma_hasBegun M 52) fun (r2 : Int32) =>
  if r2 = 0 then
    cs_bd (f_Pr_addAction M 1 x1 x2 x3 x4) fun (u5 : Int32 × cs_Mem) =>
    cs_bd (f_X_changed u5.2 j u5.1) fun (u6 : Int32 × cs_Mem) =>
    (u6.1, u6.2)
  else
    ((-1), M)
def pre_X_act (M : cs_Mem) (j : Nat) (x1 : Int32) (x2 : Int32) (x3 : Int32) (x4 : Int32) : Prop :=
  (pre_Ma_hasBegun M 52) ∧
  cs_bd (f_Ma_hasBegun M 52) fun (r2 : Int32) =>
  (r2 = 0 →
    (pre_Pr_addAction M 1 x1 x2 x3 x4) ∧
    True
  ) ∧ (¬ (r2 = 0) →
    True
  )
set_option maxHeartbeats 4000000 in
set_option maxRecDepth 100000 in
theorem c_X_act (l : Launch) (D : va_G) (cA : Nat → ClassId) (ad : Nat → Nat) (M : cs_Mem) (j : Nat) (hj : cs_is 0 j) (x1 : Int32) (x2 : Int32) (x3 : Int32) (x4 : Int32) (hp : pre_X_act M j x1 x2 x3 x4) : cs_Ci l ⟨"ClassStarter", "act", "(IIII)I"⟩ prog_1_method_4_code 5 (some .int) ({ frames := 3, cells := 0, slots := 0, locals := 71 }) D cA ad M [.ref (ad j), .int x1, .int x2, .int x3, .int x4] (f_X_act M j x1 x2 x3 x4) := by
  refine cs_entry (by decide) (Nat.le_of_ble_eq_true rfl) (fun p e s m below meth c A ls hC hr hlk _ hw hl => ?_)
  have hx := hC.1
  have hb := hC.2.1
  have hl : lv_has ls 5 [(0, .ref (ad j)), (1, .int x1), (2, .int x2), (3, .int x3), (4, .int x4)] := hl
  generalize hF : f_X_act M j x1 x2 x3 x4 = F
  have hf := hF.symm
  unfold f_X_act at hf
  unfold pre_X_act at hp
  refine lv_aload_n hx hb d_X_act_0 rfl (lv_at hl 0 rfl) ?_
  refine gf_X_machine hC hw hj wd_178 d_X_act_1 ?_
  have o1 := hp.1
  have hp := hp.2
  refine cs_ret_p hC hw (cs_runV (As := []) (rest := []) hC hw is_52.2 (ci := 3) rfl rfl (cs_sg_is is_52) (c_Ma_hasBegun l D cA ad M 52 is_52 o1 _) rfl rfl cw_X_34 ⟨Nat.le_of_ble_eq_true rfl, Nat.le_of_ble_eq_true rfl⟩ hl.1 rfl rfl (Nat.le_of_ble_eq_true rfl) d_X_act_4 ⟨Nat.zero_le _, Nat.zero_le _⟩) (fun r2 H locs er2 hw => ?_)
  have hp := cs_bdP er2 hp
  have hf := cs_bdE er2 hf
  refine lv_if_eq (tgt := 12) hx hb d_X_act_7 (by decide) (fun c3 => ?_) (fun c3 => ?_)
  · have hp := hp.1 c3
    have hf := hf.trans (if_pos c3)
    refine lv_aload_n hx hb d_X_act_12 rfl (lv_at hl 0 rfl) ?_
    refine lv_aload_n hx hb d_X_act_13 rfl (lv_at hl 0 rfl) ?_
    refine gf_X_program hC hw hj wd_177 d_X_act_14 ?_
    refine lv_iload_n hx hb d_X_act_17 rfl (lv_at hl 1 rfl) ?_
    refine lv_iload_n hx hb d_X_act_18 rfl (lv_at hl 2 rfl) ?_
    refine lv_iload_n hx hb d_X_act_19 rfl (lv_at hl 3 rfl) ?_
    refine lv_iload hx hb d_X_act_20 (lv_at hl 4 rfl) ?_
    have o4 := hp.1
    have hp := hp.2
    refine cs_ret_i hC hw (cs_runV (As := [.int x1, .int x2, .int x3, .int x4]) (rest := [.ref (ad j)]) hC hw is_1.2 (ci := 1) rfl rfl (cs_sg_is is_1) (c_Pr_addAction l D cA ad M 1 is_1 x1 x2 x3 x4 o4 _) rfl rfl cw_X_50 ⟨Nat.le_of_ble_eq_true rfl, Nat.le_of_ble_eq_true rfl⟩ hl.1 rfl rfl (Nat.le_of_ble_eq_true rfl) d_X_act_22 ⟨Nat.zero_le _, Nat.zero_le _⟩) (fun u5 H locs eu5 hw => ?_)
    have hf := cs_bdE eu5 hf
    refine cs_ret_i hC hw (cs_runV (As := [.int u5.1]) (rest := []) hC hw hj.2 (ci := 0) rfl rfl (cs_sg_is hj) (c_X_changed l D cA ad u5.2 j hj u5.1 _) rfl rfl cw_X_42 ⟨Nat.le_of_ble_eq_true rfl, Nat.le_of_ble_eq_true rfl⟩ hl.1 rfl rfl (Nat.le_of_ble_eq_true rfl) d_X_act_25 ⟨Nat.zero_le _, Nat.zero_le _⟩) (fun u6 H locs eu6 hw => ?_)
    have hf := cs_bdE eu6 hf
    exact cs_iret hC hw hr hlk hf d_X_act_28
  · have hp := hp.2 c3
    have hf := hf.trans (if_neg c3)
    refine lv_iconst (v := (-1)) hx hb d_X_act_10 (by decide) ?_
    exact cs_iret hC hw hr hlk hf d_X_act_11
theorem d_X_plan_0 : decode prog_1_method_5_code 0 = .ok (.aload_n 0, 1) := by decide +kernel
theorem d_X_plan_1 : decode prog_1_method_5_code 1 = .ok (.getfield 21, 3) := by decide +kernel
theorem d_X_plan_4 : decode prog_1_method_5_code 4 = .ok (.invokevirtual 34, 3) := by decide +kernel
theorem d_X_plan_7 : decode prog_1_method_5_code 7 = .ok (.ifCond .eq 5, 3) := by decide +kernel
theorem d_X_plan_10 : decode prog_1_method_5_code 10 = .ok (.iconst (-1), 1) := by decide +kernel
theorem d_X_plan_11 : decode prog_1_method_5_code 11 = .ok (.ireturn, 1) := by decide +kernel
theorem d_X_plan_12 : decode prog_1_method_5_code 12 = .ok (.aload_n 0, 1) := by decide +kernel
theorem d_X_plan_13 : decode prog_1_method_5_code 13 = .ok (.aload_n 0, 1) := by decide +kernel
theorem d_X_plan_14 : decode prog_1_method_5_code 14 = .ok (.getfield 12, 3) := by decide +kernel
theorem d_X_plan_17 : decode prog_1_method_5_code 17 = .ok (.iload_n 1, 1) := by decide +kernel
theorem d_X_plan_18 : decode prog_1_method_5_code 18 = .ok (.iload_n 2, 1) := by decide +kernel
theorem d_X_plan_19 : decode prog_1_method_5_code 19 = .ok (.iload_n 3, 1) := by decide +kernel
theorem d_X_plan_20 : decode prog_1_method_5_code 20 = .ok (.invokevirtual 54, 3) := by decide +kernel
theorem d_X_plan_23 : decode prog_1_method_5_code 23 = .ok (.invokevirtual 42, 3) := by decide +kernel
theorem d_X_plan_26 : decode prog_1_method_5_code 26 = .ok (.ireturn, 1) := by decide +kernel
def f_X_plan (M : cs_Mem) (j : Nat) (x1 : Int32) (x2 : Int32) (x3 : Int32) : Int32 × cs_Mem :=
  cs_bd (f_Ma_hasBegun M 52) fun (r2 : Int32) =>
  if r2 = 0 then
    cs_bd (f_Pr_addPlanned M 1 x1 x2 x3) fun (u5 : Int32 × cs_Mem) =>
    cs_bd (f_X_changed u5.2 j u5.1) fun (u6 : Int32 × cs_Mem) =>
    (u6.1, u6.2)
  else
    ((-1), M)
def pre_X_plan (M : cs_Mem) (j : Nat) (x1 : Int32) (x2 : Int32) (x3 : Int32) : Prop :=
  (pre_Ma_hasBegun M 52) ∧
  cs_bd (f_Ma_hasBegun M 52) fun (r2 : Int32) =>
  (r2 = 0 →
    (pre_Pr_addPlanned M 1 x1 x2 x3) ∧
    True
  ) ∧ (¬ (r2 = 0) →
    True
  )
set_option maxHeartbeats 4000000 in
set_option maxRecDepth 100000 in
theorem c_X_plan (l : Launch) (D : va_G) (cA : Nat → ClassId) (ad : Nat → Nat) (M : cs_Mem) (j : Nat) (hj : cs_is 0 j) (x1 : Int32) (x2 : Int32) (x3 : Int32) (hp : pre_X_plan M j x1 x2 x3) : cs_Ci l ⟨"ClassStarter", "plan", "(III)I"⟩ prog_1_method_5_code 4 (some .int) ({ frames := 3, cells := 0, slots := 0, locals := 71 }) D cA ad M [.ref (ad j), .int x1, .int x2, .int x3] (f_X_plan M j x1 x2 x3) := by
  refine cs_entry (by decide) (Nat.le_of_ble_eq_true rfl) (fun p e s m below meth c A ls hC hr hlk _ hw hl => ?_)
  have hx := hC.1
  have hb := hC.2.1
  have hl : lv_has ls 4 [(0, .ref (ad j)), (1, .int x1), (2, .int x2), (3, .int x3)] := hl
  generalize hF : f_X_plan M j x1 x2 x3 = F
  have hf := hF.symm
  unfold f_X_plan at hf
  unfold pre_X_plan at hp
  refine lv_aload_n hx hb d_X_plan_0 rfl (lv_at hl 0 rfl) ?_
  refine gf_X_machine hC hw hj wd_178 d_X_plan_1 ?_
  have o1 := hp.1
  have hp := hp.2
  refine cs_ret_p hC hw (cs_runV (As := []) (rest := []) hC hw is_52.2 (ci := 3) rfl rfl (cs_sg_is is_52) (c_Ma_hasBegun l D cA ad M 52 is_52 o1 _) rfl rfl cw_X_34 ⟨Nat.le_of_ble_eq_true rfl, Nat.le_of_ble_eq_true rfl⟩ hl.1 rfl rfl (Nat.le_of_ble_eq_true rfl) d_X_plan_4 ⟨Nat.zero_le _, Nat.zero_le _⟩) (fun r2 H locs er2 hw => ?_)
  have hp := cs_bdP er2 hp
  have hf := cs_bdE er2 hf
  refine lv_if_eq (tgt := 12) hx hb d_X_plan_7 (by decide) (fun c3 => ?_) (fun c3 => ?_)
  · have hp := hp.1 c3
    have hf := hf.trans (if_pos c3)
    refine lv_aload_n hx hb d_X_plan_12 rfl (lv_at hl 0 rfl) ?_
    refine lv_aload_n hx hb d_X_plan_13 rfl (lv_at hl 0 rfl) ?_
    refine gf_X_program hC hw hj wd_177 d_X_plan_14 ?_
    refine lv_iload_n hx hb d_X_plan_17 rfl (lv_at hl 1 rfl) ?_
    refine lv_iload_n hx hb d_X_plan_18 rfl (lv_at hl 2 rfl) ?_
    refine lv_iload_n hx hb d_X_plan_19 rfl (lv_at hl 3 rfl) ?_
    have o4 := hp.1
    have hp := hp.2
    refine cs_ret_i hC hw (cs_runV (As := [.int x1, .int x2, .int x3]) (rest := [.ref (ad j)]) hC hw is_1.2 (ci := 1) rfl rfl (cs_sg_is is_1) (c_Pr_addPlanned l D cA ad M 1 is_1 x1 x2 x3 o4 _) rfl rfl cw_X_54 ⟨Nat.le_of_ble_eq_true rfl, Nat.le_of_ble_eq_true rfl⟩ hl.1 rfl rfl (Nat.le_of_ble_eq_true rfl) d_X_plan_20 ⟨Nat.zero_le _, Nat.zero_le _⟩) (fun u5 H locs eu5 hw => ?_)
    have hf := cs_bdE eu5 hf
    refine cs_ret_i hC hw (cs_runV (As := [.int u5.1]) (rest := []) hC hw hj.2 (ci := 0) rfl rfl (cs_sg_is hj) (c_X_changed l D cA ad u5.2 j hj u5.1 _) rfl rfl cw_X_42 ⟨Nat.le_of_ble_eq_true rfl, Nat.le_of_ble_eq_true rfl⟩ hl.1 rfl rfl (Nat.le_of_ble_eq_true rfl) d_X_plan_23 ⟨Nat.zero_le _, Nat.zero_le _⟩) (fun u6 H locs eu6 hw => ?_)
    have hf := cs_bdE eu6 hf
    exact cs_iret hC hw hr hlk hf d_X_plan_26
  · have hp := hp.2 c3
    have hf := hf.trans (if_neg c3)
    refine lv_iconst (v := (-1)) hx hb d_X_plan_10 (by decide) ?_
    exact cs_iret hC hw hr hlk hf d_X_plan_11
theorem d_X_step_0 : decode prog_1_method_6_code 0 = .ok (.iload_n 1, 1) := by decide +kernel
theorem d_X_step_1 : decode prog_1_method_6_code 1 = .ok (.invokestatic 58, 3) := by decide +kernel
theorem d_X_step_4 : decode prog_1_method_6_code 4 = .ok (.ifCond .eq 14, 3) := by decide +kernel
theorem d_X_step_7 : decode prog_1_method_6_code 7 = .ok (.aload_n 0, 1) := by decide +kernel
theorem d_X_step_8 : decode prog_1_method_6_code 8 = .ok (.getfield 21, 3) := by decide +kernel
theorem d_X_step_11 : decode prog_1_method_6_code 11 = .ok (.iload_n 1, 1) := by decide +kernel
theorem d_X_step_12 : decode prog_1_method_6_code 12 = .ok (.invokevirtual 62, 3) := by decide +kernel
theorem d_X_step_15 : decode prog_1_method_6_code 15 = .ok (.ifCond .eq 5, 3) := by decide +kernel
theorem d_X_step_18 : decode prog_1_method_6_code 18 = .ok (.iconst (-1), 1) := by decide +kernel
theorem d_X_step_19 : decode prog_1_method_6_code 19 = .ok (.ireturn, 1) := by decide +kernel
theorem d_X_step_20 : decode prog_1_method_6_code 20 = .ok (.aload_n 0, 1) := by decide +kernel
theorem d_X_step_21 : decode prog_1_method_6_code 21 = .ok (.getfield 21, 3) := by decide +kernel
theorem d_X_step_24 : decode prog_1_method_6_code 24 = .ok (.iload_n 1, 1) := by decide +kernel
theorem d_X_step_25 : decode prog_1_method_6_code 25 = .ok (.invokevirtual 65, 3) := by decide +kernel
theorem d_X_step_28 : decode prog_1_method_6_code 28 = .ok (.iconst (-1), 1) := by decide +kernel
theorem d_X_step_29 : decode prog_1_method_6_code 29 = .ok (.if_icmp .eq 5, 3) := by decide +kernel
theorem d_X_step_32 : decode prog_1_method_6_code 32 = .ok (.iconst 0, 1) := by decide +kernel
theorem d_X_step_33 : decode prog_1_method_6_code 33 = .ok (.ireturn, 1) := by decide +kernel
theorem d_X_step_34 : decode prog_1_method_6_code 34 = .ok (.aload_n 0, 1) := by decide +kernel
theorem d_X_step_35 : decode prog_1_method_6_code 35 = .ok (.getfield 21, 3) := by decide +kernel
theorem d_X_step_38 : decode prog_1_method_6_code 38 = .ok (.iload_n 1, 1) := by decide +kernel
theorem d_X_step_39 : decode prog_1_method_6_code 39 = .ok (.invokevirtual 68, 3) := by decide +kernel
theorem d_X_step_42 : decode prog_1_method_6_code 42 = .ok (.iconst 1, 1) := by decide +kernel
theorem d_X_step_43 : decode prog_1_method_6_code 43 = .ok (.ireturn, 1) := by decide +kernel
def f_X_step_J18 (M : cs_Mem)  : Int32 × cs_Mem :=
  ((-1), M)
def f_X_step (M : cs_Mem) (j : Nat) (x1 : Int32) : Int32 × cs_Mem :=
  cs_bd (f_X_isThread M x1) fun (r1 : Int32) =>
  if r1 = 0 then
    f_X_step_J18 M 
  else
    cs_bd (f_Ma_hasEnded M 52 x1) fun (r4 : Int32) =>
    if r4 = 0 then
      cs_bd (f_Ma_awaited M 52 x1) fun (r7 : Int32) =>
      if r7 = (-1) then
        cs_bd (f_Ma_advance M 52 x1) fun (u10 : cs_Mem) =>
        (1, u10)
      else
        (0, M)
    else
      f_X_step_J18 M 
def pre_X_step (M : cs_Mem) (j : Nat) (x1 : Int32) : Prop :=
  cs_bd (f_X_isThread M x1) fun (r1 : Int32) =>
  (r1 = 0 →
    True
  ) ∧ (¬ (r1 = 0) →
    (pre_Ma_hasEnded M 52 x1) ∧
    cs_bd (f_Ma_hasEnded M 52 x1) fun (r4 : Int32) =>
    (r4 = 0 →
      (pre_Ma_awaited M 52 x1) ∧
      cs_bd (f_Ma_awaited M 52 x1) fun (r7 : Int32) =>
      (r7 = (-1) →
        (pre_Ma_advance M 52 x1) ∧
        True
      ) ∧ (¬ (r7 = (-1)) →
        True
      )
    ) ∧ (¬ (r4 = 0) →
      True
    )
  )
set_option maxHeartbeats 4000000 in
set_option maxRecDepth 100000 in
theorem w_X_step_J18 {p : Program} {l : Launch} {e : Env} {s : State} {m : MethodId} {args : Array Value} {below : List Frame} {meth : Method} {c : Code} {D : va_G} {cA : Nat → ClassId} {A : Nat → Prop} {ad : Nat → Nat} {F : Int32 × cs_Mem} (hC : cs_Ctx p s m args c prog_1_method_6_code 2 "ClassStarter" D cA A) (hr : meth.sig.returnType = (some .int)) (hlk : meth.locks = false) : ∀ (M : cs_Mem) (H : Heap) (locs : List Loc) (ls : Array Slot), cs_Wd D cA ad M A s H locs → lv_has ls 2 [] → F = f_X_step_J18 M  → W p l e ({ frames := 5, cells := 0, slots := 0, locals := 114 }) s m args below meth c H locs 0 0 (MQ below (cs_Qi D cA ad F A) args s 0 0 A) (F0 m 18 ls []) := by
  have hx := hC.1
  have hb := hC.2.1
  intro M  H locs ls hw hl  hf
  unfold f_X_step_J18 at hf
  refine lv_iconst (v := (-1)) hx hb d_X_step_18 (by decide) ?_
  exact cs_iret hC hw hr hlk hf d_X_step_19
set_option maxHeartbeats 4000000 in
set_option maxRecDepth 100000 in
theorem c_X_step (l : Launch) (D : va_G) (cA : Nat → ClassId) (ad : Nat → Nat) (M : cs_Mem) (j : Nat) (hj : cs_is 0 j) (x1 : Int32) (hp : pre_X_step M j x1) : cs_Ci l ⟨"ClassStarter", "step", "(I)I"⟩ prog_1_method_6_code 2 (some .int) ({ frames := 5, cells := 0, slots := 0, locals := 114 }) D cA ad M [.ref (ad j), .int x1] (f_X_step M j x1) := by
  refine cs_entry (by decide) (Nat.le_of_ble_eq_true rfl) (fun p e s m below meth c A ls hC hr hlk _ hw hl => ?_)
  have hx := hC.1
  have hb := hC.2.1
  have hl : lv_has ls 2 [(0, .ref (ad j)), (1, .int x1)] := hl
  generalize hF : f_X_step M j x1 = F
  have hf := hF.symm
  unfold f_X_step at hf
  unfold pre_X_step at hp
  refine lv_iload_n hx hb d_X_step_0 rfl (lv_at hl 1 rfl) ?_
  refine cs_ret_p hC hw (cs_runS (As := [.int x1]) (rest := []) hC hw (c_X_isThread l D cA ad M x1 _) rfl rfl cw_X_58 ⟨Nat.le_of_ble_eq_true rfl, Nat.le_of_ble_eq_true rfl⟩ hl.1 rfl rfl (Nat.le_of_ble_eq_true rfl) d_X_step_1 ⟨Nat.zero_le _, Nat.zero_le _⟩) (fun r1 H locs er1 hw => ?_)
  have hp := cs_bdP er1 hp
  have hf := cs_bdE er1 hf
  refine lv_if_eq (tgt := 18) hx hb d_X_step_4 (by decide) (fun c2 => ?_) (fun c2 => ?_)
  · have hp := hp.1 c2
    have hf := hf.trans (if_pos c2)
    exact w_X_step_J18 hC hr hlk M  _ _ ls hw (lv_sub hl [] rfl) hf
  · have hp := hp.2 c2
    have hf := hf.trans (if_neg c2)
    refine lv_aload_n hx hb d_X_step_7 rfl (lv_at hl 0 rfl) ?_
    refine gf_X_machine hC hw hj wd_178 d_X_step_8 ?_
    refine lv_iload_n hx hb d_X_step_11 rfl (lv_at hl 1 rfl) ?_
    have o3 := hp.1
    have hp := hp.2
    refine cs_ret_p hC hw (cs_runV (As := [.int x1]) (rest := []) hC hw is_52.2 (ci := 3) rfl rfl (cs_sg_is is_52) (c_Ma_hasEnded l D cA ad M 52 is_52 x1 o3 _) rfl rfl cw_X_62 ⟨Nat.le_of_ble_eq_true rfl, Nat.le_of_ble_eq_true rfl⟩ hl.1 rfl rfl (Nat.le_of_ble_eq_true rfl) d_X_step_12 ⟨Nat.zero_le _, Nat.zero_le _⟩) (fun r4 H locs er4 hw => ?_)
    have hp := cs_bdP er4 hp
    have hf := cs_bdE er4 hf
    refine lv_if_eq (tgt := 20) hx hb d_X_step_15 (by decide) (fun c5 => ?_) (fun c5 => ?_)
    · have hp := hp.1 c5
      have hf := hf.trans (if_pos c5)
      refine lv_aload_n hx hb d_X_step_20 rfl (lv_at hl 0 rfl) ?_
      refine gf_X_machine hC hw hj wd_178 d_X_step_21 ?_
      refine lv_iload_n hx hb d_X_step_24 rfl (lv_at hl 1 rfl) ?_
      have o6 := hp.1
      have hp := hp.2
      refine cs_ret_p hC hw (cs_runV (As := [.int x1]) (rest := []) hC hw is_52.2 (ci := 3) rfl rfl (cs_sg_is is_52) (c_Ma_awaited l D cA ad M 52 is_52 x1 o6 _) rfl rfl cw_X_65 ⟨Nat.le_of_ble_eq_true rfl, Nat.le_of_ble_eq_true rfl⟩ hl.1 rfl rfl (Nat.le_of_ble_eq_true rfl) d_X_step_25 ⟨Nat.zero_le _, Nat.zero_le _⟩) (fun r7 H locs er7 hw => ?_)
      have hp := cs_bdP er7 hp
      have hf := cs_bdE er7 hf
      refine lv_iconst (v := (-1)) hx hb d_X_step_28 (by decide) ?_
      refine lv_icmp_eq (tgt := 34) hx hb d_X_step_29 (by decide) (fun c8 => ?_) (fun c8 => ?_)
      · have hp := hp.1 c8
        have hf := hf.trans (if_pos c8)
        refine lv_aload_n hx hb d_X_step_34 rfl (lv_at hl 0 rfl) ?_
        refine gf_X_machine hC hw hj wd_178 d_X_step_35 ?_
        refine lv_iload_n hx hb d_X_step_38 rfl (lv_at hl 1 rfl) ?_
        have o9 := hp.1
        have hp := hp.2
        refine cs_ret_v hC hw (cs_runV (As := [.int x1]) (rest := []) hC hw is_52.2 (ci := 3) rfl rfl (cs_sg_is is_52) (c_Ma_advance l D cA ad M 52 is_52 x1 o9 _) rfl rfl cw_X_68 ⟨Nat.le_of_ble_eq_true rfl, Nat.le_of_ble_eq_true rfl⟩ hl.1 rfl rfl (Nat.le_of_ble_eq_true rfl) d_X_step_39 ⟨Nat.zero_le _, Nat.zero_le _⟩) (fun u10 H locs eu10 hw => ?_)
        have hf := cs_bdE eu10 hf
        refine lv_iconst (v := 1) hx hb d_X_step_42 (by decide) ?_
        exact cs_iret hC hw hr hlk hf d_X_step_43
      · have hp := hp.2 c8
        have hf := hf.trans (if_neg c8)
        refine lv_iconst (v := 0) hx hb d_X_step_32 (by decide) ?_
        exact cs_iret hC hw hr hlk hf d_X_step_33
    · have hp := hp.2 c5
      have hf := hf.trans (if_neg c5)
      exact w_X_step_J18 hC hr hlk M  _ _ ls hw (lv_sub hl [] rfl) hf
theorem d_X_reset_0 : decode prog_1_method_7_code 0 = .ok (.aload_n 0, 1) := by decide +kernel
theorem d_X_reset_1 : decode prog_1_method_7_code 1 = .ok (.getfield 21, 3) := by decide +kernel
theorem d_X_reset_4 : decode prog_1_method_7_code 4 = .ok (.invokevirtual 72, 3) := by decide +kernel
theorem d_X_reset_7 : decode prog_1_method_7_code 7 = .ok (.istore_n 1, 1) := by decide +kernel
theorem d_X_reset_8 : decode prog_1_method_7_code 8 = .ok (.aload_n 0, 1) := by decide +kernel
theorem d_X_reset_9 : decode prog_1_method_7_code 9 = .ok (.getfield 21, 3) := by decide +kernel
theorem d_X_reset_12 : decode prog_1_method_7_code 12 = .ok (.invokevirtual 76, 3) := by decide +kernel
theorem d_X_reset_15 : decode prog_1_method_7_code 15 = .ok (.iload_n 1, 1) := by decide +kernel
theorem d_X_reset_16 : decode prog_1_method_7_code 16 = .ok (.ireturn, 1) := by decide +kernel
def f_X_reset (M : cs_Mem) (j : Nat) : Int32 × cs_Mem :=
  cs_bd (f_Ma_steps M 52) fun (r2 : Int32) =>
  cs_bd (f_Ma_restart M 52) fun (u4 : cs_Mem) =>
  (r2, u4)
def pre_X_reset (M : cs_Mem) (j : Nat) : Prop :=
  (pre_Ma_steps M 52) ∧
  cs_bd (f_Ma_steps M 52) fun (r2 : Int32) =>
  (pre_Ma_restart M 52) ∧
  True
set_option maxHeartbeats 4000000 in
set_option maxRecDepth 100000 in
theorem c_X_reset (l : Launch) (D : va_G) (cA : Nat → ClassId) (ad : Nat → Nat) (M : cs_Mem) (j : Nat) (hj : cs_is 0 j) (hp : pre_X_reset M j) : cs_Ci l ⟨"ClassStarter", "reset", "()I"⟩ prog_1_method_7_code 2 (some .int) ({ frames := 2, cells := 0, slots := 0, locals := 44 }) D cA ad M [.ref (ad j)] (f_X_reset M j) := by
  refine cs_entry (by decide) (Nat.le_of_ble_eq_true rfl) (fun p e s m below meth c A ls hC hr hlk _ hw hl => ?_)
  have hx := hC.1
  have hb := hC.2.1
  have hl : lv_has ls 2 [(0, .ref (ad j))] := hl
  generalize hF : f_X_reset M j = F
  have hf := hF.symm
  unfold f_X_reset at hf
  unfold pre_X_reset at hp
  refine lv_aload_n hx hb d_X_reset_0 rfl (lv_at hl 0 rfl) ?_
  refine gf_X_machine hC hw hj wd_178 d_X_reset_1 ?_
  have o1 := hp.1
  have hp := hp.2
  refine cs_ret_p hC hw (cs_runV (As := []) (rest := []) hC hw is_52.2 (ci := 3) rfl rfl (cs_sg_is is_52) (c_Ma_steps l D cA ad M 52 is_52 o1 _) rfl rfl cw_X_72 ⟨Nat.le_of_ble_eq_true rfl, Nat.le_of_ble_eq_true rfl⟩ hl.1 rfl rfl (Nat.le_of_ble_eq_true rfl) d_X_reset_4 ⟨Nat.zero_le _, Nat.zero_le _⟩) (fun r2 H locs er2 hw => ?_)
  have hp := cs_bdP er2 hp
  have hf := cs_bdE er2 hf
  refine lv_istore_n (lv' := [(1, .int r2), (0, .ref (ad j))]) hx hb d_X_reset_7 rfl hl (by decide) rfl (fun ls hl => ?_)
  refine lv_aload_n hx hb d_X_reset_8 rfl (lv_at hl 1 rfl) ?_
  refine gf_X_machine hC hw hj wd_178 d_X_reset_9 ?_
  have o3 := hp.1
  have hp := hp.2
  refine cs_ret_v hC hw (cs_runV (As := []) (rest := []) hC hw is_52.2 (ci := 3) rfl rfl (cs_sg_is is_52) (c_Ma_restart l D cA ad M 52 is_52 o3 _) rfl rfl cw_X_76 ⟨Nat.le_of_ble_eq_true rfl, Nat.le_of_ble_eq_true rfl⟩ hl.1 rfl rfl (Nat.le_of_ble_eq_true rfl) d_X_reset_12 ⟨Nat.zero_le _, Nat.zero_le _⟩) (fun u4 H locs eu4 hw => ?_)
  have hf := cs_bdE eu4 hf
  refine lv_iload_n hx hb d_X_reset_15 rfl (lv_at hl 0 rfl) ?_
  exact cs_iret hC hw hr hlk hf d_X_reset_16
theorem d_X_state_0 : decode prog_1_method_8_code 0 = .ok (.aload_n 0, 1) := by decide +kernel
theorem d_X_state_1 : decode prog_1_method_8_code 1 = .ok (.getfield 12, 3) := by decide +kernel
theorem d_X_state_4 : decode prog_1_method_8_code 4 = .ok (.iload_n 1, 1) := by decide +kernel
theorem d_X_state_5 : decode prog_1_method_8_code 5 = .ok (.invokevirtual 79, 3) := by decide +kernel
theorem d_X_state_8 : decode prog_1_method_8_code 8 = .ok (.ifCond .eq 14, 3) := by decide +kernel
theorem d_X_state_11 : decode prog_1_method_8_code 11 = .ok (.aload_n 0, 1) := by decide +kernel
theorem d_X_state_12 : decode prog_1_method_8_code 12 = .ok (.getfield 21, 3) := by decide +kernel
theorem d_X_state_15 : decode prog_1_method_8_code 15 = .ok (.iload_n 1, 1) := by decide +kernel
theorem d_X_state_16 : decode prog_1_method_8_code 16 = .ok (.invokevirtual 82, 3) := by decide +kernel
theorem d_X_state_19 : decode prog_1_method_8_code 19 = .ok (.goto 4, 3) := by decide +kernel
theorem d_X_state_22 : decode prog_1_method_8_code 22 = .ok (.iconst (-1), 1) := by decide +kernel
theorem d_X_state_23 : decode prog_1_method_8_code 23 = .ok (.ireturn, 1) := by decide +kernel
def f_X_state (M : cs_Mem) (j : Nat) (x1 : Int32) : Int32 :=
  cs_bd (f_Pr_isDeclared M 1 x1) fun (r1 : Int32) =>
  if r1 = 0 then
    (-1)
  else
    cs_bd (f_Ma_stateOf M 52 x1) fun (r4 : Int32) =>
    r4
def pre_X_state (M : cs_Mem) (j : Nat) (x1 : Int32) : Prop :=
  cs_bd (f_Pr_isDeclared M 1 x1) fun (r1 : Int32) =>
  (r1 = 0 →
    True
  ) ∧ (¬ (r1 = 0) →
    (pre_Ma_stateOf M 52 x1) ∧
    True
  )
set_option maxHeartbeats 4000000 in
set_option maxRecDepth 100000 in
theorem c_X_state (l : Launch) (D : va_G) (cA : Nat → ClassId) (ad : Nat → Nat) (M : cs_Mem) (j : Nat) (hj : cs_is 0 j) (x1 : Int32) (hp : pre_X_state M j x1) : cs_Ci l ⟨"ClassStarter", "state", "(I)I"⟩ prog_1_method_8_code 2 (some .int) ({ frames := 1, cells := 0, slots := 0, locals := 21 }) D cA ad M [.ref (ad j), .int x1] ((f_X_state M j x1, M)) := by
  refine cs_entry (by decide) (Nat.le_of_ble_eq_true rfl) (fun p e s m below meth c A ls hC hr hlk _ hw hl => ?_)
  have hx := hC.1
  have hb := hC.2.1
  have hl : lv_has ls 2 [(0, .ref (ad j)), (1, .int x1)] := hl
  generalize hF : f_X_state M j x1 = F
  have hf := hF.symm
  unfold f_X_state at hf
  unfold pre_X_state at hp
  refine lv_aload_n hx hb d_X_state_0 rfl (lv_at hl 0 rfl) ?_
  refine gf_X_program hC hw hj wd_177 d_X_state_1 ?_
  refine lv_iload_n hx hb d_X_state_4 rfl (lv_at hl 1 rfl) ?_
  refine cs_ret_p hC hw (cs_runV (As := [.int x1]) (rest := []) hC hw is_1.2 (ci := 1) rfl rfl (cs_sg_is is_1) (c_Pr_isDeclared l D cA ad M 1 is_1 x1 _) rfl rfl cw_X_79 ⟨Nat.le_of_ble_eq_true rfl, Nat.le_of_ble_eq_true rfl⟩ hl.1 rfl rfl (Nat.le_of_ble_eq_true rfl) d_X_state_5 ⟨Nat.zero_le _, Nat.zero_le _⟩) (fun r1 H locs er1 hw => ?_)
  have hp := cs_bdP er1 hp
  have hf := cs_bdE er1 hf
  refine lv_if_eq (tgt := 22) hx hb d_X_state_8 (by decide) (fun c2 => ?_) (fun c2 => ?_)
  · have hp := hp.1 c2
    have hf := hf.trans (if_pos c2)
    refine lv_iconst (v := (-1)) hx hb d_X_state_22 (by decide) ?_
    exact cs_iret hC hw hr hlk (congrArg (fun z => (z, M)) hf) d_X_state_23
  · have hp := hp.2 c2
    have hf := hf.trans (if_neg c2)
    refine lv_aload_n hx hb d_X_state_11 rfl (lv_at hl 0 rfl) ?_
    refine gf_X_machine hC hw hj wd_178 d_X_state_12 ?_
    refine lv_iload_n hx hb d_X_state_15 rfl (lv_at hl 1 rfl) ?_
    have o3 := hp.1
    have hp := hp.2
    refine cs_ret_p hC hw (cs_runV (As := [.int x1]) (rest := []) hC hw is_52.2 (ci := 3) rfl rfl (cs_sg_is is_52) (c_Ma_stateOf l D cA ad M 52 is_52 x1 o3 _) rfl rfl cw_X_82 ⟨Nat.le_of_ble_eq_true rfl, Nat.le_of_ble_eq_true rfl⟩ hl.1 rfl rfl (Nat.le_of_ble_eq_true rfl) d_X_state_16 ⟨Nat.zero_le _, Nat.zero_le _⟩) (fun r4 H locs er4 hw => ?_)
    have hf := cs_bdE er4 hf
    refine lv_goto (tgt := 23) hx hb d_X_state_19 (by decide) ?_
    exact cs_iret hC hw hr hlk (congrArg (fun z => (z, M)) hf) d_X_state_23
theorem d_X_statics_0 : decode prog_1_method_9_code 0 = .ok (.aload_n 0, 1) := by decide +kernel
theorem d_X_statics_1 : decode prog_1_method_9_code 1 = .ok (.getfield 12, 3) := by decide +kernel
theorem d_X_statics_4 : decode prog_1_method_9_code 4 = .ok (.iload_n 1, 1) := by decide +kernel
theorem d_X_statics_5 : decode prog_1_method_9_code 5 = .ok (.invokevirtual 79, 3) := by decide +kernel
theorem d_X_statics_8 : decode prog_1_method_9_code 8 = .ok (.ifCond .eq 25, 3) := by decide +kernel
theorem d_X_statics_11 : decode prog_1_method_9_code 11 = .ok (.iload_n 2, 1) := by decide +kernel
theorem d_X_statics_12 : decode prog_1_method_9_code 12 = .ok (.ifCond .lt 21, 3) := by decide +kernel
theorem d_X_statics_15 : decode prog_1_method_9_code 15 = .ok (.iload_n 2, 1) := by decide +kernel
theorem d_X_statics_16 : decode prog_1_method_9_code 16 = .ok (.iconst 2, 1) := by decide +kernel
theorem d_X_statics_17 : decode prog_1_method_9_code 17 = .ok (.if_icmp .ge 16, 3) := by decide +kernel
theorem d_X_statics_20 : decode prog_1_method_9_code 20 = .ok (.aload_n 0, 1) := by decide +kernel
theorem d_X_statics_21 : decode prog_1_method_9_code 21 = .ok (.getfield 21, 3) := by decide +kernel
theorem d_X_statics_24 : decode prog_1_method_9_code 24 = .ok (.iload_n 1, 1) := by decide +kernel
theorem d_X_statics_25 : decode prog_1_method_9_code 25 = .ok (.iload_n 2, 1) := by decide +kernel
theorem d_X_statics_26 : decode prog_1_method_9_code 26 = .ok (.invokevirtual 85, 3) := by decide +kernel
theorem d_X_statics_29 : decode prog_1_method_9_code 29 = .ok (.i2l, 1) := by decide +kernel
theorem d_X_statics_30 : decode prog_1_method_9_code 30 = .ok (.goto 6, 3) := by decide +kernel
theorem d_X_statics_33 : decode prog_1_method_9_code 33 = .ok (.ldc2_w 89, 3) := by decide +kernel
theorem d_X_statics_36 : decode prog_1_method_9_code 36 = .ok (.lreturn, 1) := by decide +kernel
def f_X_statics (M : cs_Mem) (j : Nat) (x1 : Int32) (x2 : Int32) : Int64 :=
  cs_bd (f_Pr_isDeclared M 1 x1) fun (r1 : Int32) =>
  if r1 = 0 then
    1000000000000
  else
    if x2 < 0 then
      1000000000000
    else
      if 2 ≤ x2 then
        1000000000000
      else
        cs_bd (f_Ma_staticOf M 52 x1 x2) fun (r6 : Int32) =>
        r6.toInt64
def pre_X_statics (M : cs_Mem) (j : Nat) (x1 : Int32) (x2 : Int32) : Prop :=
  cs_bd (f_Pr_isDeclared M 1 x1) fun (r1 : Int32) =>
  (r1 = 0 →
    True
  ) ∧ (¬ (r1 = 0) →
    (x2 < 0 →
      True
    ) ∧ (¬ (x2 < 0) →
      (2 ≤ x2 →
        True
      ) ∧ (¬ (2 ≤ x2) →
        (pre_Ma_staticOf M 52 x1 x2) ∧
        True
      )
    )
  )
set_option maxHeartbeats 4000000 in
set_option maxRecDepth 100000 in
theorem c_X_statics (l : Launch) (D : va_G) (cA : Nat → ClassId) (ad : Nat → Nat) (M : cs_Mem) (j : Nat) (hj : cs_is 0 j) (x1 : Int32) (x2 : Int32) (hp : pre_X_statics M j x1 x2) : cs_Cl l ⟨"ClassStarter", "statics", "(II)J"⟩ prog_1_method_9_code 3 (some .long) ({ frames := 2, cells := 0, slots := 0, locals := 43 }) D cA ad M [.ref (ad j), .int x1, .int x2] ((f_X_statics M j x1 x2, M)) := by
  refine cs_entry (by decide) (Nat.le_of_ble_eq_true rfl) (fun p e s m below meth c A ls hC hr hlk _ hw hl => ?_)
  have hx := hC.1
  have hb := hC.2.1
  have hl : lv_has ls 3 [(0, .ref (ad j)), (1, .int x1), (2, .int x2)] := hl
  generalize hF : f_X_statics M j x1 x2 = F
  have hf := hF.symm
  unfold f_X_statics at hf
  unfold pre_X_statics at hp
  refine lv_aload_n hx hb d_X_statics_0 rfl (lv_at hl 0 rfl) ?_
  refine gf_X_program hC hw hj wd_177 d_X_statics_1 ?_
  refine lv_iload_n hx hb d_X_statics_4 rfl (lv_at hl 1 rfl) ?_
  refine cs_ret_p hC hw (cs_runV (As := [.int x1]) (rest := []) hC hw is_1.2 (ci := 1) rfl rfl (cs_sg_is is_1) (c_Pr_isDeclared l D cA ad M 1 is_1 x1 _) rfl rfl cw_X_79 ⟨Nat.le_of_ble_eq_true rfl, Nat.le_of_ble_eq_true rfl⟩ hl.1 rfl rfl (Nat.le_of_ble_eq_true rfl) d_X_statics_5 ⟨Nat.zero_le _, Nat.zero_le _⟩) (fun r1 H locs er1 hw => ?_)
  have hp := cs_bdP er1 hp
  have hf := cs_bdE er1 hf
  refine lv_if_eq (tgt := 33) hx hb d_X_statics_8 (by decide) (fun c2 => ?_) (fun c2 => ?_)
  · have hp := hp.1 c2
    have hf := hf.trans (if_pos c2)
    refine lv_ldc2 (v := 1000000000000) hx hb hC.2.2.2.1 (hC.2.2.2.2.1 _ wd_401) d_X_statics_33 ?_
    exact cs_lret hC hw hr hlk (congrArg (fun z => (z, M)) hf) d_X_statics_36
  · have hp := hp.2 c2
    have hf := hf.trans (if_neg c2)
    refine lv_iload_n hx hb d_X_statics_11 rfl (lv_at hl 2 rfl) ?_
    refine lv_if_lt (tgt := 33) hx hb d_X_statics_12 (by decide) (fun c3 => ?_) (fun c3 => ?_)
    · have hp := hp.1 c3
      have hf := hf.trans (if_pos c3)
      refine lv_ldc2 (v := 1000000000000) hx hb hC.2.2.2.1 (hC.2.2.2.2.1 _ wd_401) d_X_statics_33 ?_
      exact cs_lret hC hw hr hlk (congrArg (fun z => (z, M)) hf) d_X_statics_36
    · have hp := hp.2 c3
      have hf := hf.trans (if_neg c3)
      refine lv_iload_n hx hb d_X_statics_15 rfl (lv_at hl 2 rfl) ?_
      refine lv_iconst (v := 2) hx hb d_X_statics_16 (by decide) ?_
      refine lv_icmp_ge (tgt := 33) hx hb d_X_statics_17 (by decide) (fun c4 => ?_) (fun c4 => ?_)
      · have hp := hp.1 c4
        have hf := hf.trans (if_pos c4)
        refine lv_ldc2 (v := 1000000000000) hx hb hC.2.2.2.1 (hC.2.2.2.2.1 _ wd_401) d_X_statics_33 ?_
        exact cs_lret hC hw hr hlk (congrArg (fun z => (z, M)) hf) d_X_statics_36
      · have hp := hp.2 c4
        have hf := hf.trans (if_neg c4)
        refine lv_aload_n hx hb d_X_statics_20 rfl (lv_at hl 0 rfl) ?_
        refine gf_X_machine hC hw hj wd_178 d_X_statics_21 ?_
        refine lv_iload_n hx hb d_X_statics_24 rfl (lv_at hl 1 rfl) ?_
        refine lv_iload_n hx hb d_X_statics_25 rfl (lv_at hl 2 rfl) ?_
        have o5 := hp.1
        have hp := hp.2
        refine cs_ret_p hC hw (cs_runV (As := [.int x1, .int x2]) (rest := []) hC hw is_52.2 (ci := 3) rfl rfl (cs_sg_is is_52) (c_Ma_staticOf l D cA ad M 52 is_52 x1 x2 o5 _) rfl rfl cw_X_85 ⟨Nat.le_of_ble_eq_true rfl, Nat.le_of_ble_eq_true rfl⟩ hl.1 rfl rfl (Nat.le_of_ble_eq_true rfl) d_X_statics_26 ⟨Nat.zero_le _, Nat.zero_le _⟩) (fun r6 H locs er6 hw => ?_)
        have hf := cs_bdE er6 hf
        refine lv_i2l hx hb d_X_statics_29 rfl ?_
        refine lv_goto (tgt := 36) hx hb d_X_statics_30 (by decide) ?_
        exact cs_lret hC hw hr hlk (congrArg (fun z => (z, M)) hf) d_X_statics_36
theorem d_X_result_0 : decode prog_1_method_10_code 0 = .ok (.iload_n 1, 1) := by decide +kernel
theorem d_X_result_1 : decode prog_1_method_10_code 1 = .ok (.invokestatic 58, 3) := by decide +kernel
theorem d_X_result_4 : decode prog_1_method_10_code 4 = .ok (.ifCond .eq 14, 3) := by decide +kernel
theorem d_X_result_7 : decode prog_1_method_10_code 7 = .ok (.aload_n 0, 1) := by decide +kernel
theorem d_X_result_8 : decode prog_1_method_10_code 8 = .ok (.getfield 21, 3) := by decide +kernel
theorem d_X_result_11 : decode prog_1_method_10_code 11 = .ok (.iload_n 1, 1) := by decide +kernel
theorem d_X_result_12 : decode prog_1_method_10_code 12 = .ok (.invokevirtual 91, 3) := by decide +kernel
theorem d_X_result_15 : decode prog_1_method_10_code 15 = .ok (.goto 4, 3) := by decide +kernel
theorem d_X_result_18 : decode prog_1_method_10_code 18 = .ok (.iconst (-1), 1) := by decide +kernel
theorem d_X_result_19 : decode prog_1_method_10_code 19 = .ok (.ireturn, 1) := by decide +kernel
def f_X_result (M : cs_Mem) (j : Nat) (x1 : Int32) : Int32 :=
  cs_bd (f_X_isThread M x1) fun (r1 : Int32) =>
  if r1 = 0 then
    (-1)
  else
    cs_bd (f_Ma_resultOf M 52 x1) fun (r4 : Int32) =>
    r4
def pre_X_result (M : cs_Mem) (j : Nat) (x1 : Int32) : Prop :=
  cs_bd (f_X_isThread M x1) fun (r1 : Int32) =>
  (r1 = 0 →
    True
  ) ∧ (¬ (r1 = 0) →
    (pre_Ma_resultOf M 52 x1) ∧
    True
  )
set_option maxHeartbeats 4000000 in
set_option maxRecDepth 100000 in
theorem c_X_result (l : Launch) (D : va_G) (cA : Nat → ClassId) (ad : Nat → Nat) (M : cs_Mem) (j : Nat) (hj : cs_is 0 j) (x1 : Int32) (hp : pre_X_result M j x1) : cs_Ci l ⟨"ClassStarter", "result", "(I)I"⟩ prog_1_method_10_code 2 (some .int) ({ frames := 5, cells := 0, slots := 0, locals := 111 }) D cA ad M [.ref (ad j), .int x1] ((f_X_result M j x1, M)) := by
  refine cs_entry (by decide) (Nat.le_of_ble_eq_true rfl) (fun p e s m below meth c A ls hC hr hlk _ hw hl => ?_)
  have hx := hC.1
  have hb := hC.2.1
  have hl : lv_has ls 2 [(0, .ref (ad j)), (1, .int x1)] := hl
  generalize hF : f_X_result M j x1 = F
  have hf := hF.symm
  unfold f_X_result at hf
  unfold pre_X_result at hp
  refine lv_iload_n hx hb d_X_result_0 rfl (lv_at hl 1 rfl) ?_
  refine cs_ret_p hC hw (cs_runS (As := [.int x1]) (rest := []) hC hw (c_X_isThread l D cA ad M x1 _) rfl rfl cw_X_58 ⟨Nat.le_of_ble_eq_true rfl, Nat.le_of_ble_eq_true rfl⟩ hl.1 rfl rfl (Nat.le_of_ble_eq_true rfl) d_X_result_1 ⟨Nat.zero_le _, Nat.zero_le _⟩) (fun r1 H locs er1 hw => ?_)
  have hp := cs_bdP er1 hp
  have hf := cs_bdE er1 hf
  refine lv_if_eq (tgt := 18) hx hb d_X_result_4 (by decide) (fun c2 => ?_) (fun c2 => ?_)
  · have hp := hp.1 c2
    have hf := hf.trans (if_pos c2)
    refine lv_iconst (v := (-1)) hx hb d_X_result_18 (by decide) ?_
    exact cs_iret hC hw hr hlk (congrArg (fun z => (z, M)) hf) d_X_result_19
  · have hp := hp.2 c2
    have hf := hf.trans (if_neg c2)
    refine lv_aload_n hx hb d_X_result_7 rfl (lv_at hl 0 rfl) ?_
    refine gf_X_machine hC hw hj wd_178 d_X_result_8 ?_
    refine lv_iload_n hx hb d_X_result_11 rfl (lv_at hl 1 rfl) ?_
    have o3 := hp.1
    have hp := hp.2
    refine cs_ret_p hC hw (cs_runV (As := [.int x1]) (rest := []) hC hw is_52.2 (ci := 3) rfl rfl (cs_sg_is is_52) (c_Ma_resultOf l D cA ad M 52 is_52 x1 o3 _) rfl rfl cw_X_91 ⟨Nat.le_of_ble_eq_true rfl, Nat.le_of_ble_eq_true rfl⟩ hl.1 rfl rfl (Nat.le_of_ble_eq_true rfl) d_X_result_12 ⟨Nat.zero_le _, Nat.zero_le _⟩) (fun r4 H locs er4 hw => ?_)
    have hf := cs_bdE er4 hf
    refine lv_goto (tgt := 19) hx hb d_X_result_15 (by decide) ?_
    exact cs_iret hC hw hr hlk (congrArg (fun z => (z, M)) hf) d_X_result_19
theorem d_X_inside_0 : decode prog_1_method_11_code 0 = .ok (.iload_n 1, 1) := by decide +kernel
theorem d_X_inside_1 : decode prog_1_method_11_code 1 = .ok (.invokestatic 58, 3) := by decide +kernel
theorem d_X_inside_4 : decode prog_1_method_11_code 4 = .ok (.ifCond .eq 25, 3) := by decide +kernel
theorem d_X_inside_7 : decode prog_1_method_11_code 7 = .ok (.aload_n 0, 1) := by decide +kernel
theorem d_X_inside_8 : decode prog_1_method_11_code 8 = .ok (.getfield 21, 3) := by decide +kernel
theorem d_X_inside_11 : decode prog_1_method_11_code 11 = .ok (.iload_n 1, 1) := by decide +kernel
theorem d_X_inside_12 : decode prog_1_method_11_code 12 = .ok (.invokevirtual 94, 3) := by decide +kernel
theorem d_X_inside_15 : decode prog_1_method_11_code 15 = .ok (.ifCond .eq 14, 3) := by decide +kernel
theorem d_X_inside_18 : decode prog_1_method_11_code 18 = .ok (.aload_n 0, 1) := by decide +kernel
theorem d_X_inside_19 : decode prog_1_method_11_code 19 = .ok (.getfield 21, 3) := by decide +kernel
theorem d_X_inside_22 : decode prog_1_method_11_code 22 = .ok (.iload_n 1, 1) := by decide +kernel
theorem d_X_inside_23 : decode prog_1_method_11_code 23 = .ok (.invokevirtual 97, 3) := by decide +kernel
theorem d_X_inside_26 : decode prog_1_method_11_code 26 = .ok (.goto 4, 3) := by decide +kernel
theorem d_X_inside_29 : decode prog_1_method_11_code 29 = .ok (.iconst (-1), 1) := by decide +kernel
theorem d_X_inside_30 : decode prog_1_method_11_code 30 = .ok (.ireturn, 1) := by decide +kernel
def f_X_inside (M : cs_Mem) (j : Nat) (x1 : Int32) : Int32 :=
  cs_bd (f_X_isThread M x1) fun (r1 : Int32) =>
  if r1 = 0 then
    (-1)
  else
    cs_bd (f_Ma_isInClass M 52 x1) fun (r4 : Int32) =>
    if r4 = 0 then
      (-1)
    else
      cs_bd (f_Ma_topFrame M 52 x1) fun (r7 : Int32) =>
      r7
def pre_X_inside (M : cs_Mem) (j : Nat) (x1 : Int32) : Prop :=
  cs_bd (f_X_isThread M x1) fun (r1 : Int32) =>
  (r1 = 0 →
    True
  ) ∧ (¬ (r1 = 0) →
    (pre_Ma_isInClass M 52 x1) ∧
    cs_bd (f_Ma_isInClass M 52 x1) fun (r4 : Int32) =>
    (r4 = 0 →
      True
    ) ∧ (¬ (r4 = 0) →
      (pre_Ma_topFrame M 52 x1) ∧
      True
    )
  )
set_option maxHeartbeats 4000000 in
set_option maxRecDepth 100000 in
theorem c_X_inside (l : Launch) (D : va_G) (cA : Nat → ClassId) (ad : Nat → Nat) (M : cs_Mem) (j : Nat) (hj : cs_is 0 j) (x1 : Int32) (hp : pre_X_inside M j x1) : cs_Ci l ⟨"ClassStarter", "inside", "(I)I"⟩ prog_1_method_11_code 2 (some .int) ({ frames := 1, cells := 0, slots := 0, locals := 21 }) D cA ad M [.ref (ad j), .int x1] ((f_X_inside M j x1, M)) := by
  refine cs_entry (by decide) (Nat.le_of_ble_eq_true rfl) (fun p e s m below meth c A ls hC hr hlk _ hw hl => ?_)
  have hx := hC.1
  have hb := hC.2.1
  have hl : lv_has ls 2 [(0, .ref (ad j)), (1, .int x1)] := hl
  generalize hF : f_X_inside M j x1 = F
  have hf := hF.symm
  unfold f_X_inside at hf
  unfold pre_X_inside at hp
  refine lv_iload_n hx hb d_X_inside_0 rfl (lv_at hl 1 rfl) ?_
  refine cs_ret_p hC hw (cs_runS (As := [.int x1]) (rest := []) hC hw (c_X_isThread l D cA ad M x1 _) rfl rfl cw_X_58 ⟨Nat.le_of_ble_eq_true rfl, Nat.le_of_ble_eq_true rfl⟩ hl.1 rfl rfl (Nat.le_of_ble_eq_true rfl) d_X_inside_1 ⟨Nat.zero_le _, Nat.zero_le _⟩) (fun r1 H locs er1 hw => ?_)
  have hp := cs_bdP er1 hp
  have hf := cs_bdE er1 hf
  refine lv_if_eq (tgt := 29) hx hb d_X_inside_4 (by decide) (fun c2 => ?_) (fun c2 => ?_)
  · have hp := hp.1 c2
    have hf := hf.trans (if_pos c2)
    refine lv_iconst (v := (-1)) hx hb d_X_inside_29 (by decide) ?_
    exact cs_iret hC hw hr hlk (congrArg (fun z => (z, M)) hf) d_X_inside_30
  · have hp := hp.2 c2
    have hf := hf.trans (if_neg c2)
    refine lv_aload_n hx hb d_X_inside_7 rfl (lv_at hl 0 rfl) ?_
    refine gf_X_machine hC hw hj wd_178 d_X_inside_8 ?_
    refine lv_iload_n hx hb d_X_inside_11 rfl (lv_at hl 1 rfl) ?_
    have o3 := hp.1
    have hp := hp.2
    refine cs_ret_p hC hw (cs_runV (As := [.int x1]) (rest := []) hC hw is_52.2 (ci := 3) rfl rfl (cs_sg_is is_52) (c_Ma_isInClass l D cA ad M 52 is_52 x1 o3 _) rfl rfl cw_X_94 ⟨Nat.le_of_ble_eq_true rfl, Nat.le_of_ble_eq_true rfl⟩ hl.1 rfl rfl (Nat.le_of_ble_eq_true rfl) d_X_inside_12 ⟨Nat.zero_le _, Nat.zero_le _⟩) (fun r4 H locs er4 hw => ?_)
    have hp := cs_bdP er4 hp
    have hf := cs_bdE er4 hf
    refine lv_if_eq (tgt := 29) hx hb d_X_inside_15 (by decide) (fun c5 => ?_) (fun c5 => ?_)
    · have hp := hp.1 c5
      have hf := hf.trans (if_pos c5)
      refine lv_iconst (v := (-1)) hx hb d_X_inside_29 (by decide) ?_
      exact cs_iret hC hw hr hlk (congrArg (fun z => (z, M)) hf) d_X_inside_30
    · have hp := hp.2 c5
      have hf := hf.trans (if_neg c5)
      refine lv_aload_n hx hb d_X_inside_18 rfl (lv_at hl 0 rfl) ?_
      refine gf_X_machine hC hw hj wd_178 d_X_inside_19 ?_
      refine lv_iload_n hx hb d_X_inside_22 rfl (lv_at hl 1 rfl) ?_
      have o6 := hp.1
      have hp := hp.2
      refine cs_ret_p hC hw (cs_runV (As := [.int x1]) (rest := []) hC hw is_52.2 (ci := 3) rfl rfl (cs_sg_is is_52) (c_Ma_topFrame l D cA ad M 52 is_52 x1 o6 _) rfl rfl cw_X_97 ⟨Nat.le_of_ble_eq_true rfl, Nat.le_of_ble_eq_true rfl⟩ hl.1 rfl rfl (Nat.le_of_ble_eq_true rfl) d_X_inside_23 ⟨Nat.zero_le _, Nat.zero_le _⟩) (fun r7 H locs er7 hw => ?_)
      have hf := cs_bdE er7 hf
      refine lv_goto (tgt := 30) hx hb d_X_inside_26 (by decide) ?_
      exact cs_iret hC hw hr hlk (congrArg (fun z => (z, M)) hf) d_X_inside_30
theorem d_X_waitsFor_0 : decode prog_1_method_12_code 0 = .ok (.iload_n 1, 1) := by decide +kernel
theorem d_X_waitsFor_1 : decode prog_1_method_12_code 1 = .ok (.invokestatic 58, 3) := by decide +kernel
theorem d_X_waitsFor_4 : decode prog_1_method_12_code 4 = .ok (.ifCond .eq 14, 3) := by decide +kernel
theorem d_X_waitsFor_7 : decode prog_1_method_12_code 7 = .ok (.aload_n 0, 1) := by decide +kernel
theorem d_X_waitsFor_8 : decode prog_1_method_12_code 8 = .ok (.getfield 21, 3) := by decide +kernel
theorem d_X_waitsFor_11 : decode prog_1_method_12_code 11 = .ok (.iload_n 1, 1) := by decide +kernel
theorem d_X_waitsFor_12 : decode prog_1_method_12_code 12 = .ok (.invokevirtual 65, 3) := by decide +kernel
theorem d_X_waitsFor_15 : decode prog_1_method_12_code 15 = .ok (.goto 4, 3) := by decide +kernel
theorem d_X_waitsFor_18 : decode prog_1_method_12_code 18 = .ok (.iconst (-1), 1) := by decide +kernel
theorem d_X_waitsFor_19 : decode prog_1_method_12_code 19 = .ok (.istore_n 2, 1) := by decide +kernel
theorem d_X_waitsFor_20 : decode prog_1_method_12_code 20 = .ok (.iload_n 2, 1) := by decide +kernel
theorem d_X_waitsFor_21 : decode prog_1_method_12_code 21 = .ok (.iconst (-1), 1) := by decide +kernel
theorem d_X_waitsFor_22 : decode prog_1_method_12_code 22 = .ok (.if_icmp .ne 7, 3) := by decide +kernel
theorem d_X_waitsFor_25 : decode prog_1_method_12_code 25 = .ok (.iconst (-1), 1) := by decide +kernel
theorem d_X_waitsFor_26 : decode prog_1_method_12_code 26 = .ok (.goto 4, 3) := by decide +kernel
theorem d_X_waitsFor_29 : decode prog_1_method_12_code 29 = .ok (.iload_n 2, 1) := by decide +kernel
theorem d_X_waitsFor_30 : decode prog_1_method_12_code 30 = .ok (.ireturn, 1) := by decide +kernel
def f_X_waitsFor (M : cs_Mem) (j : Nat) (x1 : Int32) : Int32 :=
  cs_bd (f_X_isThread M x1) fun (r1 : Int32) =>
  if r1 = 0 then
    (-1)
  else
    cs_bd (f_Ma_awaited M 52 x1) fun (r5 : Int32) =>
    if r5 = (-1) then
      (-1)
    else
      r5
def pre_X_waitsFor (M : cs_Mem) (j : Nat) (x1 : Int32) : Prop :=
  cs_bd (f_X_isThread M x1) fun (r1 : Int32) =>
  (r1 = 0 →
    True
  ) ∧ (¬ (r1 = 0) →
    (pre_Ma_awaited M 52 x1) ∧
    True
  )
set_option maxHeartbeats 4000000 in
set_option maxRecDepth 100000 in
theorem c_X_waitsFor (l : Launch) (D : va_G) (cA : Nat → ClassId) (ad : Nat → Nat) (M : cs_Mem) (j : Nat) (hj : cs_is 0 j) (x1 : Int32) (hp : pre_X_waitsFor M j x1) : cs_Ci l ⟨"ClassStarter", "waitsFor", "(I)I"⟩ prog_1_method_12_code 3 (some .int) ({ frames := 3, cells := 0, slots := 0, locals := 68 }) D cA ad M [.ref (ad j), .int x1] ((f_X_waitsFor M j x1, M)) := by
  refine cs_entry (by decide) (Nat.le_of_ble_eq_true rfl) (fun p e s m below meth c A ls hC hr hlk _ hw hl => ?_)
  have hx := hC.1
  have hb := hC.2.1
  have hl : lv_has ls 3 [(0, .ref (ad j)), (1, .int x1)] := hl
  generalize hF : f_X_waitsFor M j x1 = F
  have hf := hF.symm
  unfold f_X_waitsFor at hf
  unfold pre_X_waitsFor at hp
  refine lv_iload_n hx hb d_X_waitsFor_0 rfl (lv_at hl 1 rfl) ?_
  refine cs_ret_p hC hw (cs_runS (As := [.int x1]) (rest := []) hC hw (c_X_isThread l D cA ad M x1 _) rfl rfl cw_X_58 ⟨Nat.le_of_ble_eq_true rfl, Nat.le_of_ble_eq_true rfl⟩ hl.1 rfl rfl (Nat.le_of_ble_eq_true rfl) d_X_waitsFor_1 ⟨Nat.zero_le _, Nat.zero_le _⟩) (fun r1 H locs er1 hw => ?_)
  have hp := cs_bdP er1 hp
  have hf := cs_bdE er1 hf
  refine lv_if_eq (tgt := 18) hx hb d_X_waitsFor_4 (by decide) (fun c2 => ?_) (fun c2 => ?_)
  · have hp := hp.1 c2
    have hf := hf.trans (if_pos c2)
    refine lv_iconst (v := (-1)) hx hb d_X_waitsFor_18 (by decide) ?_
    refine lv_istore_n (lv' := [(2, .int (-1)), (0, .ref (ad j)), (1, .int x1)]) hx hb d_X_waitsFor_19 rfl hl (by decide) rfl (fun ls hl => ?_)
    refine lv_iload_n hx hb d_X_waitsFor_20 rfl (lv_at hl 0 rfl) ?_
    refine lv_iconst (v := (-1)) hx hb d_X_waitsFor_21 (by decide) ?_
    refine lv_icmp_ne (tgt := 29) hx hb d_X_waitsFor_22 (by decide) (fun c3 => absurd c3 (by decide)) (fun _ => ?_)
    refine lv_iconst (v := (-1)) hx hb d_X_waitsFor_25 (by decide) ?_
    refine lv_goto (tgt := 30) hx hb d_X_waitsFor_26 (by decide) ?_
    exact cs_iret hC hw hr hlk (congrArg (fun z => (z, M)) hf) d_X_waitsFor_30
  · have hp := hp.2 c2
    have hf := hf.trans (if_neg c2)
    refine lv_aload_n hx hb d_X_waitsFor_7 rfl (lv_at hl 0 rfl) ?_
    refine gf_X_machine hC hw hj wd_178 d_X_waitsFor_8 ?_
    refine lv_iload_n hx hb d_X_waitsFor_11 rfl (lv_at hl 1 rfl) ?_
    have o4 := hp.1
    have hp := hp.2
    refine cs_ret_p hC hw (cs_runV (As := [.int x1]) (rest := []) hC hw is_52.2 (ci := 3) rfl rfl (cs_sg_is is_52) (c_Ma_awaited l D cA ad M 52 is_52 x1 o4 _) rfl rfl cw_X_65 ⟨Nat.le_of_ble_eq_true rfl, Nat.le_of_ble_eq_true rfl⟩ hl.1 rfl rfl (Nat.le_of_ble_eq_true rfl) d_X_waitsFor_12 ⟨Nat.zero_le _, Nat.zero_le _⟩) (fun r5 H locs er5 hw => ?_)
    have hf := cs_bdE er5 hf
    refine lv_goto (tgt := 19) hx hb d_X_waitsFor_15 (by decide) ?_
    refine lv_istore_n (lv' := [(2, .int r5), (0, .ref (ad j)), (1, .int x1)]) hx hb d_X_waitsFor_19 rfl hl (by decide) rfl (fun ls hl => ?_)
    refine lv_iload_n hx hb d_X_waitsFor_20 rfl (lv_at hl 0 rfl) ?_
    refine lv_iconst (v := (-1)) hx hb d_X_waitsFor_21 (by decide) ?_
    refine lv_icmp_ne (tgt := 29) hx hb d_X_waitsFor_22 (by decide) (fun c6 => ?_) (fun c6 => ?_)
    · have hf := hf.trans (if_neg c6)
      refine lv_iload_n hx hb d_X_waitsFor_29 rfl (lv_at hl 0 rfl) ?_
      exact cs_iret hC hw hr hlk (congrArg (fun z => (z, M)) hf) d_X_waitsFor_30
    · have hf := hf.trans (if_pos c6)
      refine lv_iconst (v := (-1)) hx hb d_X_waitsFor_25 (by decide) ?_
      refine lv_goto (tgt := 30) hx hb d_X_waitsFor_26 (by decide) ?_
      exact cs_iret hC hw hr hlk (congrArg (fun z => (z, M)) hf) d_X_waitsFor_30
theorem d_X_logged_0 : decode prog_1_method_13_code 0 = .ok (.iload_n 1, 1) := by decide +kernel
theorem d_X_logged_1 : decode prog_1_method_13_code 1 = .ok (.ifCond .lt 26, 3) := by decide +kernel
theorem d_X_logged_4 : decode prog_1_method_13_code 4 = .ok (.iload_n 1, 1) := by decide +kernel
theorem d_X_logged_5 : decode prog_1_method_13_code 5 = .ok (.aload_n 0, 1) := by decide +kernel
theorem d_X_logged_6 : decode prog_1_method_13_code 6 = .ok (.getfield 21, 3) := by decide +kernel
theorem d_X_logged_9 : decode prog_1_method_13_code 9 = .ok (.invokevirtual 100, 3) := by decide +kernel
theorem d_X_logged_12 : decode prog_1_method_13_code 12 = .ok (.if_icmp .ge 15, 3) := by decide +kernel
theorem d_X_logged_15 : decode prog_1_method_13_code 15 = .ok (.aload_n 0, 1) := by decide +kernel
theorem d_X_logged_16 : decode prog_1_method_13_code 16 = .ok (.getfield 21, 3) := by decide +kernel
theorem d_X_logged_19 : decode prog_1_method_13_code 19 = .ok (.iload_n 1, 1) := by decide +kernel
theorem d_X_logged_20 : decode prog_1_method_13_code 20 = .ok (.invokevirtual 103, 3) := by decide +kernel
theorem d_X_logged_23 : decode prog_1_method_13_code 23 = .ok (.i2l, 1) := by decide +kernel
theorem d_X_logged_24 : decode prog_1_method_13_code 24 = .ok (.goto 6, 3) := by decide +kernel
theorem d_X_logged_27 : decode prog_1_method_13_code 27 = .ok (.ldc2_w 89, 3) := by decide +kernel
theorem d_X_logged_30 : decode prog_1_method_13_code 30 = .ok (.lreturn, 1) := by decide +kernel
def f_X_logged (M : cs_Mem) (j : Nat) (x1 : Int32) : Int64 :=
  if x1 < 0 then
    1000000000000
  else
    cs_bd (f_Ma_logSize M 52) fun (r3 : Int32) =>
    if r3 ≤ x1 then
      1000000000000
    else
      cs_bd (f_Ma_logEntry M 52 x1) fun (r6 : Int32) =>
      r6.toInt64
def pre_X_logged (M : cs_Mem) (j : Nat) (x1 : Int32) : Prop :=
  (x1 < 0 →
    True
  ) ∧ (¬ (x1 < 0) →
    (pre_Ma_logSize M 52) ∧
    cs_bd (f_Ma_logSize M 52) fun (r3 : Int32) =>
    (r3 ≤ x1 →
      True
    ) ∧ (¬ (r3 ≤ x1) →
      (pre_Ma_logEntry M 52 x1) ∧
      True
    )
  )
set_option maxHeartbeats 4000000 in
set_option maxRecDepth 100000 in
theorem c_X_logged (l : Launch) (D : va_G) (cA : Nat → ClassId) (ad : Nat → Nat) (M : cs_Mem) (j : Nat) (hj : cs_is 0 j) (x1 : Int32) (hp : pre_X_logged M j x1) : cs_Cl l ⟨"ClassStarter", "logged", "(I)J"⟩ prog_1_method_13_code 2 (some .long) ({ frames := 1, cells := 0, slots := 0, locals := 21 }) D cA ad M [.ref (ad j), .int x1] ((f_X_logged M j x1, M)) := by
  refine cs_entry (by decide) (Nat.le_of_ble_eq_true rfl) (fun p e s m below meth c A ls hC hr hlk _ hw hl => ?_)
  have hx := hC.1
  have hb := hC.2.1
  have hl : lv_has ls 2 [(0, .ref (ad j)), (1, .int x1)] := hl
  generalize hF : f_X_logged M j x1 = F
  have hf := hF.symm
  unfold f_X_logged at hf
  unfold pre_X_logged at hp
  refine lv_iload_n hx hb d_X_logged_0 rfl (lv_at hl 1 rfl) ?_
  refine lv_if_lt (tgt := 27) hx hb d_X_logged_1 (by decide) (fun c1 => ?_) (fun c1 => ?_)
  · have hp := hp.1 c1
    have hf := hf.trans (if_pos c1)
    refine lv_ldc2 (v := 1000000000000) hx hb hC.2.2.2.1 (hC.2.2.2.2.1 _ wd_401) d_X_logged_27 ?_
    exact cs_lret hC hw hr hlk (congrArg (fun z => (z, M)) hf) d_X_logged_30
  · have hp := hp.2 c1
    have hf := hf.trans (if_neg c1)
    refine lv_iload_n hx hb d_X_logged_4 rfl (lv_at hl 1 rfl) ?_
    refine lv_aload_n hx hb d_X_logged_5 rfl (lv_at hl 0 rfl) ?_
    refine gf_X_machine hC hw hj wd_178 d_X_logged_6 ?_
    have o2 := hp.1
    have hp := hp.2
    refine cs_ret_p hC hw (cs_runV (As := []) (rest := [.int x1]) hC hw is_52.2 (ci := 3) rfl rfl (cs_sg_is is_52) (c_Ma_logSize l D cA ad M 52 is_52 o2 _) rfl rfl cw_X_100 ⟨Nat.le_of_ble_eq_true rfl, Nat.le_of_ble_eq_true rfl⟩ hl.1 rfl rfl (Nat.le_of_ble_eq_true rfl) d_X_logged_9 ⟨Nat.zero_le _, Nat.zero_le _⟩) (fun r3 H locs er3 hw => ?_)
    have hp := cs_bdP er3 hp
    have hf := cs_bdE er3 hf
    refine lv_icmp_ge (tgt := 27) hx hb d_X_logged_12 (by decide) (fun c4 => ?_) (fun c4 => ?_)
    · have hp := hp.1 c4
      have hf := hf.trans (if_pos c4)
      refine lv_ldc2 (v := 1000000000000) hx hb hC.2.2.2.1 (hC.2.2.2.2.1 _ wd_401) d_X_logged_27 ?_
      exact cs_lret hC hw hr hlk (congrArg (fun z => (z, M)) hf) d_X_logged_30
    · have hp := hp.2 c4
      have hf := hf.trans (if_neg c4)
      refine lv_aload_n hx hb d_X_logged_15 rfl (lv_at hl 0 rfl) ?_
      refine gf_X_machine hC hw hj wd_178 d_X_logged_16 ?_
      refine lv_iload_n hx hb d_X_logged_19 rfl (lv_at hl 1 rfl) ?_
      have o5 := hp.1
      have hp := hp.2
      refine cs_ret_p hC hw (cs_runV (As := [.int x1]) (rest := []) hC hw is_52.2 (ci := 3) rfl rfl (cs_sg_is is_52) (c_Ma_logEntry l D cA ad M 52 is_52 x1 o5 _) rfl rfl cw_X_103 ⟨Nat.le_of_ble_eq_true rfl, Nat.le_of_ble_eq_true rfl⟩ hl.1 rfl rfl (Nat.le_of_ble_eq_true rfl) d_X_logged_20 ⟨Nat.zero_le _, Nat.zero_le _⟩) (fun r6 H locs er6 hw => ?_)
      have hf := cs_bdE er6 hf
      refine lv_i2l hx hb d_X_logged_23 rfl ?_
      refine lv_goto (tgt := 30) hx hb d_X_logged_24 (by decide) ?_
      exact cs_lret hC hw hr hlk (congrArg (fun z => (z, M)) hf) d_X_logged_30
theorem d_X_outcome_0 : decode prog_1_method_15_code 0 = .ok (.iload_n 1, 1) := by decide +kernel
theorem d_X_outcome_1 : decode prog_1_method_15_code 1 = .ok (.ifCond .lt 26, 3) := by decide +kernel
theorem d_X_outcome_4 : decode prog_1_method_15_code 4 = .ok (.iload_n 1, 1) := by decide +kernel
theorem d_X_outcome_5 : decode prog_1_method_15_code 5 = .ok (.aload_n 0, 1) := by decide +kernel
theorem d_X_outcome_6 : decode prog_1_method_15_code 6 = .ok (.getfield 30, 3) := by decide +kernel
theorem d_X_outcome_9 : decode prog_1_method_15_code 9 = .ok (.invokevirtual 115, 3) := by decide +kernel
theorem d_X_outcome_12 : decode prog_1_method_15_code 12 = .ok (.if_icmp .ge 15, 3) := by decide +kernel
theorem d_X_outcome_15 : decode prog_1_method_15_code 15 = .ok (.aload_n 0, 1) := by decide +kernel
theorem d_X_outcome_16 : decode prog_1_method_15_code 16 = .ok (.getfield 30, 3) := by decide +kernel
theorem d_X_outcome_19 : decode prog_1_method_15_code 19 = .ok (.iload_n 1, 1) := by decide +kernel
theorem d_X_outcome_20 : decode prog_1_method_15_code 20 = .ok (.invokevirtual 118, 3) := by decide +kernel
theorem d_X_outcome_23 : decode prog_1_method_15_code 23 = .ok (.i2l, 1) := by decide +kernel
theorem d_X_outcome_24 : decode prog_1_method_15_code 24 = .ok (.goto 6, 3) := by decide +kernel
theorem d_X_outcome_27 : decode prog_1_method_15_code 27 = .ok (.ldc2_w 89, 3) := by decide +kernel
theorem d_X_outcome_30 : decode prog_1_method_15_code 30 = .ok (.lreturn, 1) := by decide +kernel
def f_X_outcome (M : cs_Mem) (j : Nat) (x1 : Int32) : Int64 :=
  if x1 < 0 then
    1000000000000
  else
    cs_bd (f_Ex_foundCount M 55) fun (r2 : Int32) =>
    if r2 ≤ x1 then
      1000000000000
    else
      cs_bd (f_Ex_foundAt M 55 x1) fun (r5 : Int32) =>
      r5.toInt64
def pre_X_outcome (M : cs_Mem) (j : Nat) (x1 : Int32) : Prop :=
  (x1 < 0 →
    True
  ) ∧ (¬ (x1 < 0) →
    cs_bd (f_Ex_foundCount M 55) fun (r2 : Int32) =>
    (r2 ≤ x1 →
      True
    ) ∧ (¬ (r2 ≤ x1) →
      (pre_Ex_foundAt M 55 x1) ∧
      True
    )
  )
set_option maxHeartbeats 4000000 in
set_option maxRecDepth 100000 in
theorem c_X_outcome (l : Launch) (D : va_G) (cA : Nat → ClassId) (ad : Nat → Nat) (M : cs_Mem) (j : Nat) (hj : cs_is 0 j) (x1 : Int32) (hp : pre_X_outcome M j x1) : cs_Cl l ⟨"ClassStarter", "outcome", "(I)J"⟩ prog_1_method_15_code 2 (some .long) ({ frames := 1, cells := 0, slots := 0, locals := 21 }) D cA ad M [.ref (ad j), .int x1] ((f_X_outcome M j x1, M)) := by
  refine cs_entry (by decide) (Nat.le_of_ble_eq_true rfl) (fun p e s m below meth c A ls hC hr hlk _ hw hl => ?_)
  have hx := hC.1
  have hb := hC.2.1
  have hl : lv_has ls 2 [(0, .ref (ad j)), (1, .int x1)] := hl
  generalize hF : f_X_outcome M j x1 = F
  have hf := hF.symm
  unfold f_X_outcome at hf
  unfold pre_X_outcome at hp
  refine lv_iload_n hx hb d_X_outcome_0 rfl (lv_at hl 1 rfl) ?_
  refine lv_if_lt (tgt := 27) hx hb d_X_outcome_1 (by decide) (fun c1 => ?_) (fun c1 => ?_)
  · have hp := hp.1 c1
    have hf := hf.trans (if_pos c1)
    refine lv_ldc2 (v := 1000000000000) hx hb hC.2.2.2.1 (hC.2.2.2.2.1 _ wd_401) d_X_outcome_27 ?_
    exact cs_lret hC hw hr hlk (congrArg (fun z => (z, M)) hf) d_X_outcome_30
  · have hp := hp.2 c1
    have hf := hf.trans (if_neg c1)
    refine lv_iload_n hx hb d_X_outcome_4 rfl (lv_at hl 1 rfl) ?_
    refine lv_aload_n hx hb d_X_outcome_5 rfl (lv_at hl 0 rfl) ?_
    refine gf_X_explorer hC hw hj wd_179 d_X_outcome_6 ?_
    refine cs_ret_p hC hw (cs_runV (As := []) (rest := [.int x1]) hC hw is_55.2 (ci := 4) rfl rfl (cs_sg_is is_55) (c_Ex_foundCount l D cA ad M 55 is_55 _) rfl rfl cw_X_115 ⟨Nat.le_of_ble_eq_true rfl, Nat.le_of_ble_eq_true rfl⟩ hl.1 rfl rfl (Nat.le_of_ble_eq_true rfl) d_X_outcome_9 ⟨Nat.zero_le _, Nat.zero_le _⟩) (fun r2 H locs er2 hw => ?_)
    have hp := cs_bdP er2 hp
    have hf := cs_bdE er2 hf
    refine lv_icmp_ge (tgt := 27) hx hb d_X_outcome_12 (by decide) (fun c3 => ?_) (fun c3 => ?_)
    · have hp := hp.1 c3
      have hf := hf.trans (if_pos c3)
      refine lv_ldc2 (v := 1000000000000) hx hb hC.2.2.2.1 (hC.2.2.2.2.1 _ wd_401) d_X_outcome_27 ?_
      exact cs_lret hC hw hr hlk (congrArg (fun z => (z, M)) hf) d_X_outcome_30
    · have hp := hp.2 c3
      have hf := hf.trans (if_neg c3)
      refine lv_aload_n hx hb d_X_outcome_15 rfl (lv_at hl 0 rfl) ?_
      refine gf_X_explorer hC hw hj wd_179 d_X_outcome_16 ?_
      refine lv_iload_n hx hb d_X_outcome_19 rfl (lv_at hl 1 rfl) ?_
      have o4 := hp.1
      have hp := hp.2
      refine cs_ret_p hC hw (cs_runV (As := [.int x1]) (rest := []) hC hw is_55.2 (ci := 4) rfl rfl (cs_sg_is is_55) (c_Ex_foundAt l D cA ad M 55 is_55 x1 o4 _) rfl rfl cw_X_118 ⟨Nat.le_of_ble_eq_true rfl, Nat.le_of_ble_eq_true rfl⟩ hl.1 rfl rfl (Nat.le_of_ble_eq_true rfl) d_X_outcome_20 ⟨Nat.zero_le _, Nat.zero_le _⟩) (fun r5 H locs er5 hw => ?_)
      have hf := cs_bdE er5 hf
      refine lv_i2l hx hb d_X_outcome_23 rfl ?_
      refine lv_goto (tgt := 30) hx hb d_X_outcome_24 (by decide) ?_
      exact cs_lret hC hw hr hlk (congrArg (fun z => (z, M)) hf) d_X_outcome_30
theorem d_X_count_0 : decode prog_1_method_16_code 0 = .ok (.iload_n 1, 1) := by decide +kernel
theorem d_X_count_1 : decode prog_1_method_16_code 1 = .ok (.tableswitch 95 0 5 #[39, 47, 55, 63, 71, 79], 39) := by decide +kernel
theorem d_X_count_40 : decode prog_1_method_16_code 40 = .ok (.aload_n 0, 1) := by decide +kernel
theorem d_X_count_41 : decode prog_1_method_16_code 41 = .ok (.getfield 12, 3) := by decide +kernel
theorem d_X_count_44 : decode prog_1_method_16_code 44 = .ok (.invokevirtual 121, 3) := by decide +kernel
theorem d_X_count_47 : decode prog_1_method_16_code 47 = .ok (.ireturn, 1) := by decide +kernel
theorem d_X_count_48 : decode prog_1_method_16_code 48 = .ok (.aload_n 0, 1) := by decide +kernel
theorem d_X_count_49 : decode prog_1_method_16_code 49 = .ok (.getfield 21, 3) := by decide +kernel
theorem d_X_count_52 : decode prog_1_method_16_code 52 = .ok (.invokevirtual 72, 3) := by decide +kernel
theorem d_X_count_55 : decode prog_1_method_16_code 55 = .ok (.ireturn, 1) := by decide +kernel
theorem d_X_count_56 : decode prog_1_method_16_code 56 = .ok (.aload_n 0, 1) := by decide +kernel
theorem d_X_count_57 : decode prog_1_method_16_code 57 = .ok (.getfield 21, 3) := by decide +kernel
theorem d_X_count_60 : decode prog_1_method_16_code 60 = .ok (.invokevirtual 100, 3) := by decide +kernel
theorem d_X_count_63 : decode prog_1_method_16_code 63 = .ok (.ireturn, 1) := by decide +kernel
theorem d_X_count_64 : decode prog_1_method_16_code 64 = .ok (.aload_n 0, 1) := by decide +kernel
theorem d_X_count_65 : decode prog_1_method_16_code 65 = .ok (.getfield 30, 3) := by decide +kernel
theorem d_X_count_68 : decode prog_1_method_16_code 68 = .ok (.invokevirtual 124, 3) := by decide +kernel
theorem d_X_count_71 : decode prog_1_method_16_code 71 = .ok (.ireturn, 1) := by decide +kernel
theorem d_X_count_72 : decode prog_1_method_16_code 72 = .ok (.aload_n 0, 1) := by decide +kernel
theorem d_X_count_73 : decode prog_1_method_16_code 73 = .ok (.getfield 30, 3) := by decide +kernel
theorem d_X_count_76 : decode prog_1_method_16_code 76 = .ok (.invokevirtual 127, 3) := by decide +kernel
theorem d_X_count_79 : decode prog_1_method_16_code 79 = .ok (.ireturn, 1) := by decide +kernel
theorem d_X_count_80 : decode prog_1_method_16_code 80 = .ok (.aload_n 0, 1) := by decide +kernel
theorem d_X_count_81 : decode prog_1_method_16_code 81 = .ok (.getfield 21, 3) := by decide +kernel
theorem d_X_count_84 : decode prog_1_method_16_code 84 = .ok (.invokevirtual 34, 3) := by decide +kernel
theorem d_X_count_87 : decode prog_1_method_16_code 87 = .ok (.ifCond .eq 7, 3) := by decide +kernel
theorem d_X_count_90 : decode prog_1_method_16_code 90 = .ok (.iconst 1, 1) := by decide +kernel
theorem d_X_count_91 : decode prog_1_method_16_code 91 = .ok (.goto 4, 3) := by decide +kernel
theorem d_X_count_94 : decode prog_1_method_16_code 94 = .ok (.iconst 0, 1) := by decide +kernel
theorem d_X_count_95 : decode prog_1_method_16_code 95 = .ok (.ireturn, 1) := by decide +kernel
theorem d_X_count_96 : decode prog_1_method_16_code 96 = .ok (.iconst (-1), 1) := by decide +kernel
theorem d_X_count_97 : decode prog_1_method_16_code 97 = .ok (.ireturn, 1) := by decide +kernel
def f_X_count (M : cs_Mem) (j : Nat) (x1 : Int32) : Int32 :=
  if x1 = 0 then
    cs_bd (f_Pr_classCount M 1) fun (r2 : Int32) =>
    r2
  else
    if x1 = 1 then
      cs_bd (f_Ma_steps M 52) fun (r5 : Int32) =>
      r5
    else
      if x1 = 2 then
        cs_bd (f_Ma_logSize M 52) fun (r8 : Int32) =>
        r8
      else
        if x1 = 3 then
          cs_bd (f_Ex_orders M 55) fun (r10 : Int32) =>
          r10
        else
          if x1 = 4 then
            cs_bd (f_Ex_stuckOrders M 55) fun (r12 : Int32) =>
            r12
          else
            if x1 = 5 then
              cs_bd (f_Ma_hasBegun M 52) fun (r15 : Int32) =>
              if r15 = 0 then
                0
              else
                1
            else
              (-1)
def pre_X_count (M : cs_Mem) (j : Nat) (x1 : Int32) : Prop :=
  (x1 = 0 →
    True
  ) ∧ (¬ (x1 = 0) →
    (x1 = 1 →
      (pre_Ma_steps M 52) ∧
      True
    ) ∧ (¬ (x1 = 1) →
      (x1 = 2 →
        (pre_Ma_logSize M 52) ∧
        True
      ) ∧ (¬ (x1 = 2) →
        (x1 = 3 →
          True
        ) ∧ (¬ (x1 = 3) →
          (x1 = 4 →
            True
          ) ∧ (¬ (x1 = 4) →
            (x1 = 5 →
              (pre_Ma_hasBegun M 52) ∧
              True
            ) ∧ (¬ (x1 = 5) →
              True
            )
          )
        )
      )
    )
  )
set_option maxHeartbeats 4000000 in
set_option maxRecDepth 100000 in
theorem c_X_count (l : Launch) (D : va_G) (cA : Nat → ClassId) (ad : Nat → Nat) (M : cs_Mem) (j : Nat) (hj : cs_is 0 j) (x1 : Int32) (hp : pre_X_count M j x1) : cs_Ci l ⟨"ClassStarter", "count", "(I)I"⟩ prog_1_method_16_code 2 (some .int) ({ frames := 1, cells := 0, slots := 0, locals := 20 }) D cA ad M [.ref (ad j), .int x1] ((f_X_count M j x1, M)) := by
  refine cs_entry (by decide) (Nat.le_of_ble_eq_true rfl) (fun p e s m below meth c A ls hC hr hlk _ hw hl => ?_)
  have hx := hC.1
  have hb := hC.2.1
  have hl : lv_has ls 2 [(0, .ref (ad j)), (1, .int x1)] := hl
  generalize hF : f_X_count M j x1 = F
  have hf := hF.symm
  unfold f_X_count at hf
  unfold pre_X_count at hp
  refine lv_iload_n hx hb d_X_count_0 rfl (lv_at hl 1 rfl) ?_
  rcases Decidable.em (x1 = 0) with c1 | c1
  · have hp := hp.1 c1
    have hf := hf.trans (if_pos c1)
    refine lv_tableIn (off := 39) (tgt := 40) hx hb d_X_count_1 (by rw [c1]; decide) (by rw [c1]; decide) (by rw [c1] <;> rfl) (by decide) ?_
    refine lv_aload_n hx hb d_X_count_40 rfl (lv_at hl 0 rfl) ?_
    refine gf_X_program hC hw hj wd_177 d_X_count_41 ?_
    refine cs_ret_p hC hw (cs_runV (As := []) (rest := []) hC hw is_1.2 (ci := 1) rfl rfl (cs_sg_is is_1) (c_Pr_classCount l D cA ad M 1 is_1 _) rfl rfl cw_X_121 ⟨Nat.le_of_ble_eq_true rfl, Nat.le_of_ble_eq_true rfl⟩ hl.1 rfl rfl (Nat.le_of_ble_eq_true rfl) d_X_count_44 ⟨Nat.zero_le _, Nat.zero_le _⟩) (fun r2 H locs er2 hw => ?_)
    have hf := cs_bdE er2 hf
    exact cs_iret hC hw hr hlk (congrArg (fun z => (z, M)) hf) d_X_count_47
  · have hp := hp.2 c1
    have hf := hf.trans (if_neg c1)
    rcases Decidable.em (x1 = 1) with c3 | c3
    · have hp := hp.1 c3
      have hf := hf.trans (if_pos c3)
      refine lv_tableIn (off := 47) (tgt := 48) hx hb d_X_count_1 (by rw [c3]; decide) (by rw [c3]; decide) (by rw [c3] <;> rfl) (by decide) ?_
      refine lv_aload_n hx hb d_X_count_48 rfl (lv_at hl 0 rfl) ?_
      refine gf_X_machine hC hw hj wd_178 d_X_count_49 ?_
      have o4 := hp.1
      have hp := hp.2
      refine cs_ret_p hC hw (cs_runV (As := []) (rest := []) hC hw is_52.2 (ci := 3) rfl rfl (cs_sg_is is_52) (c_Ma_steps l D cA ad M 52 is_52 o4 _) rfl rfl cw_X_72 ⟨Nat.le_of_ble_eq_true rfl, Nat.le_of_ble_eq_true rfl⟩ hl.1 rfl rfl (Nat.le_of_ble_eq_true rfl) d_X_count_52 ⟨Nat.zero_le _, Nat.zero_le _⟩) (fun r5 H locs er5 hw => ?_)
      have hf := cs_bdE er5 hf
      exact cs_iret hC hw hr hlk (congrArg (fun z => (z, M)) hf) d_X_count_55
    · have hp := hp.2 c3
      have hf := hf.trans (if_neg c3)
      rcases Decidable.em (x1 = 2) with c6 | c6
      · have hp := hp.1 c6
        have hf := hf.trans (if_pos c6)
        refine lv_tableIn (off := 55) (tgt := 56) hx hb d_X_count_1 (by rw [c6]; decide) (by rw [c6]; decide) (by rw [c6] <;> rfl) (by decide) ?_
        refine lv_aload_n hx hb d_X_count_56 rfl (lv_at hl 0 rfl) ?_
        refine gf_X_machine hC hw hj wd_178 d_X_count_57 ?_
        have o7 := hp.1
        have hp := hp.2
        refine cs_ret_p hC hw (cs_runV (As := []) (rest := []) hC hw is_52.2 (ci := 3) rfl rfl (cs_sg_is is_52) (c_Ma_logSize l D cA ad M 52 is_52 o7 _) rfl rfl cw_X_100 ⟨Nat.le_of_ble_eq_true rfl, Nat.le_of_ble_eq_true rfl⟩ hl.1 rfl rfl (Nat.le_of_ble_eq_true rfl) d_X_count_60 ⟨Nat.zero_le _, Nat.zero_le _⟩) (fun r8 H locs er8 hw => ?_)
        have hf := cs_bdE er8 hf
        exact cs_iret hC hw hr hlk (congrArg (fun z => (z, M)) hf) d_X_count_63
      · have hp := hp.2 c6
        have hf := hf.trans (if_neg c6)
        rcases Decidable.em (x1 = 3) with c9 | c9
        · have hp := hp.1 c9
          have hf := hf.trans (if_pos c9)
          refine lv_tableIn (off := 63) (tgt := 64) hx hb d_X_count_1 (by rw [c9]; decide) (by rw [c9]; decide) (by rw [c9] <;> rfl) (by decide) ?_
          refine lv_aload_n hx hb d_X_count_64 rfl (lv_at hl 0 rfl) ?_
          refine gf_X_explorer hC hw hj wd_179 d_X_count_65 ?_
          refine cs_ret_p hC hw (cs_runV (As := []) (rest := []) hC hw is_55.2 (ci := 4) rfl rfl (cs_sg_is is_55) (c_Ex_orders l D cA ad M 55 is_55 _) rfl rfl cw_X_124 ⟨Nat.le_of_ble_eq_true rfl, Nat.le_of_ble_eq_true rfl⟩ hl.1 rfl rfl (Nat.le_of_ble_eq_true rfl) d_X_count_68 ⟨Nat.zero_le _, Nat.zero_le _⟩) (fun r10 H locs er10 hw => ?_)
          have hf := cs_bdE er10 hf
          exact cs_iret hC hw hr hlk (congrArg (fun z => (z, M)) hf) d_X_count_71
        · have hp := hp.2 c9
          have hf := hf.trans (if_neg c9)
          rcases Decidable.em (x1 = 4) with c11 | c11
          · have hp := hp.1 c11
            have hf := hf.trans (if_pos c11)
            refine lv_tableIn (off := 71) (tgt := 72) hx hb d_X_count_1 (by rw [c11]; decide) (by rw [c11]; decide) (by rw [c11] <;> rfl) (by decide) ?_
            refine lv_aload_n hx hb d_X_count_72 rfl (lv_at hl 0 rfl) ?_
            refine gf_X_explorer hC hw hj wd_179 d_X_count_73 ?_
            refine cs_ret_p hC hw (cs_runV (As := []) (rest := []) hC hw is_55.2 (ci := 4) rfl rfl (cs_sg_is is_55) (c_Ex_stuckOrders l D cA ad M 55 is_55 _) rfl rfl cw_X_127 ⟨Nat.le_of_ble_eq_true rfl, Nat.le_of_ble_eq_true rfl⟩ hl.1 rfl rfl (Nat.le_of_ble_eq_true rfl) d_X_count_76 ⟨Nat.zero_le _, Nat.zero_le _⟩) (fun r12 H locs er12 hw => ?_)
            have hf := cs_bdE er12 hf
            exact cs_iret hC hw hr hlk (congrArg (fun z => (z, M)) hf) d_X_count_79
          · have hp := hp.2 c11
            have hf := hf.trans (if_neg c11)
            rcases Decidable.em (x1 = 5) with c13 | c13
            · have hp := hp.1 c13
              have hf := hf.trans (if_pos c13)
              refine lv_tableIn (off := 79) (tgt := 80) hx hb d_X_count_1 (by rw [c13]; decide) (by rw [c13]; decide) (by rw [c13] <;> rfl) (by decide) ?_
              refine lv_aload_n hx hb d_X_count_80 rfl (lv_at hl 0 rfl) ?_
              refine gf_X_machine hC hw hj wd_178 d_X_count_81 ?_
              have o14 := hp.1
              have hp := hp.2
              refine cs_ret_p hC hw (cs_runV (As := []) (rest := []) hC hw is_52.2 (ci := 3) rfl rfl (cs_sg_is is_52) (c_Ma_hasBegun l D cA ad M 52 is_52 o14 _) rfl rfl cw_X_34 ⟨Nat.le_of_ble_eq_true rfl, Nat.le_of_ble_eq_true rfl⟩ hl.1 rfl rfl (Nat.le_of_ble_eq_true rfl) d_X_count_84 ⟨Nat.zero_le _, Nat.zero_le _⟩) (fun r15 H locs er15 hw => ?_)
              have hf := cs_bdE er15 hf
              refine lv_if_eq (tgt := 94) hx hb d_X_count_87 (by decide) (fun c16 => ?_) (fun c16 => ?_)
              · have hf := hf.trans (if_pos c16)
                refine lv_iconst (v := 0) hx hb d_X_count_94 (by decide) ?_
                exact cs_iret hC hw hr hlk (congrArg (fun z => (z, M)) hf) d_X_count_95
              · have hf := hf.trans (if_neg c16)
                refine lv_iconst (v := 1) hx hb d_X_count_90 (by decide) ?_
                refine lv_goto (tgt := 95) hx hb d_X_count_91 (by decide) ?_
                exact cs_iret hC hw hr hlk (congrArg (fun z => (z, M)) hf) d_X_count_95
            · have hp := hp.2 c13
              have hf := hf.trans (if_neg c13)
              refine lv_tableOut (tgt := 96) hx hb d_X_count_1 (by have q0 := lv_neT c1 (show (0 : Int32).toInt = 0 by decide); have q1 := lv_neT c3 (show (1 : Int32).toInt = 1 by decide); have q2 := lv_neT c6 (show (2 : Int32).toInt = 2 by decide); have q3 := lv_neT c9 (show (3 : Int32).toInt = 3 by decide); have q4 := lv_neT c11 (show (4 : Int32).toInt = 4 by decide); have q5 := lv_neT c13 (show (5 : Int32).toInt = 5 by decide); omega) (by decide) ?_
              refine lv_iconst (v := (-1)) hx hb d_X_count_96 (by decide) ?_
              exact cs_iret hC hw hr hlk (congrArg (fun z => (z, M)) hf) d_X_count_97
end
