section
-- ===== PART A: goes FIRST, ahead of the names: the tables' words, and 'selects' of the private methods out of them =====
/-- a private method of a class that the tables say can be made, by its rows of tables_1 -/
def lw_okq (q : MethodName × Nat) : Prop := (q.1.cls ≠ "java/lang/invoke/MethodHandle" ∧ q.1.cls ≠ "java/lang/invoke/VarHandle") ∧ Cond.instantiable q.1.cls q.2 ∈ tables_1 ∧ Cond.privateMethod q.1 ∈ tables_1 ∧ Cond.instanceMethod q.1 ∈ tables_1
theorem lw_p0 : lw_okq (⟨"SwitchedModules$Version", "isRight", "(II)Z"⟩, 6) := ⟨⟨by decide +kernel, by decide +kernel⟩, List.mem_of_getElem? (i := 18) (by decide +kernel), List.mem_of_getElem? (i := 233) (by decide +kernel), List.mem_of_getElem? (i := 234) (by decide +kernel)⟩
theorem lw_p1 : lw_okq (⟨"SwitchedModules$Version", "isFieldOfType", "(I)Z"⟩, 6) := ⟨⟨by decide +kernel, by decide +kernel⟩, List.mem_of_getElem? (i := 18) (by decide +kernel), List.mem_of_getElem? (i := 245) (by decide +kernel), List.mem_of_getElem? (i := 246) (by decide +kernel)⟩
theorem lw_p2 : lw_okq (⟨"SwitchedModules", "draftChanges", "(I)Z"⟩, 9) := ⟨⟨by decide +kernel, by decide +kernel⟩, List.mem_of_getElem? (i := 10) (by decide +kernel), List.mem_of_getElem? (i := 261) (by decide +kernel), List.mem_of_getElem? (i := 262) (by decide +kernel)⟩
theorem lw_p3 : lw_okq (⟨"SwitchedModules$Version", "typeUsed", "(I)I"⟩, 6) := ⟨⟨by decide +kernel, by decide +kernel⟩, List.mem_of_getElem? (i := 18) (by decide +kernel), List.mem_of_getElem? (i := 273) (by decide +kernel), List.mem_of_getElem? (i := 274) (by decide +kernel)⟩
theorem lw_p4 : lw_okq (⟨"SwitchedModules", "firstTaskInTheWay", "(I)I"⟩, 9) := ⟨⟨by decide +kernel, by decide +kernel⟩, List.mem_of_getElem? (i := 10) (by decide +kernel), List.mem_of_getElem? (i := 281) (by decide +kernel), List.mem_of_getElem? (i := 282) (by decide +kernel)⟩
theorem lw_p5 : lw_okq (⟨"SwitchedModules", "isInTheWay", "(LSwitchedModules$Task;)Z"⟩, 9) := ⟨⟨by decide +kernel, by decide +kernel⟩, List.mem_of_getElem? (i := 10) (by decide +kernel), List.mem_of_getElem? (i := 286) (by decide +kernel), List.mem_of_getElem? (i := 287) (by decide +kernel)⟩
theorem lw_p6 : lw_okq (⟨"SwitchedModules", "placeInDraft", "(LSwitchedModules$Task;)I"⟩, 9) := ⟨⟨by decide +kernel, by decide +kernel⟩, List.mem_of_getElem? (i := 10) (by decide +kernel), List.mem_of_getElem? (i := 290) (by decide +kernel), List.mem_of_getElem? (i := 291) (by decide +kernel)⟩
theorem lw_p7 : lw_okq (⟨"SwitchedModules", "dropUnreachable", "()I"⟩, 9) := ⟨⟨by decide +kernel, by decide +kernel⟩, List.mem_of_getElem? (i := 10) (by decide +kernel), List.mem_of_getElem? (i := 303) (by decide +kernel), List.mem_of_getElem? (i := 304) (by decide +kernel)⟩
theorem lw_p8 : lw_okq (⟨"SwitchedModules$Heap", "makeOverOne", "(ILSwitchedModules$Rules;)Z"⟩, 6) := ⟨⟨by decide +kernel, by decide +kernel⟩, List.mem_of_getElem? (i := 74) (by decide +kernel), List.mem_of_getElem? (i := 333) (by decide +kernel), List.mem_of_getElem? (i := 334) (by decide +kernel)⟩
theorem lw_p9 : lw_okq (⟨"SwitchedModules", "takeThePlace", "()V"⟩, 9) := ⟨⟨by decide +kernel, by decide +kernel⟩, List.mem_of_getElem? (i := 10) (by decide +kernel), List.mem_of_getElem? (i := 345) (by decide +kernel), List.mem_of_getElem? (i := 346) (by decide +kernel)⟩
theorem lw_p10 : lw_okq (⟨"SwitchedModules", "moveFrames", "()V"⟩, 9) := ⟨⟨by decide +kernel, by decide +kernel⟩, List.mem_of_getElem? (i := 10) (by decide +kernel), List.mem_of_getElem? (i := 349) (by decide +kernel), List.mem_of_getElem? (i := 350) (by decide +kernel)⟩
theorem lw_p11 : lw_okq (⟨"SwitchedModules", "isTask", "(I)Z"⟩, 9) := ⟨⟨by decide +kernel, by decide +kernel⟩, List.mem_of_getElem? (i := 10) (by decide +kernel), List.mem_of_getElem? (i := 374) (by decide +kernel), List.mem_of_getElem? (i := 375) (by decide +kernel)⟩
theorem lw_p12 : lw_okq (⟨"SwitchedModules", "perform", "(LSwitchedModules$Task;)V"⟩, 9) := ⟨⟨by decide +kernel, by decide +kernel⟩, List.mem_of_getElem? (i := 10) (by decide +kernel), List.mem_of_getElem? (i := 378) (by decide +kernel), List.mem_of_getElem? (i := 379) (by decide +kernel)⟩
theorem lw_p13 : lw_okq (⟨"SwitchedModules", "makeObject", "(LSwitchedModules$Task;II)V"⟩, 9) := ⟨⟨by decide +kernel, by decide +kernel⟩, List.mem_of_getElem? (i := 10) (by decide +kernel), List.mem_of_getElem? (i := 398) (by decide +kernel), List.mem_of_getElem? (i := 399) (by decide +kernel)⟩
theorem lw_p14 : lw_okq (⟨"SwitchedModules", "get", "(LSwitchedModules$Task;III)V"⟩, 9) := ⟨⟨by decide +kernel, by decide +kernel⟩, List.mem_of_getElem? (i := 10) (by decide +kernel), List.mem_of_getElem? (i := 410) (by decide +kernel), List.mem_of_getElem? (i := 411) (by decide +kernel)⟩
theorem lw_p15 : lw_okq (⟨"SwitchedModules", "put", "(LSwitchedModules$Task;III)V"⟩, 9) := ⟨⟨by decide +kernel, by decide +kernel⟩, List.mem_of_getElem? (i := 10) (by decide +kernel), List.mem_of_getElem? (i := 418) (by decide +kernel), List.mem_of_getElem? (i := 419) (by decide +kernel)⟩
def lw_privs_1 : List (MethodName × Nat) := [(⟨"SwitchedModules$Version", "isRight", "(II)Z"⟩, 6), (⟨"SwitchedModules$Version", "isFieldOfType", "(I)Z"⟩, 6), (⟨"SwitchedModules", "draftChanges", "(I)Z"⟩, 9), (⟨"SwitchedModules$Version", "typeUsed", "(I)I"⟩, 6), (⟨"SwitchedModules", "firstTaskInTheWay", "(I)I"⟩, 9), (⟨"SwitchedModules", "isInTheWay", "(LSwitchedModules$Task;)Z"⟩, 9), (⟨"SwitchedModules", "placeInDraft", "(LSwitchedModules$Task;)I"⟩, 9), (⟨"SwitchedModules", "dropUnreachable", "()I"⟩, 9), (⟨"SwitchedModules$Heap", "makeOverOne", "(ILSwitchedModules$Rules;)Z"⟩, 6), (⟨"SwitchedModules", "takeThePlace", "()V"⟩, 9), (⟨"SwitchedModules", "moveFrames", "()V"⟩, 9), (⟨"SwitchedModules", "isTask", "(I)Z"⟩, 9), (⟨"SwitchedModules", "perform", "(LSwitchedModules$Task;)V"⟩, 9), (⟨"SwitchedModules", "makeObject", "(LSwitchedModules$Task;II)V"⟩, 9), (⟨"SwitchedModules", "get", "(LSwitchedModules$Task;III)V"⟩, 9), (⟨"SwitchedModules", "put", "(LSwitchedModules$Task;III)V"⟩, 9)]
theorem lw_r1 : ∀ q ∈ lw_privs_1, lw_okq q := List.forall_mem_cons.mpr ⟨lw_p0, List.forall_mem_cons.mpr ⟨lw_p1, List.forall_mem_cons.mpr ⟨lw_p2, List.forall_mem_cons.mpr ⟨lw_p3, List.forall_mem_cons.mpr ⟨lw_p4, List.forall_mem_cons.mpr ⟨lw_p5, List.forall_mem_cons.mpr ⟨lw_p6, List.forall_mem_cons.mpr ⟨lw_p7, List.forall_mem_cons.mpr ⟨lw_p8, List.forall_mem_cons.mpr ⟨lw_p9, List.forall_mem_cons.mpr ⟨lw_p10, List.forall_mem_cons.mpr ⟨lw_p11, List.forall_mem_cons.mpr ⟨lw_p12, List.forall_mem_cons.mpr ⟨lw_p13, List.forall_mem_cons.mpr ⟨lw_p14, List.forall_mem_cons.mpr ⟨lw_p15, fun _ h => absurd h List.not_mem_nil⟩⟩⟩⟩⟩⟩⟩⟩⟩⟩⟩⟩⟩⟩⟩⟩
theorem lw_p16 : lw_okq (⟨"SwitchedModulesModel", "clearRules", "(I)V"⟩, 19) := ⟨⟨by decide +kernel, by decide +kernel⟩, List.mem_of_getElem? (i := 475) (by decide +kernel), List.mem_of_getElem? (i := 557) (by decide +kernel), List.mem_of_getElem? (i := 558) (by decide +kernel)⟩
theorem lw_p17 : lw_okq (⟨"SwitchedModulesModel", "settle", "()V"⟩, 19) := ⟨⟨by decide +kernel, by decide +kernel⟩, List.mem_of_getElem? (i := 475) (by decide +kernel), List.mem_of_getElem? (i := 569) (by decide +kernel), List.mem_of_getElem? (i := 570) (by decide +kernel)⟩
theorem lw_p18 : lw_okq (⟨"SwitchedModulesModel", "isRight", "(II)Z"⟩, 19) := ⟨⟨by decide +kernel, by decide +kernel⟩, List.mem_of_getElem? (i := 475) (by decide +kernel), List.mem_of_getElem? (i := 577) (by decide +kernel), List.mem_of_getElem? (i := 578) (by decide +kernel)⟩
theorem lw_p19 : lw_okq (⟨"SwitchedModulesModel", "isField", "(I)Z"⟩, 19) := ⟨⟨by decide +kernel, by decide +kernel⟩, List.mem_of_getElem? (i := 475) (by decide +kernel), List.mem_of_getElem? (i := 584) (by decide +kernel), List.mem_of_getElem? (i := 585) (by decide +kernel)⟩
theorem lw_p20 : lw_okq (⟨"SwitchedModulesModel", "isChanged", "(I)Z"⟩, 19) := ⟨⟨by decide +kernel, by decide +kernel⟩, List.mem_of_getElem? (i := 475) (by decide +kernel), List.mem_of_getElem? (i := 596) (by decide +kernel), List.mem_of_getElem? (i := 597) (by decide +kernel)⟩
theorem lw_p21 : lw_okq (⟨"SwitchedModulesModel", "isOther", "(I)Z"⟩, 19) := ⟨⟨by decide +kernel, by decide +kernel⟩, List.mem_of_getElem? (i := 475) (by decide +kernel), List.mem_of_getElem? (i := 600) (by decide +kernel), List.mem_of_getElem? (i := 601) (by decide +kernel)⟩
theorem lw_p22 : lw_okq (⟨"SwitchedModulesModel", "usesTouched", "(I)Z"⟩, 19) := ⟨⟨by decide +kernel, by decide +kernel⟩, List.mem_of_getElem? (i := 475) (by decide +kernel), List.mem_of_getElem? (i := 604) (by decide +kernel), List.mem_of_getElem? (i := 605) (by decide +kernel)⟩
theorem lw_p23 : lw_okq (⟨"SwitchedModulesModel", "isInTheWay", "(II)Z"⟩, 19) := ⟨⟨by decide +kernel, by decide +kernel⟩, List.mem_of_getElem? (i := 475) (by decide +kernel), List.mem_of_getElem? (i := 612) (by decide +kernel), List.mem_of_getElem? (i := 613) (by decide +kernel)⟩
theorem lw_p24 : lw_okq (⟨"SwitchedModulesModel", "pointOf", "(II)I"⟩, 19) := ⟨⟨by decide +kernel, by decide +kernel⟩, List.mem_of_getElem? (i := 475) (by decide +kernel), List.mem_of_getElem? (i := 619) (by decide +kernel), List.mem_of_getElem? (i := 620) (by decide +kernel)⟩
theorem lw_p25 : lw_okq (⟨"SwitchedModulesModel", "sweep", "()I"⟩, 19) := ⟨⟨by decide +kernel, by decide +kernel⟩, List.mem_of_getElem? (i := 475) (by decide +kernel), List.mem_of_getElem? (i := 627) (by decide +kernel), List.mem_of_getElem? (i := 628) (by decide +kernel)⟩
theorem lw_p26 : lw_okq (⟨"SwitchedModulesModel", "mark", "(I)V"⟩, 19) := ⟨⟨by decide +kernel, by decide +kernel⟩, List.mem_of_getElem? (i := 475) (by decide +kernel), List.mem_of_getElem? (i := 631) (by decide +kernel), List.mem_of_getElem? (i := 632) (by decide +kernel)⟩
theorem lw_p27 : lw_okq (⟨"SwitchedModulesModel", "isObject", "(I)Z"⟩, 19) := ⟨⟨by decide +kernel, by decide +kernel⟩, List.mem_of_getElem? (i := 475) (by decide +kernel), List.mem_of_getElem? (i := 635) (by decide +kernel), List.mem_of_getElem? (i := 636) (by decide +kernel)⟩
theorem lw_p28 : lw_okq (⟨"SwitchedModulesModel", "countMarked", "()I"⟩, 19) := ⟨⟨by decide +kernel, by decide +kernel⟩, List.mem_of_getElem? (i := 475) (by decide +kernel), List.mem_of_getElem? (i := 639) (by decide +kernel), List.mem_of_getElem? (i := 640) (by decide +kernel)⟩
theorem lw_p29 : lw_okq (⟨"SwitchedModulesModel", "areMadeOver", "(I)Z"⟩, 19) := ⟨⟨by decide +kernel, by decide +kernel⟩, List.mem_of_getElem? (i := 475) (by decide +kernel), List.mem_of_getElem? (i := 660) (by decide +kernel), List.mem_of_getElem? (i := 661) (by decide +kernel)⟩
theorem lw_p30 : lw_okq (⟨"SwitchedModulesModel", "isMadeOver", "(I)Z"⟩, 19) := ⟨⟨by decide +kernel, by decide +kernel⟩, List.mem_of_getElem? (i := 475) (by decide +kernel), List.mem_of_getElem? (i := 664) (by decide +kernel), List.mem_of_getElem? (i := 665) (by decide +kernel)⟩
theorem lw_p31 : lw_okq (⟨"SwitchedModulesModel", "moveFrames", "()V"⟩, 19) := ⟨⟨by decide +kernel, by decide +kernel⟩, List.mem_of_getElem? (i := 475) (by decide +kernel), List.mem_of_getElem? (i := 668) (by decide +kernel), List.mem_of_getElem? (i := 669) (by decide +kernel)⟩
def lw_privs_2 : List (MethodName × Nat) := [(⟨"SwitchedModulesModel", "clearRules", "(I)V"⟩, 19), (⟨"SwitchedModulesModel", "settle", "()V"⟩, 19), (⟨"SwitchedModulesModel", "isRight", "(II)Z"⟩, 19), (⟨"SwitchedModulesModel", "isField", "(I)Z"⟩, 19), (⟨"SwitchedModulesModel", "isChanged", "(I)Z"⟩, 19), (⟨"SwitchedModulesModel", "isOther", "(I)Z"⟩, 19), (⟨"SwitchedModulesModel", "usesTouched", "(I)Z"⟩, 19), (⟨"SwitchedModulesModel", "isInTheWay", "(II)Z"⟩, 19), (⟨"SwitchedModulesModel", "pointOf", "(II)I"⟩, 19), (⟨"SwitchedModulesModel", "sweep", "()I"⟩, 19), (⟨"SwitchedModulesModel", "mark", "(I)V"⟩, 19), (⟨"SwitchedModulesModel", "isObject", "(I)Z"⟩, 19), (⟨"SwitchedModulesModel", "countMarked", "()I"⟩, 19), (⟨"SwitchedModulesModel", "areMadeOver", "(I)Z"⟩, 19), (⟨"SwitchedModulesModel", "isMadeOver", "(I)Z"⟩, 19), (⟨"SwitchedModulesModel", "moveFrames", "()V"⟩, 19)]
theorem lw_r2 : ∀ q ∈ lw_privs_2, lw_okq q := List.forall_mem_cons.mpr ⟨lw_p16, List.forall_mem_cons.mpr ⟨lw_p17, List.forall_mem_cons.mpr ⟨lw_p18, List.forall_mem_cons.mpr ⟨lw_p19, List.forall_mem_cons.mpr ⟨lw_p20, List.forall_mem_cons.mpr ⟨lw_p21, List.forall_mem_cons.mpr ⟨lw_p22, List.forall_mem_cons.mpr ⟨lw_p23, List.forall_mem_cons.mpr ⟨lw_p24, List.forall_mem_cons.mpr ⟨lw_p25, List.forall_mem_cons.mpr ⟨lw_p26, List.forall_mem_cons.mpr ⟨lw_p27, List.forall_mem_cons.mpr ⟨lw_p28, List.forall_mem_cons.mpr ⟨lw_p29, List.forall_mem_cons.mpr ⟨lw_p30, List.forall_mem_cons.mpr ⟨lw_p31, fun _ h => absurd h List.not_mem_nil⟩⟩⟩⟩⟩⟩⟩⟩⟩⟩⟩⟩⟩⟩⟩⟩
theorem lw_p32 : lw_okq (⟨"SwitchedModulesModel", "push", "(IIII)V"⟩, 19) := ⟨⟨by decide +kernel, by decide +kernel⟩, List.mem_of_getElem? (i := 475) (by decide +kernel), List.mem_of_getElem? (i := 680) (by decide +kernel), List.mem_of_getElem? (i := 681) (by decide +kernel)⟩
theorem lw_p33 : lw_okq (⟨"SwitchedModulesModel", "isTask", "(I)Z"⟩, 19) := ⟨⟨by decide +kernel, by decide +kernel⟩, List.mem_of_getElem? (i := 475) (by decide +kernel), List.mem_of_getElem? (i := 688) (by decide +kernel), List.mem_of_getElem? (i := 689) (by decide +kernel)⟩
theorem lw_p34 : lw_okq (⟨"SwitchedModulesModel", "act", "(I)I"⟩, 19) := ⟨⟨by decide +kernel, by decide +kernel⟩, List.mem_of_getElem? (i := 475) (by decide +kernel), List.mem_of_getElem? (i := 692) (by decide +kernel), List.mem_of_getElem? (i := 693) (by decide +kernel)⟩
theorem lw_p35 : lw_okq (⟨"SwitchedModulesModel", "giveBack", "(II)I"⟩, 19) := ⟨⟨by decide +kernel, by decide +kernel⟩, List.mem_of_getElem? (i := 475) (by decide +kernel), List.mem_of_getElem? (i := 696) (by decide +kernel), List.mem_of_getElem? (i := 697) (by decide +kernel)⟩
theorem lw_p36 : lw_okq (⟨"SwitchedModulesModel", "fault", "(I)I"⟩, 19) := ⟨⟨by decide +kernel, by decide +kernel⟩, List.mem_of_getElem? (i := 475) (by decide +kernel), List.mem_of_getElem? (i := 700) (by decide +kernel), List.mem_of_getElem? (i := 701) (by decide +kernel)⟩
theorem lw_p37 : lw_okq (⟨"SwitchedModulesModel", "create", "(III)I"⟩, 19) := ⟨⟨by decide +kernel, by decide +kernel⟩, List.mem_of_getElem? (i := 475) (by decide +kernel), List.mem_of_getElem? (i := 704) (by decide +kernel), List.mem_of_getElem? (i := 705) (by decide +kernel)⟩
theorem lw_p38 : lw_okq (⟨"SwitchedModulesModel", "make", "(I)I"⟩, 19) := ⟨⟨by decide +kernel, by decide +kernel⟩, List.mem_of_getElem? (i := 475) (by decide +kernel), List.mem_of_getElem? (i := 708) (by decide +kernel), List.mem_of_getElem? (i := 709) (by decide +kernel)⟩
theorem lw_p39 : lw_okq (⟨"SwitchedModulesModel", "free", "()I"⟩, 19) := ⟨⟨by decide +kernel, by decide +kernel⟩, List.mem_of_getElem? (i := 475) (by decide +kernel), List.mem_of_getElem? (i := 712) (by decide +kernel), List.mem_of_getElem? (i := 713) (by decide +kernel)⟩
theorem lw_p40 : lw_okq (⟨"SwitchedModulesModel", "access", "(IIIIII)I"⟩, 19) := ⟨⟨by decide +kernel, by decide +kernel⟩, List.mem_of_getElem? (i := 475) (by decide +kernel), List.mem_of_getElem? (i := 716) (by decide +kernel), List.mem_of_getElem? (i := 717) (by decide +kernel)⟩
theorem lw_p41 : lw_okq (⟨"SwitchedModulesModel", "take", "(I)I"⟩, 19) := ⟨⟨by decide +kernel, by decide +kernel⟩, List.mem_of_getElem? (i := 475) (by decide +kernel), List.mem_of_getElem? (i := 720) (by decide +kernel), List.mem_of_getElem? (i := 721) (by decide +kernel)⟩
def lw_privs_3 : List (MethodName × Nat) := [(⟨"SwitchedModulesModel", "push", "(IIII)V"⟩, 19), (⟨"SwitchedModulesModel", "isTask", "(I)Z"⟩, 19), (⟨"SwitchedModulesModel", "act", "(I)I"⟩, 19), (⟨"SwitchedModulesModel", "giveBack", "(II)I"⟩, 19), (⟨"SwitchedModulesModel", "fault", "(I)I"⟩, 19), (⟨"SwitchedModulesModel", "create", "(III)I"⟩, 19), (⟨"SwitchedModulesModel", "make", "(I)I"⟩, 19), (⟨"SwitchedModulesModel", "free", "()I"⟩, 19), (⟨"SwitchedModulesModel", "access", "(IIIIII)I"⟩, 19), (⟨"SwitchedModulesModel", "take", "(I)I"⟩, 19)]
theorem lw_r3 : ∀ q ∈ lw_privs_3, lw_okq q := List.forall_mem_cons.mpr ⟨lw_p32, List.forall_mem_cons.mpr ⟨lw_p33, List.forall_mem_cons.mpr ⟨lw_p34, List.forall_mem_cons.mpr ⟨lw_p35, List.forall_mem_cons.mpr ⟨lw_p36, List.forall_mem_cons.mpr ⟨lw_p37, List.forall_mem_cons.mpr ⟨lw_p38, List.forall_mem_cons.mpr ⟨lw_p39, List.forall_mem_cons.mpr ⟨lw_p40, List.forall_mem_cons.mpr ⟨lw_p41, fun _ h => absurd h List.not_mem_nil⟩⟩⟩⟩⟩⟩⟩⟩⟩⟩
def lw_privs : List (MethodName × Nat) := lw_privs_1 ++ (lw_privs_2 ++ (lw_privs_3))
def lw_tbl : List Cond := k2_sels lw_privs ++ tables_1
theorem lw_privs_ok : ∀ q ∈ lw_privs, lw_okq q := by
  show ∀ q ∈ lw_privs_1 ++ (lw_privs_2 ++ (lw_privs_3)), lw_okq q
  exact List.forall_mem_append.mpr ⟨lw_r1, List.forall_mem_append.mpr ⟨lw_r2, lw_r3⟩⟩
end
section
def smR_H : String := "SwitchedModules$Heap"
def smF_H : u_T := fun k => match k with
  | 0 => ("SwitchedModules$Heap", "type", "[I", true)
  | 1 => ("SwitchedModules$Heap", "cells", "[I", true)
  | 2 => ("SwitchedModules$Heap", "madeOver", "[I", true)
  | 3 => ("SwitchedModules$Heap", "marked", "[Z", true)
  | 4 => ("SwitchedModules$Heap", "found", "[I", true)
  | _ => ("SwitchedModules$Heap", "foundCount", "I", false)
def smT_H : Nat → FieldType := fun k => match k with
  | 0 => .array .int
  | 1 => .array .int
  | 2 => .array .int
  | 3 => .array .boolean
  | 4 => .array .int
  | _ => .int
theorem smN_H : ∀ a, a < 6 → ∀ b, b < 6 → a ≠ b → (smF_H a).2.1 ≠ (smF_H b).2.1 := by decide +kernel
theorem smO_H : ∀ k, k < 6 → parseFieldDescriptor (smF_H k).2.2.1 = some (smT_H k) := by decide +kernel
def smR_R : String := "SwitchedModules$Rules"
def smF_R : u_T := fun k => match k with
  | 0 => ("SwitchedModules$Rules", "touched", "[Z", true)
  | 1 => ("SwitchedModules$Rules", "kind", "[I", true)
  | 2 => ("SwitchedModules$Rules", "from", "[I", true)
  | _ => ("SwitchedModules$Rules", "k", "[I", true)
def smT_R : Nat → FieldType := fun k => match k with
  | 0 => .array .boolean
  | 1 => .array .int
  | 2 => .array .int
  | _ => .array .int
theorem smN_R : ∀ a, a < 4 → ∀ b, b < 4 → a ≠ b → (smF_R a).2.1 ≠ (smF_R b).2.1 := by decide +kernel
theorem smO_R : ∀ k, k < 4 → parseFieldDescriptor (smF_R k).2.2.1 = some (smT_R k) := by decide +kernel
def smR_T : String := "SwitchedModules$Task"
def smF_T : u_T := fun k => match k with
  | 0 => ("SwitchedModules$Task", "procedure", "[I", true)
  | 1 => ("SwitchedModules$Task", "place", "[I", true)
  | 2 => ("SwitchedModules$Task", "locals", "[I", true)
  | 3 => ("SwitchedModules$Task", "answerLocal", "[I", true)
  | 4 => ("SwitchedModules$Task", "queue", "[I", true)
  | 5 => ("SwitchedModules$Task", "depth", "I", false)
  | 6 => ("SwitchedModules$Task", "queued", "I", false)
  | 7 => ("SwitchedModules$Task", "condition", "I", false)
  | _ => ("SwitchedModules$Task", "outcome", "I", false)
def smT_T : Nat → FieldType := fun k => match k with
  | 0 => .array .int
  | 1 => .array .int
  | 2 => .array .int
  | 3 => .array .int
  | 4 => .array .int
  | 5 => .int
  | 6 => .int
  | 7 => .int
  | _ => .int
theorem smN_T : ∀ a, a < 9 → ∀ b, b < 9 → a ≠ b → (smF_T a).2.1 ≠ (smF_T b).2.1 := by decide +kernel
theorem smO_T : ∀ k, k < 9 → parseFieldDescriptor (smF_T k).2.2.1 = some (smT_T k) := by decide +kernel
def smR_V : String := "SwitchedModules$Version"
def smF_V : u_T := fun k => match k with
  | 0 => ("SwitchedModules$Version", "length", "[I", true)
  | 1 => ("SwitchedModules$Version", "op", "[I", true)
  | 2 => ("SwitchedModules$Version", "a", "[I", true)
  | 3 => ("SwitchedModules$Version", "b", "[I", true)
  | 4 => ("SwitchedModules$Version", "c", "[I", true)
  | _ => ("SwitchedModules$Version", "fieldCount", "[I", true)
def smT_V : Nat → FieldType := fun k => match k with
  | 0 => .array .int
  | 1 => .array .int
  | 2 => .array .int
  | 3 => .array .int
  | 4 => .array .int
  | _ => .array .int
theorem smN_V : ∀ a, a < 6 → ∀ b, b < 6 → a ≠ b → (smF_V a).2.1 ≠ (smF_V b).2.1 := by decide +kernel
theorem smO_V : ∀ k, k < 6 → parseFieldDescriptor (smF_V k).2.2.1 = some (smT_V k) := by decide +kernel
def smR_S : String := "SwitchedModules"
def smF_S : u_T := fun k => match k with
  | 0 => ("SwitchedModules", "present", "LSwitchedModules$Version;", true)
  | 1 => ("SwitchedModules", "draft", "LSwitchedModules$Version;", true)
  | 2 => ("SwitchedModules", "rules", "LSwitchedModules$Rules;", true)
  | 3 => ("SwitchedModules", "objects", "LSwitchedModules$Heap;", true)
  | 4 => ("SwitchedModules", "globals", "[I", true)
  | 5 => ("SwitchedModules", "tasks", "[LSwitchedModules$Task;", true)
  | 6 => ("SwitchedModules", "begun", "I", false)
  | 7 => ("SwitchedModules", "number", "I", false)
  | _ => ("SwitchedModules", "staged", "Z", false)
def smT_S : Nat → FieldType := fun k => match k with
  | 0 => .object "SwitchedModules$Version"
  | 1 => .object "SwitchedModules$Version"
  | 2 => .object "SwitchedModules$Rules"
  | 3 => .object "SwitchedModules$Heap"
  | 4 => .array .int
  | 5 => .array (.object "SwitchedModules$Task")
  | 6 => .int
  | 7 => .int
  | _ => .boolean
theorem smN_S : ∀ a, a < 9 → ∀ b, b < 9 → a ≠ b → (smF_S a).2.1 ≠ (smF_S b).2.1 := by decide +kernel
theorem smO_S : ∀ k, k < 9 → parseFieldDescriptor (smF_S k).2.2.1 = some (smT_S k) := by decide +kernel
def smR_M : String := "SwitchedModulesModel"
def smF_M : u_T := fun k => match k with
  | 0 => ("SwitchedModulesModel", "code", "[I", true)
  | 1 => ("SwitchedModulesModel", "lengths", "[I", true)
  | 2 => ("SwitchedModulesModel", "widths", "[I", true)
  | 3 => ("SwitchedModulesModel", "rules", "[I", true)
  | 4 => ("SwitchedModulesModel", "touched", "[Z", true)
  | 5 => ("SwitchedModulesModel", "staged", "Z", false)
  | 6 => ("SwitchedModulesModel", "version", "I", false)
  | 7 => ("SwitchedModulesModel", "globals", "[I", true)
  | 8 => ("SwitchedModulesModel", "types", "[I", true)
  | 9 => ("SwitchedModulesModel", "fields", "[I", true)
  | 10 => ("SwitchedModulesModel", "saved", "[I", true)
  | 11 => ("SwitchedModulesModel", "marked", "[Z", true)
  | 12 => ("SwitchedModulesModel", "tasks", "I", false)
  | 13 => ("SwitchedModulesModel", "states", "[I", true)
  | 14 => ("SwitchedModulesModel", "results", "[I", true)
  | 15 => ("SwitchedModulesModel", "depths", "[I", true)
  | 16 => ("SwitchedModulesModel", "frames", "[I", true)
  | 17 => ("SwitchedModulesModel", "queued", "[I", true)
  | _ => ("SwitchedModulesModel", "queues", "[I", true)
def smT_M : Nat → FieldType := fun k => match k with
  | 0 => .array .int
  | 1 => .array .int
  | 2 => .array .int
  | 3 => .array .int
  | 4 => .array .boolean
  | 5 => .boolean
  | 6 => .int
  | 7 => .array .int
  | 8 => .array .int
  | 9 => .array .int
  | 10 => .array .int
  | 11 => .array .boolean
  | 12 => .int
  | 13 => .array .int
  | 14 => .array .int
  | 15 => .array .int
  | 16 => .array .int
  | 17 => .array .int
  | _ => .array .int
theorem smN_M : ∀ a, a < 19 → ∀ b, b < 19 → a ≠ b → (smF_M a).2.1 ≠ (smF_M b).2.1 := by decide +kernel
theorem smO_M : ∀ k, k < 19 → parseFieldDescriptor (smF_M k).2.2.1 = some (smT_M k) := by decide +kernel
def smy_S_init : MethodName := ⟨"SwitchedModules", "<init>", "()V"⟩
def smy_S_word : MethodName := ⟨"SwitchedModules", "word", "(IIIIII)I"⟩
def smy_S_cut : MethodName := ⟨"SwitchedModules", "cut", "(II)Z"⟩
def smy_S_fields : MethodName := ⟨"SwitchedModules", "fields", "(II)Z"⟩
def smy_S_rule : MethodName := ⟨"SwitchedModules", "rule", "(IIIII)I"⟩
def smy_S_reset : MethodName := ⟨"SwitchedModules", "reset", "()Z"⟩
def smy_S_stage : MethodName := ⟨"SwitchedModules", "stage", "()I"⟩
def smy_S_withdraw : MethodName := ⟨"SwitchedModules", "withdraw", "()Z"⟩
def smy_S_changed : MethodName := ⟨"SwitchedModules", "changed", "(I)Z"⟩
def smy_S_blocker : MethodName := ⟨"SwitchedModules", "blocker", "(I)I"⟩
def smy_S_attempt : MethodName := ⟨"SwitchedModules", "attempt", "(I)I"⟩
def smy_S_version : MethodName := ⟨"SwitchedModules", "version", "()I"⟩
def smy_S_spawn : MethodName := ⟨"SwitchedModules", "spawn", "(II)I"⟩
def smy_S_step : MethodName := ⟨"SwitchedModules", "step", "(II)I"⟩
def smy_S_send : MethodName := ⟨"SwitchedModules", "send", "(II)I"⟩
def smy_S_state : MethodName := ⟨"SwitchedModules", "state", "(I)I"⟩
def smy_S_result : MethodName := ⟨"SwitchedModules", "result", "(I)I"⟩
def smy_S_frames : MethodName := ⟨"SwitchedModules", "frames", "(I)I"⟩
def smy_S_frame : MethodName := ⟨"SwitchedModules", "frame", "(III)I"⟩
def smy_S_global : MethodName := ⟨"SwitchedModules", "global", "(I)I"⟩
def smy_S_typeOf : MethodName := ⟨"SwitchedModules", "typeOf", "(I)I"⟩
def smy_S_field : MethodName := ⟨"SwitchedModules", "field", "(II)I"⟩
def smy_S_heap : MethodName := ⟨"SwitchedModules", "heap", "()I"⟩
def smy_S_collect : MethodName := ⟨"SwitchedModules", "collect", "()I"⟩
def smy_S_isWithin : MethodName := ⟨"SwitchedModules", "isWithin", "(II)Z"⟩
def smy_S_isTask : MethodName := ⟨"SwitchedModules", "isTask", "(I)Z"⟩
def smy_S_draftChanges : MethodName := ⟨"SwitchedModules", "draftChanges", "(I)Z"⟩
def smy_S_firstTaskInTheWay : MethodName := ⟨"SwitchedModules", "firstTaskInTheWay", "(I)I"⟩
def smy_S_isInTheWay : MethodName := ⟨"SwitchedModules", "isInTheWay", "(LSwitchedModules$Task;)Z"⟩
def smy_S_placeInDraft : MethodName := ⟨"SwitchedModules", "placeInDraft", "(LSwitchedModules$Task;)I"⟩
def smy_S_takeThePlace : MethodName := ⟨"SwitchedModules", "takeThePlace", "()V"⟩
def smy_S_moveFrames : MethodName := ⟨"SwitchedModules", "moveFrames", "()V"⟩
def smy_S_dropUnreachable : MethodName := ⟨"SwitchedModules", "dropUnreachable", "()I"⟩
def smy_S_perform : MethodName := ⟨"SwitchedModules", "perform", "(LSwitchedModules$Task;)V"⟩
def smy_S_call : MethodName := ⟨"SwitchedModules", "call", "(LSwitchedModules$Task;III)V"⟩
def smy_S_makeObject : MethodName := ⟨"SwitchedModules", "makeObject", "(LSwitchedModules$Task;II)V"⟩
def smy_S_get : MethodName := ⟨"SwitchedModules", "get", "(LSwitchedModules$Task;III)V"⟩
def smy_S_put : MethodName := ⟨"SwitchedModules", "put", "(LSwitchedModules$Task;III)V"⟩
def smy_M_init : MethodName := ⟨"SwitchedModulesModel", "<init>", "()V"⟩
def smy_M_isProcedure : MethodName := ⟨"SwitchedModulesModel", "isProcedure", "(I)Z"⟩
def smy_M_isType : MethodName := ⟨"SwitchedModulesModel", "isType", "(I)Z"⟩
def smy_M_isLocal : MethodName := ⟨"SwitchedModulesModel", "isLocal", "(I)Z"⟩
def smy_M_word : MethodName := ⟨"SwitchedModulesModel", "word", "(IIIIII)I"⟩
def smy_M_cut : MethodName := ⟨"SwitchedModulesModel", "cut", "(II)Z"⟩
def smy_M_clearRules : MethodName := ⟨"SwitchedModulesModel", "clearRules", "(I)V"⟩
def smy_M_fields : MethodName := ⟨"SwitchedModulesModel", "fields", "(II)Z"⟩
def smy_M_rule : MethodName := ⟨"SwitchedModulesModel", "rule", "(IIIII)I"⟩
def smy_M_settle : MethodName := ⟨"SwitchedModulesModel", "settle", "()V"⟩
def smy_M_reset : MethodName := ⟨"SwitchedModulesModel", "reset", "()Z"⟩
def smy_M_isField : MethodName := ⟨"SwitchedModulesModel", "isField", "(I)Z"⟩
def smy_M_isRight : MethodName := ⟨"SwitchedModulesModel", "isRight", "(II)Z"⟩
def smy_M_stage : MethodName := ⟨"SwitchedModulesModel", "stage", "()I"⟩
def smy_M_withdraw : MethodName := ⟨"SwitchedModulesModel", "withdraw", "()Z"⟩
def smy_M_isOther : MethodName := ⟨"SwitchedModulesModel", "isOther", "(I)Z"⟩
def smy_M_usesTouched : MethodName := ⟨"SwitchedModulesModel", "usesTouched", "(I)Z"⟩
def smy_M_isChanged : MethodName := ⟨"SwitchedModulesModel", "isChanged", "(I)Z"⟩
def smy_M_changed : MethodName := ⟨"SwitchedModulesModel", "changed", "(I)Z"⟩
def smy_M_pointOf : MethodName := ⟨"SwitchedModulesModel", "pointOf", "(II)I"⟩
def smy_M_frameAt : MethodName := ⟨"SwitchedModulesModel", "frameAt", "(II)I"⟩
def smy_M_isInTheWay : MethodName := ⟨"SwitchedModulesModel", "isInTheWay", "(II)Z"⟩
def smy_M_blocker : MethodName := ⟨"SwitchedModulesModel", "blocker", "(I)I"⟩
def smy_M_isObject : MethodName := ⟨"SwitchedModulesModel", "isObject", "(I)Z"⟩
def smy_M_mark : MethodName := ⟨"SwitchedModulesModel", "mark", "(I)V"⟩
def smy_M_countMarked : MethodName := ⟨"SwitchedModulesModel", "countMarked", "()I"⟩
def smy_M_sweep : MethodName := ⟨"SwitchedModulesModel", "sweep", "()I"⟩
def smy_M_collect : MethodName := ⟨"SwitchedModulesModel", "collect", "()I"⟩
def smy_M_free : MethodName := ⟨"SwitchedModulesModel", "free", "()I"⟩
def smy_M_make : MethodName := ⟨"SwitchedModulesModel", "make", "(I)I"⟩
def smy_M_typeOf : MethodName := ⟨"SwitchedModulesModel", "typeOf", "(I)I"⟩
def smy_M_field : MethodName := ⟨"SwitchedModulesModel", "field", "(II)I"⟩
def smy_M_heap : MethodName := ⟨"SwitchedModulesModel", "heap", "()I"⟩
def smy_M_isMadeOver : MethodName := ⟨"SwitchedModulesModel", "isMadeOver", "(I)Z"⟩
def smy_M_areMadeOver : MethodName := ⟨"SwitchedModulesModel", "areMadeOver", "(I)Z"⟩
def smy_M_moveFrames : MethodName := ⟨"SwitchedModulesModel", "moveFrames", "()V"⟩
def smy_M_attempt : MethodName := ⟨"SwitchedModulesModel", "attempt", "(I)I"⟩
def smy_M_version : MethodName := ⟨"SwitchedModulesModel", "version", "()I"⟩
def smy_M_isTask : MethodName := ⟨"SwitchedModulesModel", "isTask", "(I)Z"⟩
def smy_M_push : MethodName := ⟨"SwitchedModulesModel", "push", "(IIII)V"⟩
def smy_M_spawn : MethodName := ⟨"SwitchedModulesModel", "spawn", "(II)I"⟩
def smy_M_fault : MethodName := ⟨"SwitchedModulesModel", "fault", "(I)I"⟩
def smy_M_giveBack : MethodName := ⟨"SwitchedModulesModel", "giveBack", "(II)I"⟩
def smy_M_take : MethodName := ⟨"SwitchedModulesModel", "take", "(I)I"⟩
def smy_M_act : MethodName := ⟨"SwitchedModulesModel", "act", "(I)I"⟩
def smy_M_create : MethodName := ⟨"SwitchedModulesModel", "create", "(III)I"⟩
def smy_M_access : MethodName := ⟨"SwitchedModulesModel", "access", "(IIIIII)I"⟩
def smy_M_step : MethodName := ⟨"SwitchedModulesModel", "step", "(II)I"⟩
def smy_M_send : MethodName := ⟨"SwitchedModulesModel", "send", "(II)I"⟩
def smy_M_state : MethodName := ⟨"SwitchedModulesModel", "state", "(I)I"⟩
def smy_M_result : MethodName := ⟨"SwitchedModulesModel", "result", "(I)I"⟩
def smy_M_frames : MethodName := ⟨"SwitchedModulesModel", "frames", "(I)I"⟩
def smy_M_frame : MethodName := ⟨"SwitchedModulesModel", "frame", "(III)I"⟩
def smy_M_global : MethodName := ⟨"SwitchedModulesModel", "global", "(I)I"⟩
def smy_H_init : MethodName := ⟨"SwitchedModules$Heap", "<init>", "()V"⟩
def smy_H_has : MethodName := ⟨"SwitchedModules$Heap", "has", "(I)Z"⟩
def smy_H_count : MethodName := ⟨"SwitchedModules$Heap", "count", "()I"⟩
def smy_H_leastFree : MethodName := ⟨"SwitchedModules$Heap", "leastFree", "()I"⟩
def smy_H_begin : MethodName := ⟨"SwitchedModules$Heap", "begin", "(II)V"⟩
def smy_H_cellOf : MethodName := ⟨"SwitchedModules$Heap", "cellOf", "(II)I"⟩
def smy_H_unmarkAll : MethodName := ⟨"SwitchedModules$Heap", "unmarkAll", "()V"⟩
def smy_H_mark : MethodName := ⟨"SwitchedModules$Heap", "mark", "(I)V"⟩
def smy_H_markFromMarked : MethodName := ⟨"SwitchedModules$Heap", "markFromMarked", "()V"⟩
def smy_H_dropUnmarked : MethodName := ⟨"SwitchedModules$Heap", "dropUnmarked", "()I"⟩
def smy_H_makeOver : MethodName := ⟨"SwitchedModules$Heap", "makeOver", "(LSwitchedModules$Rules;LSwitchedModules$Version;I)Z"⟩
def smy_H_makeOverOne : MethodName := ⟨"SwitchedModules$Heap", "makeOverOne", "(ILSwitchedModules$Rules;)Z"⟩
def smy_R_init : MethodName := ⟨"SwitchedModules$Rules", "<init>", "()V"⟩
def smy_R_write : MethodName := ⟨"SwitchedModules$Rules", "write", "(IIIII)V"⟩
def smy_R_forgetType : MethodName := ⟨"SwitchedModules$Rules", "forgetType", "(I)V"⟩
def smy_R_forgetAll : MethodName := ⟨"SwitchedModules$Rules", "forgetAll", "()V"⟩
def smy_R_firstWithoutSource : MethodName := ⟨"SwitchedModules$Rules", "firstWithoutSource", "(LSwitchedModules$Version;LSwitchedModules$Version;)I"⟩
def smy_R_isFaulty : MethodName := ⟨"SwitchedModules$Rules", "isFaulty", "(I[II)Z"⟩
def smy_R_valueOf : MethodName := ⟨"SwitchedModules$Rules", "valueOf", "(I[II)I"⟩
def smy_T_init : MethodName := ⟨"SwitchedModules$Task", "<init>", "()V"⟩
def smy_T_local : MethodName := ⟨"SwitchedModules$Task", "local", "(I)I"⟩
def smy_T_setLocal : MethodName := ⟨"SwitchedModules$Task", "setLocal", "(II)V"⟩
def smy_T_push : MethodName := ⟨"SwitchedModules$Task", "push", "(III)V"⟩
def smy_T_giveBack : MethodName := ⟨"SwitchedModules$Task", "giveBack", "(I)V"⟩
def smy_T_fail : MethodName := ⟨"SwitchedModules$Task", "fail", "()V"⟩
def smy_T_enqueue : MethodName := ⟨"SwitchedModules$Task", "enqueue", "(I)V"⟩
def smy_T_takeOldest : MethodName := ⟨"SwitchedModules$Task", "takeOldest", "()I"⟩
def smy_V_init : MethodName := ⟨"SwitchedModules$Version", "<init>", "()V"⟩
def smy_V_at : MethodName := ⟨"SwitchedModules$Version", "at", "(II)I"⟩
def smy_V_hasProcedure : MethodName := ⟨"SwitchedModules$Version", "hasProcedure", "(I)Z"⟩
def smy_V_write : MethodName := ⟨"SwitchedModules$Version", "write", "(IIIIII)V"⟩
def smy_V_copyFrom : MethodName := ⟨"SwitchedModules$Version", "copyFrom", "(LSwitchedModules$Version;)V"⟩
def smy_V_hasSameProcedure : MethodName := ⟨"SwitchedModules$Version", "hasSameProcedure", "(LSwitchedModules$Version;I)Z"⟩
def smy_V_usesTouchedType : MethodName := ⟨"SwitchedModules$Version", "usesTouchedType", "(I[Z)Z"⟩
def smy_V_typeUsed : MethodName := ⟨"SwitchedModules$Version", "typeUsed", "(I)I"⟩
def smy_V_firstPoint : MethodName := ⟨"SwitchedModules$Version", "firstPoint", "(II)I"⟩
def smy_V_firstWrongWord : MethodName := ⟨"SwitchedModules$Version", "firstWrongWord", "()I"⟩
def smy_V_isRight : MethodName := ⟨"SwitchedModules$Version", "isRight", "(II)Z"⟩
def smy_V_isLocal : MethodName := ⟨"SwitchedModules$Version", "isLocal", "(I)Z"⟩
def smy_V_isFieldOfType : MethodName := ⟨"SwitchedModules$Version", "isFieldOfType", "(I)Z"⟩
end
section
theorem smd_S_init_0 : decode prog_1_method_1_code 0 = .ok (.aload_n 0, 1) := by decide +kernel
theorem smd_S_init_1 : decode prog_1_method_1_code 1 = .ok (.invokespecial 1, 3) := by decide +kernel
theorem smd_S_init_4 : decode prog_1_method_1_code 4 = .ok (.aload_n 0, 1) := by decide +kernel
theorem smd_S_init_5 : decode prog_1_method_1_code 5 = .ok (.new 7, 3) := by decide +kernel
theorem smd_S_init_8 : decode prog_1_method_1_code 8 = .ok (.dup, 1) := by decide +kernel
theorem smd_S_init_9 : decode prog_1_method_1_code 9 = .ok (.invokespecial 9, 3) := by decide +kernel
theorem smd_S_init_12 : decode prog_1_method_1_code 12 = .ok (.putfield 10, 3) := by decide +kernel
theorem smd_S_init_15 : decode prog_1_method_1_code 15 = .ok (.aload_n 0, 1) := by decide +kernel
theorem smd_S_init_16 : decode prog_1_method_1_code 16 = .ok (.new 7, 3) := by decide +kernel
theorem smd_S_init_19 : decode prog_1_method_1_code 19 = .ok (.dup, 1) := by decide +kernel
theorem smd_S_init_20 : decode prog_1_method_1_code 20 = .ok (.invokespecial 9, 3) := by decide +kernel
theorem smd_S_init_23 : decode prog_1_method_1_code 23 = .ok (.putfield 16, 3) := by decide +kernel
theorem smd_S_init_26 : decode prog_1_method_1_code 26 = .ok (.aload_n 0, 1) := by decide +kernel
theorem smd_S_init_27 : decode prog_1_method_1_code 27 = .ok (.new 19, 3) := by decide +kernel
theorem smd_S_init_30 : decode prog_1_method_1_code 30 = .ok (.dup, 1) := by decide +kernel
theorem smd_S_init_31 : decode prog_1_method_1_code 31 = .ok (.invokespecial 21, 3) := by decide +kernel
theorem smd_S_init_34 : decode prog_1_method_1_code 34 = .ok (.putfield 22, 3) := by decide +kernel
theorem smd_S_init_37 : decode prog_1_method_1_code 37 = .ok (.aload_n 0, 1) := by decide +kernel
theorem smd_S_init_38 : decode prog_1_method_1_code 38 = .ok (.new 26, 3) := by decide +kernel
theorem smd_S_init_41 : decode prog_1_method_1_code 41 = .ok (.dup, 1) := by decide +kernel
theorem smd_S_init_42 : decode prog_1_method_1_code 42 = .ok (.invokespecial 28, 3) := by decide +kernel
theorem smd_S_init_45 : decode prog_1_method_1_code 45 = .ok (.putfield 29, 3) := by decide +kernel
theorem smd_S_init_48 : decode prog_1_method_1_code 48 = .ok (.aload_n 0, 1) := by decide +kernel
theorem smd_S_init_49 : decode prog_1_method_1_code 49 = .ok (.iconst 4, 1) := by decide +kernel
theorem smd_S_init_50 : decode prog_1_method_1_code 50 = .ok (.newarray .int, 2) := by decide +kernel
theorem smd_S_init_52 : decode prog_1_method_1_code 52 = .ok (.putfield 33, 3) := by decide +kernel
theorem smd_S_init_55 : decode prog_1_method_1_code 55 = .ok (.aload_n 0, 1) := by decide +kernel
theorem smd_S_init_56 : decode prog_1_method_1_code 56 = .ok (.bipush 6, 2) := by decide +kernel
theorem smd_S_init_58 : decode prog_1_method_1_code 58 = .ok (.anewarray 37, 3) := by decide +kernel
theorem smd_S_init_61 : decode prog_1_method_1_code 61 = .ok (.putfield 39, 3) := by decide +kernel
theorem smd_S_init_64 : decode prog_1_method_1_code 64 = .ok (.iconst 0, 1) := by decide +kernel
theorem smd_S_init_65 : decode prog_1_method_1_code 65 = .ok (.istore_n 1, 1) := by decide +kernel
theorem smd_S_init_66 : decode prog_1_method_1_code 66 = .ok (.iload_n 1, 1) := by decide +kernel
theorem smd_S_init_67 : decode prog_1_method_1_code 67 = .ok (.bipush 6, 2) := by decide +kernel
theorem smd_S_init_69 : decode prog_1_method_1_code 69 = .ok (.if_icmp .ge 22, 3) := by decide +kernel
theorem smd_S_init_72 : decode prog_1_method_1_code 72 = .ok (.aload_n 0, 1) := by decide +kernel
theorem smd_S_init_73 : decode prog_1_method_1_code 73 = .ok (.getfield 39, 3) := by decide +kernel
theorem smd_S_init_76 : decode prog_1_method_1_code 76 = .ok (.iload_n 1, 1) := by decide +kernel
theorem smd_S_init_77 : decode prog_1_method_1_code 77 = .ok (.new 37, 3) := by decide +kernel
theorem smd_S_init_80 : decode prog_1_method_1_code 80 = .ok (.dup, 1) := by decide +kernel
theorem smd_S_init_81 : decode prog_1_method_1_code 81 = .ok (.invokespecial 43, 3) := by decide +kernel
theorem smd_S_init_84 : decode prog_1_method_1_code 84 = .ok (.aastore, 1) := by decide +kernel
theorem smd_S_init_85 : decode prog_1_method_1_code 85 = .ok (.iinc 1 1, 3) := by decide +kernel
theorem smd_S_init_88 : decode prog_1_method_1_code 88 = .ok (.goto (-22), 3) := by decide +kernel
theorem smd_S_init_91 : decode prog_1_method_1_code 91 = .ok (.return_, 1) := by decide +kernel
theorem smd_S_word_0 : decode prog_1_method_2_code 0 = .ok (.iload_n 1, 1) := by decide +kernel
theorem smd_S_word_1 : decode prog_1_method_2_code 1 = .ok (.bipush 6, 2) := by decide +kernel
theorem smd_S_word_3 : decode prog_1_method_2_code 3 = .ok (.invokestatic 44, 3) := by decide +kernel
theorem smd_S_word_6 : decode prog_1_method_2_code 6 = .ok (.ifCond .eq 26, 3) := by decide +kernel
theorem smd_S_word_9 : decode prog_1_method_2_code 9 = .ok (.iload_n 2, 1) := by decide +kernel
theorem smd_S_word_10 : decode prog_1_method_2_code 10 = .ok (.ifCond .lt 22, 3) := by decide +kernel
theorem smd_S_word_13 : decode prog_1_method_2_code 13 = .ok (.iload_n 2, 1) := by decide +kernel
theorem smd_S_word_14 : decode prog_1_method_2_code 14 = .ok (.aload_n 0, 1) := by decide +kernel
theorem smd_S_word_15 : decode prog_1_method_2_code 15 = .ok (.getfield 16, 3) := by decide +kernel
theorem smd_S_word_18 : decode prog_1_method_2_code 18 = .ok (.getfield 48, 3) := by decide +kernel
theorem smd_S_word_21 : decode prog_1_method_2_code 21 = .ok (.iload_n 1, 1) := by decide +kernel
theorem smd_S_word_22 : decode prog_1_method_2_code 22 = .ok (.iaload, 1) := by decide +kernel
theorem smd_S_word_23 : decode prog_1_method_2_code 23 = .ok (.if_icmp .gt 9, 3) := by decide +kernel
theorem smd_S_word_26 : decode prog_1_method_2_code 26 = .ok (.iload_n 2, 1) := by decide +kernel
theorem smd_S_word_27 : decode prog_1_method_2_code 27 = .ok (.bipush 12, 2) := by decide +kernel
theorem smd_S_word_29 : decode prog_1_method_2_code 29 = .ok (.if_icmp .ne 5, 3) := by decide +kernel
theorem smd_S_word_32 : decode prog_1_method_2_code 32 = .ok (.iconst (-1), 1) := by decide +kernel
theorem smd_S_word_33 : decode prog_1_method_2_code 33 = .ok (.ireturn, 1) := by decide +kernel
theorem smd_S_word_34 : decode prog_1_method_2_code 34 = .ok (.aload_n 0, 1) := by decide +kernel
theorem smd_S_word_35 : decode prog_1_method_2_code 35 = .ok (.getfield 51, 3) := by decide +kernel
theorem smd_S_word_38 : decode prog_1_method_2_code 38 = .ok (.ifCond .eq 6, 3) := by decide +kernel
theorem smd_S_word_41 : decode prog_1_method_2_code 41 = .ok (.bipush (-2), 2) := by decide +kernel
theorem smd_S_word_43 : decode prog_1_method_2_code 43 = .ok (.ireturn, 1) := by decide +kernel
theorem smd_S_word_44 : decode prog_1_method_2_code 44 = .ok (.aload_n 0, 1) := by decide +kernel
theorem smd_S_word_45 : decode prog_1_method_2_code 45 = .ok (.getfield 16, 3) := by decide +kernel
theorem smd_S_word_48 : decode prog_1_method_2_code 48 = .ok (.iload_n 1, 1) := by decide +kernel
theorem smd_S_word_49 : decode prog_1_method_2_code 49 = .ok (.iload_n 2, 1) := by decide +kernel
theorem smd_S_word_50 : decode prog_1_method_2_code 50 = .ok (.iload_n 3, 1) := by decide +kernel
theorem smd_S_word_51 : decode prog_1_method_2_code 51 = .ok (.iload 4, 2) := by decide +kernel
theorem smd_S_word_53 : decode prog_1_method_2_code 53 = .ok (.iload 5, 2) := by decide +kernel
theorem smd_S_word_55 : decode prog_1_method_2_code 55 = .ok (.iload 6, 2) := by decide +kernel
theorem smd_S_word_57 : decode prog_1_method_2_code 57 = .ok (.invokevirtual 55, 3) := by decide +kernel
theorem smd_S_word_60 : decode prog_1_method_2_code 60 = .ok (.aload_n 0, 1) := by decide +kernel
theorem smd_S_word_61 : decode prog_1_method_2_code 61 = .ok (.getfield 16, 3) := by decide +kernel
theorem smd_S_word_64 : decode prog_1_method_2_code 64 = .ok (.getfield 48, 3) := by decide +kernel
theorem smd_S_word_67 : decode prog_1_method_2_code 67 = .ok (.iload_n 1, 1) := by decide +kernel
theorem smd_S_word_68 : decode prog_1_method_2_code 68 = .ok (.iaload, 1) := by decide +kernel
theorem smd_S_word_69 : decode prog_1_method_2_code 69 = .ok (.ireturn, 1) := by decide +kernel
theorem smd_S_cut_0 : decode prog_1_method_3_code 0 = .ok (.iload_n 1, 1) := by decide +kernel
theorem smd_S_cut_1 : decode prog_1_method_3_code 1 = .ok (.bipush 6, 2) := by decide +kernel
theorem smd_S_cut_3 : decode prog_1_method_3_code 3 = .ok (.invokestatic 44, 3) := by decide +kernel
theorem smd_S_cut_6 : decode prog_1_method_3_code 6 = .ok (.ifCond .eq 27, 3) := by decide +kernel
theorem smd_S_cut_9 : decode prog_1_method_3_code 9 = .ok (.iload_n 2, 1) := by decide +kernel
theorem smd_S_cut_10 : decode prog_1_method_3_code 10 = .ok (.ifCond .lt 23, 3) := by decide +kernel
theorem smd_S_cut_13 : decode prog_1_method_3_code 13 = .ok (.iload_n 2, 1) := by decide +kernel
theorem smd_S_cut_14 : decode prog_1_method_3_code 14 = .ok (.aload_n 0, 1) := by decide +kernel
theorem smd_S_cut_15 : decode prog_1_method_3_code 15 = .ok (.getfield 16, 3) := by decide +kernel
theorem smd_S_cut_18 : decode prog_1_method_3_code 18 = .ok (.getfield 48, 3) := by decide +kernel
theorem smd_S_cut_21 : decode prog_1_method_3_code 21 = .ok (.iload_n 1, 1) := by decide +kernel
theorem smd_S_cut_22 : decode prog_1_method_3_code 22 = .ok (.iaload, 1) := by decide +kernel
theorem smd_S_cut_23 : decode prog_1_method_3_code 23 = .ok (.if_icmp .gt 10, 3) := by decide +kernel
theorem smd_S_cut_26 : decode prog_1_method_3_code 26 = .ok (.aload_n 0, 1) := by decide +kernel
theorem smd_S_cut_27 : decode prog_1_method_3_code 27 = .ok (.getfield 51, 3) := by decide +kernel
theorem smd_S_cut_30 : decode prog_1_method_3_code 30 = .ok (.ifCond .eq 5, 3) := by decide +kernel
theorem smd_S_cut_33 : decode prog_1_method_3_code 33 = .ok (.iconst 0, 1) := by decide +kernel
theorem smd_S_cut_34 : decode prog_1_method_3_code 34 = .ok (.ireturn, 1) := by decide +kernel
theorem smd_S_cut_35 : decode prog_1_method_3_code 35 = .ok (.aload_n 0, 1) := by decide +kernel
theorem smd_S_cut_36 : decode prog_1_method_3_code 36 = .ok (.getfield 16, 3) := by decide +kernel
theorem smd_S_cut_39 : decode prog_1_method_3_code 39 = .ok (.getfield 48, 3) := by decide +kernel
theorem smd_S_cut_42 : decode prog_1_method_3_code 42 = .ok (.iload_n 1, 1) := by decide +kernel
theorem smd_S_cut_43 : decode prog_1_method_3_code 43 = .ok (.iload_n 2, 1) := by decide +kernel
theorem smd_S_cut_44 : decode prog_1_method_3_code 44 = .ok (.iastore, 1) := by decide +kernel
theorem smd_S_cut_45 : decode prog_1_method_3_code 45 = .ok (.iconst 1, 1) := by decide +kernel
theorem smd_S_cut_46 : decode prog_1_method_3_code 46 = .ok (.ireturn, 1) := by decide +kernel
theorem smd_S_fields_0 : decode prog_1_method_4_code 0 = .ok (.iload_n 1, 1) := by decide +kernel
theorem smd_S_fields_1 : decode prog_1_method_4_code 1 = .ok (.iconst 3, 1) := by decide +kernel
theorem smd_S_fields_2 : decode prog_1_method_4_code 2 = .ok (.invokestatic 44, 3) := by decide +kernel
theorem smd_S_fields_5 : decode prog_1_method_4_code 5 = .ok (.ifCond .eq 19, 3) := by decide +kernel
theorem smd_S_fields_8 : decode prog_1_method_4_code 8 = .ok (.iload_n 2, 1) := by decide +kernel
theorem smd_S_fields_9 : decode prog_1_method_4_code 9 = .ok (.ifCond .lt 15, 3) := by decide +kernel
theorem smd_S_fields_12 : decode prog_1_method_4_code 12 = .ok (.iload_n 2, 1) := by decide +kernel
theorem smd_S_fields_13 : decode prog_1_method_4_code 13 = .ok (.iconst 4, 1) := by decide +kernel
theorem smd_S_fields_14 : decode prog_1_method_4_code 14 = .ok (.if_icmp .gt 10, 3) := by decide +kernel
theorem smd_S_fields_17 : decode prog_1_method_4_code 17 = .ok (.aload_n 0, 1) := by decide +kernel
theorem smd_S_fields_18 : decode prog_1_method_4_code 18 = .ok (.getfield 51, 3) := by decide +kernel
theorem smd_S_fields_21 : decode prog_1_method_4_code 21 = .ok (.ifCond .eq 5, 3) := by decide +kernel
theorem smd_S_fields_24 : decode prog_1_method_4_code 24 = .ok (.iconst 0, 1) := by decide +kernel
theorem smd_S_fields_25 : decode prog_1_method_4_code 25 = .ok (.ireturn, 1) := by decide +kernel
theorem smd_S_fields_26 : decode prog_1_method_4_code 26 = .ok (.aload_n 0, 1) := by decide +kernel
theorem smd_S_fields_27 : decode prog_1_method_4_code 27 = .ok (.getfield 16, 3) := by decide +kernel
theorem smd_S_fields_30 : decode prog_1_method_4_code 30 = .ok (.getfield 59, 3) := by decide +kernel
theorem smd_S_fields_33 : decode prog_1_method_4_code 33 = .ok (.iload_n 1, 1) := by decide +kernel
theorem smd_S_fields_34 : decode prog_1_method_4_code 34 = .ok (.iload_n 2, 1) := by decide +kernel
theorem smd_S_fields_35 : decode prog_1_method_4_code 35 = .ok (.iastore, 1) := by decide +kernel
theorem smd_S_fields_36 : decode prog_1_method_4_code 36 = .ok (.aload_n 0, 1) := by decide +kernel
theorem smd_S_fields_37 : decode prog_1_method_4_code 37 = .ok (.getfield 22, 3) := by decide +kernel
theorem smd_S_fields_40 : decode prog_1_method_4_code 40 = .ok (.iload_n 1, 1) := by decide +kernel
theorem smd_S_fields_41 : decode prog_1_method_4_code 41 = .ok (.invokevirtual 62, 3) := by decide +kernel
theorem smd_S_fields_44 : decode prog_1_method_4_code 44 = .ok (.aload_n 0, 1) := by decide +kernel
theorem smd_S_fields_45 : decode prog_1_method_4_code 45 = .ok (.getfield 22, 3) := by decide +kernel
theorem smd_S_fields_48 : decode prog_1_method_4_code 48 = .ok (.getfield 66, 3) := by decide +kernel
theorem smd_S_fields_51 : decode prog_1_method_4_code 51 = .ok (.iload_n 1, 1) := by decide +kernel
theorem smd_S_fields_52 : decode prog_1_method_4_code 52 = .ok (.iconst 1, 1) := by decide +kernel
theorem smd_S_fields_53 : decode prog_1_method_4_code 53 = .ok (.bastore, 1) := by decide +kernel
theorem smd_S_fields_54 : decode prog_1_method_4_code 54 = .ok (.iconst 1, 1) := by decide +kernel
theorem smd_S_fields_55 : decode prog_1_method_4_code 55 = .ok (.ireturn, 1) := by decide +kernel
theorem smd_S_rule_0 : decode prog_1_method_5_code 0 = .ok (.iload_n 1, 1) := by decide +kernel
theorem smd_S_rule_1 : decode prog_1_method_5_code 1 = .ok (.iconst 3, 1) := by decide +kernel
theorem smd_S_rule_2 : decode prog_1_method_5_code 2 = .ok (.invokestatic 44, 3) := by decide +kernel
theorem smd_S_rule_5 : decode prog_1_method_5_code 5 = .ok (.ifCond .eq 19, 3) := by decide +kernel
theorem smd_S_rule_8 : decode prog_1_method_5_code 8 = .ok (.iload_n 2, 1) := by decide +kernel
theorem smd_S_rule_9 : decode prog_1_method_5_code 9 = .ok (.aload_n 0, 1) := by decide +kernel
theorem smd_S_rule_10 : decode prog_1_method_5_code 10 = .ok (.getfield 16, 3) := by decide +kernel
theorem smd_S_rule_13 : decode prog_1_method_5_code 13 = .ok (.getfield 59, 3) := by decide +kernel
theorem smd_S_rule_16 : decode prog_1_method_5_code 16 = .ok (.iload_n 1, 1) := by decide +kernel
theorem smd_S_rule_17 : decode prog_1_method_5_code 17 = .ok (.iaload, 1) := by decide +kernel
theorem smd_S_rule_18 : decode prog_1_method_5_code 18 = .ok (.invokestatic 44, 3) := by decide +kernel
theorem smd_S_rule_21 : decode prog_1_method_5_code 21 = .ok (.ifCond .ne 5, 3) := by decide +kernel
theorem smd_S_rule_24 : decode prog_1_method_5_code 24 = .ok (.iconst (-1), 1) := by decide +kernel
theorem smd_S_rule_25 : decode prog_1_method_5_code 25 = .ok (.ireturn, 1) := by decide +kernel
theorem smd_S_rule_26 : decode prog_1_method_5_code 26 = .ok (.iload_n 3, 1) := by decide +kernel
theorem smd_S_rule_27 : decode prog_1_method_5_code 27 = .ok (.ifCond .lt 17, 3) := by decide +kernel
theorem smd_S_rule_30 : decode prog_1_method_5_code 30 = .ok (.iload_n 3, 1) := by decide +kernel
theorem smd_S_rule_31 : decode prog_1_method_5_code 31 = .ok (.iconst 2, 1) := by decide +kernel
theorem smd_S_rule_32 : decode prog_1_method_5_code 32 = .ok (.if_icmp .gt 12, 3) := by decide +kernel
theorem smd_S_rule_35 : decode prog_1_method_5_code 35 = .ok (.iload 4, 2) := by decide +kernel
theorem smd_S_rule_37 : decode prog_1_method_5_code 37 = .ok (.iconst 4, 1) := by decide +kernel
theorem smd_S_rule_38 : decode prog_1_method_5_code 38 = .ok (.invokestatic 44, 3) := by decide +kernel
theorem smd_S_rule_41 : decode prog_1_method_5_code 41 = .ok (.ifCond .ne 5, 3) := by decide +kernel
theorem smd_S_rule_44 : decode prog_1_method_5_code 44 = .ok (.iconst (-1), 1) := by decide +kernel
theorem smd_S_rule_45 : decode prog_1_method_5_code 45 = .ok (.ireturn, 1) := by decide +kernel
theorem smd_S_rule_46 : decode prog_1_method_5_code 46 = .ok (.aload_n 0, 1) := by decide +kernel
theorem smd_S_rule_47 : decode prog_1_method_5_code 47 = .ok (.getfield 51, 3) := by decide +kernel
theorem smd_S_rule_50 : decode prog_1_method_5_code 50 = .ok (.ifCond .eq 6, 3) := by decide +kernel
theorem smd_S_rule_53 : decode prog_1_method_5_code 53 = .ok (.bipush (-2), 2) := by decide +kernel
theorem smd_S_rule_55 : decode prog_1_method_5_code 55 = .ok (.ireturn, 1) := by decide +kernel
theorem smd_S_rule_56 : decode prog_1_method_5_code 56 = .ok (.aload_n 0, 1) := by decide +kernel
theorem smd_S_rule_57 : decode prog_1_method_5_code 57 = .ok (.getfield 22, 3) := by decide +kernel
theorem smd_S_rule_60 : decode prog_1_method_5_code 60 = .ok (.iload_n 1, 1) := by decide +kernel
theorem smd_S_rule_61 : decode prog_1_method_5_code 61 = .ok (.iload_n 2, 1) := by decide +kernel
theorem smd_S_rule_62 : decode prog_1_method_5_code 62 = .ok (.iload_n 3, 1) := by decide +kernel
theorem smd_S_rule_63 : decode prog_1_method_5_code 63 = .ok (.iload 4, 2) := by decide +kernel
theorem smd_S_rule_65 : decode prog_1_method_5_code 65 = .ok (.iload 5, 2) := by decide +kernel
theorem smd_S_rule_67 : decode prog_1_method_5_code 67 = .ok (.invokevirtual 70, 3) := by decide +kernel
theorem smd_S_rule_70 : decode prog_1_method_5_code 70 = .ok (.aload_n 0, 1) := by decide +kernel
theorem smd_S_rule_71 : decode prog_1_method_5_code 71 = .ok (.getfield 22, 3) := by decide +kernel
theorem smd_S_rule_74 : decode prog_1_method_5_code 74 = .ok (.getfield 66, 3) := by decide +kernel
theorem smd_S_rule_77 : decode prog_1_method_5_code 77 = .ok (.iload_n 1, 1) := by decide +kernel
theorem smd_S_rule_78 : decode prog_1_method_5_code 78 = .ok (.iconst 1, 1) := by decide +kernel
theorem smd_S_rule_79 : decode prog_1_method_5_code 79 = .ok (.bastore, 1) := by decide +kernel
theorem smd_S_rule_80 : decode prog_1_method_5_code 80 = .ok (.iconst 0, 1) := by decide +kernel
theorem smd_S_rule_81 : decode prog_1_method_5_code 81 = .ok (.ireturn, 1) := by decide +kernel
theorem smd_S_reset_0 : decode prog_1_method_6_code 0 = .ok (.aload_n 0, 1) := by decide +kernel
theorem smd_S_reset_1 : decode prog_1_method_6_code 1 = .ok (.getfield 51, 3) := by decide +kernel
theorem smd_S_reset_4 : decode prog_1_method_6_code 4 = .ok (.ifCond .eq 5, 3) := by decide +kernel
theorem smd_S_reset_7 : decode prog_1_method_6_code 7 = .ok (.iconst 0, 1) := by decide +kernel
theorem smd_S_reset_8 : decode prog_1_method_6_code 8 = .ok (.ireturn, 1) := by decide +kernel
theorem smd_S_reset_9 : decode prog_1_method_6_code 9 = .ok (.aload_n 0, 1) := by decide +kernel
theorem smd_S_reset_10 : decode prog_1_method_6_code 10 = .ok (.getfield 16, 3) := by decide +kernel
theorem smd_S_reset_13 : decode prog_1_method_6_code 13 = .ok (.aload_n 0, 1) := by decide +kernel
theorem smd_S_reset_14 : decode prog_1_method_6_code 14 = .ok (.getfield 10, 3) := by decide +kernel
theorem smd_S_reset_17 : decode prog_1_method_6_code 17 = .ok (.invokevirtual 73, 3) := by decide +kernel
theorem smd_S_reset_20 : decode prog_1_method_6_code 20 = .ok (.aload_n 0, 1) := by decide +kernel
theorem smd_S_reset_21 : decode prog_1_method_6_code 21 = .ok (.getfield 22, 3) := by decide +kernel
theorem smd_S_reset_24 : decode prog_1_method_6_code 24 = .ok (.invokevirtual 77, 3) := by decide +kernel
theorem smd_S_reset_27 : decode prog_1_method_6_code 27 = .ok (.iconst 1, 1) := by decide +kernel
theorem smd_S_reset_28 : decode prog_1_method_6_code 28 = .ok (.ireturn, 1) := by decide +kernel
theorem smd_S_stage_0 : decode prog_1_method_7_code 0 = .ok (.aload_n 0, 1) := by decide +kernel
theorem smd_S_stage_1 : decode prog_1_method_7_code 1 = .ok (.getfield 51, 3) := by decide +kernel
theorem smd_S_stage_4 : decode prog_1_method_7_code 4 = .ok (.ifCond .eq 6, 3) := by decide +kernel
theorem smd_S_stage_7 : decode prog_1_method_7_code 7 = .ok (.bipush (-2), 2) := by decide +kernel
theorem smd_S_stage_9 : decode prog_1_method_7_code 9 = .ok (.ireturn, 1) := by decide +kernel
theorem smd_S_stage_10 : decode prog_1_method_7_code 10 = .ok (.aload_n 0, 1) := by decide +kernel
theorem smd_S_stage_11 : decode prog_1_method_7_code 11 = .ok (.getfield 16, 3) := by decide +kernel
theorem smd_S_stage_14 : decode prog_1_method_7_code 14 = .ok (.invokevirtual 80, 3) := by decide +kernel
theorem smd_S_stage_17 : decode prog_1_method_7_code 17 = .ok (.istore_n 1, 1) := by decide +kernel
theorem smd_S_stage_18 : decode prog_1_method_7_code 18 = .ok (.iload_n 1, 1) := by decide +kernel
theorem smd_S_stage_19 : decode prog_1_method_7_code 19 = .ok (.iconst (-1), 1) := by decide +kernel
theorem smd_S_stage_20 : decode prog_1_method_7_code 20 = .ok (.if_icmp .eq 8, 3) := by decide +kernel
theorem smd_S_stage_23 : decode prog_1_method_7_code 23 = .ok (.bipush (-100), 2) := by decide +kernel
theorem smd_S_stage_25 : decode prog_1_method_7_code 25 = .ok (.iload_n 1, 1) := by decide +kernel
theorem smd_S_stage_26 : decode prog_1_method_7_code 26 = .ok (.isub, 1) := by decide +kernel
theorem smd_S_stage_27 : decode prog_1_method_7_code 27 = .ok (.ireturn, 1) := by decide +kernel
theorem smd_S_stage_28 : decode prog_1_method_7_code 28 = .ok (.aload_n 0, 1) := by decide +kernel
theorem smd_S_stage_29 : decode prog_1_method_7_code 29 = .ok (.getfield 22, 3) := by decide +kernel
theorem smd_S_stage_32 : decode prog_1_method_7_code 32 = .ok (.aload_n 0, 1) := by decide +kernel
theorem smd_S_stage_33 : decode prog_1_method_7_code 33 = .ok (.getfield 10, 3) := by decide +kernel
theorem smd_S_stage_36 : decode prog_1_method_7_code 36 = .ok (.aload_n 0, 1) := by decide +kernel
theorem smd_S_stage_37 : decode prog_1_method_7_code 37 = .ok (.getfield 16, 3) := by decide +kernel
theorem smd_S_stage_40 : decode prog_1_method_7_code 40 = .ok (.invokevirtual 84, 3) := by decide +kernel
theorem smd_S_stage_43 : decode prog_1_method_7_code 43 = .ok (.istore_n 2, 1) := by decide +kernel
theorem smd_S_stage_44 : decode prog_1_method_7_code 44 = .ok (.iload_n 2, 1) := by decide +kernel
theorem smd_S_stage_45 : decode prog_1_method_7_code 45 = .ok (.iconst (-1), 1) := by decide +kernel
theorem smd_S_stage_46 : decode prog_1_method_7_code 46 = .ok (.if_icmp .eq 9, 3) := by decide +kernel
theorem smd_S_stage_49 : decode prog_1_method_7_code 49 = .ok (.sipush (-200), 3) := by decide +kernel
theorem smd_S_stage_52 : decode prog_1_method_7_code 52 = .ok (.iload_n 2, 1) := by decide +kernel
theorem smd_S_stage_53 : decode prog_1_method_7_code 53 = .ok (.isub, 1) := by decide +kernel
theorem smd_S_stage_54 : decode prog_1_method_7_code 54 = .ok (.ireturn, 1) := by decide +kernel
theorem smd_S_stage_55 : decode prog_1_method_7_code 55 = .ok (.aload_n 0, 1) := by decide +kernel
theorem smd_S_stage_56 : decode prog_1_method_7_code 56 = .ok (.iconst 1, 1) := by decide +kernel
theorem smd_S_stage_57 : decode prog_1_method_7_code 57 = .ok (.putfield 51, 3) := by decide +kernel
theorem smd_S_stage_60 : decode prog_1_method_7_code 60 = .ok (.iconst 0, 1) := by decide +kernel
theorem smd_S_stage_61 : decode prog_1_method_7_code 61 = .ok (.ireturn, 1) := by decide +kernel
theorem smd_S_withdraw_0 : decode prog_1_method_8_code 0 = .ok (.aload_n 0, 1) := by decide +kernel
theorem smd_S_withdraw_1 : decode prog_1_method_8_code 1 = .ok (.getfield 51, 3) := by decide +kernel
theorem smd_S_withdraw_4 : decode prog_1_method_8_code 4 = .ok (.istore_n 1, 1) := by decide +kernel
theorem smd_S_withdraw_5 : decode prog_1_method_8_code 5 = .ok (.aload_n 0, 1) := by decide +kernel
theorem smd_S_withdraw_6 : decode prog_1_method_8_code 6 = .ok (.iconst 0, 1) := by decide +kernel
theorem smd_S_withdraw_7 : decode prog_1_method_8_code 7 = .ok (.putfield 51, 3) := by decide +kernel
theorem smd_S_withdraw_10 : decode prog_1_method_8_code 10 = .ok (.iload_n 1, 1) := by decide +kernel
theorem smd_S_withdraw_11 : decode prog_1_method_8_code 11 = .ok (.ireturn, 1) := by decide +kernel
theorem smd_S_changed_0 : decode prog_1_method_9_code 0 = .ok (.aload_n 0, 1) := by decide +kernel
theorem smd_S_changed_1 : decode prog_1_method_9_code 1 = .ok (.getfield 51, 3) := by decide +kernel
theorem smd_S_changed_4 : decode prog_1_method_9_code 4 = .ok (.ifCond .eq 24, 3) := by decide +kernel
theorem smd_S_changed_7 : decode prog_1_method_9_code 7 = .ok (.iload_n 1, 1) := by decide +kernel
theorem smd_S_changed_8 : decode prog_1_method_9_code 8 = .ok (.bipush 6, 2) := by decide +kernel
theorem smd_S_changed_10 : decode prog_1_method_9_code 10 = .ok (.invokestatic 44, 3) := by decide +kernel
theorem smd_S_changed_13 : decode prog_1_method_9_code 13 = .ok (.ifCond .eq 15, 3) := by decide +kernel
theorem smd_S_changed_16 : decode prog_1_method_9_code 16 = .ok (.aload_n 0, 1) := by decide +kernel
theorem smd_S_changed_17 : decode prog_1_method_9_code 17 = .ok (.iload_n 1, 1) := by decide +kernel
theorem smd_S_changed_18 : decode prog_1_method_9_code 18 = .ok (.invokevirtual 88, 3) := by decide +kernel
theorem smd_S_changed_21 : decode prog_1_method_9_code 21 = .ok (.ifCond .eq 7, 3) := by decide +kernel
theorem smd_S_changed_24 : decode prog_1_method_9_code 24 = .ok (.iconst 1, 1) := by decide +kernel
theorem smd_S_changed_25 : decode prog_1_method_9_code 25 = .ok (.goto 4, 3) := by decide +kernel
theorem smd_S_changed_28 : decode prog_1_method_9_code 28 = .ok (.iconst 0, 1) := by decide +kernel
theorem smd_S_changed_29 : decode prog_1_method_9_code 29 = .ok (.ireturn, 1) := by decide +kernel
theorem smd_S_blocker_0 : decode prog_1_method_10_code 0 = .ok (.aload_n 0, 1) := by decide +kernel
theorem smd_S_blocker_1 : decode prog_1_method_10_code 1 = .ok (.getfield 51, 3) := by decide +kernel
theorem smd_S_blocker_4 : decode prog_1_method_10_code 4 = .ok (.ifCond .eq 11, 3) := by decide +kernel
theorem smd_S_blocker_7 : decode prog_1_method_10_code 7 = .ok (.aload_n 0, 1) := by decide +kernel
theorem smd_S_blocker_8 : decode prog_1_method_10_code 8 = .ok (.iload_n 1, 1) := by decide +kernel
theorem smd_S_blocker_9 : decode prog_1_method_10_code 9 = .ok (.invokevirtual 92, 3) := by decide +kernel
theorem smd_S_blocker_12 : decode prog_1_method_10_code 12 = .ok (.goto 4, 3) := by decide +kernel
theorem smd_S_blocker_15 : decode prog_1_method_10_code 15 = .ok (.iconst 0, 1) := by decide +kernel
theorem smd_S_blocker_16 : decode prog_1_method_10_code 16 = .ok (.ireturn, 1) := by decide +kernel
theorem smd_S_attempt_0 : decode prog_1_method_11_code 0 = .ok (.iload_n 1, 1) := by decide +kernel
theorem smd_S_attempt_1 : decode prog_1_method_11_code 1 = .ok (.ifCond .ge 5, 3) := by decide +kernel
theorem smd_S_attempt_4 : decode prog_1_method_11_code 4 = .ok (.iconst (-1), 1) := by decide +kernel
theorem smd_S_attempt_5 : decode prog_1_method_11_code 5 = .ok (.ireturn, 1) := by decide +kernel
theorem smd_S_attempt_6 : decode prog_1_method_11_code 6 = .ok (.aload_n 0, 1) := by decide +kernel
theorem smd_S_attempt_7 : decode prog_1_method_11_code 7 = .ok (.getfield 51, 3) := by decide +kernel
theorem smd_S_attempt_10 : decode prog_1_method_11_code 10 = .ok (.ifCond .ne 5, 3) := by decide +kernel
theorem smd_S_attempt_13 : decode prog_1_method_11_code 13 = .ok (.iconst 3, 1) := by decide +kernel
theorem smd_S_attempt_14 : decode prog_1_method_11_code 14 = .ok (.ireturn, 1) := by decide +kernel
theorem smd_S_attempt_15 : decode prog_1_method_11_code 15 = .ok (.aload_n 0, 1) := by decide +kernel
theorem smd_S_attempt_16 : decode prog_1_method_11_code 16 = .ok (.iconst 1, 1) := by decide +kernel
theorem smd_S_attempt_17 : decode prog_1_method_11_code 17 = .ok (.invokevirtual 92, 3) := by decide +kernel
theorem smd_S_attempt_20 : decode prog_1_method_11_code 20 = .ok (.ifCond .eq 5, 3) := by decide +kernel
theorem smd_S_attempt_23 : decode prog_1_method_11_code 23 = .ok (.iconst 0, 1) := by decide +kernel
theorem smd_S_attempt_24 : decode prog_1_method_11_code 24 = .ok (.ireturn, 1) := by decide +kernel
theorem smd_S_attempt_25 : decode prog_1_method_11_code 25 = .ok (.aload_n 0, 1) := by decide +kernel
theorem smd_S_attempt_26 : decode prog_1_method_11_code 26 = .ok (.invokevirtual 96, 3) := by decide +kernel
theorem smd_S_attempt_29 : decode prog_1_method_11_code 29 = .ok (.pop, 1) := by decide +kernel
theorem smd_S_attempt_30 : decode prog_1_method_11_code 30 = .ok (.aload_n 0, 1) := by decide +kernel
theorem smd_S_attempt_31 : decode prog_1_method_11_code 31 = .ok (.getfield 29, 3) := by decide +kernel
theorem smd_S_attempt_34 : decode prog_1_method_11_code 34 = .ok (.aload_n 0, 1) := by decide +kernel
theorem smd_S_attempt_35 : decode prog_1_method_11_code 35 = .ok (.getfield 22, 3) := by decide +kernel
theorem smd_S_attempt_38 : decode prog_1_method_11_code 38 = .ok (.aload_n 0, 1) := by decide +kernel
theorem smd_S_attempt_39 : decode prog_1_method_11_code 39 = .ok (.getfield 16, 3) := by decide +kernel
theorem smd_S_attempt_42 : decode prog_1_method_11_code 42 = .ok (.iload_n 1, 1) := by decide +kernel
theorem smd_S_attempt_43 : decode prog_1_method_11_code 43 = .ok (.invokevirtual 99, 3) := by decide +kernel
theorem smd_S_attempt_46 : decode prog_1_method_11_code 46 = .ok (.ifCond .ne 5, 3) := by decide +kernel
theorem smd_S_attempt_49 : decode prog_1_method_11_code 49 = .ok (.iconst 2, 1) := by decide +kernel
theorem smd_S_attempt_50 : decode prog_1_method_11_code 50 = .ok (.ireturn, 1) := by decide +kernel
theorem smd_S_attempt_51 : decode prog_1_method_11_code 51 = .ok (.aload_n 0, 1) := by decide +kernel
theorem smd_S_attempt_52 : decode prog_1_method_11_code 52 = .ok (.invokevirtual 103, 3) := by decide +kernel
theorem smd_S_attempt_55 : decode prog_1_method_11_code 55 = .ok (.iconst 1, 1) := by decide +kernel
theorem smd_S_attempt_56 : decode prog_1_method_11_code 56 = .ok (.ireturn, 1) := by decide +kernel
theorem smd_S_version_0 : decode prog_1_method_12_code 0 = .ok (.aload_n 0, 1) := by decide +kernel
theorem smd_S_version_1 : decode prog_1_method_12_code 1 = .ok (.getfield 106, 3) := by decide +kernel
theorem smd_S_version_4 : decode prog_1_method_12_code 4 = .ok (.ireturn, 1) := by decide +kernel
theorem smd_S_spawn_0 : decode prog_1_method_13_code 0 = .ok (.aload_n 0, 1) := by decide +kernel
theorem smd_S_spawn_1 : decode prog_1_method_13_code 1 = .ok (.getfield 10, 3) := by decide +kernel
theorem smd_S_spawn_4 : decode prog_1_method_13_code 4 = .ok (.iload_n 1, 1) := by decide +kernel
theorem smd_S_spawn_5 : decode prog_1_method_13_code 5 = .ok (.invokevirtual 110, 3) := by decide +kernel
theorem smd_S_spawn_8 : decode prog_1_method_13_code 8 = .ok (.ifCond .ne 5, 3) := by decide +kernel
theorem smd_S_spawn_11 : decode prog_1_method_13_code 11 = .ok (.iconst (-1), 1) := by decide +kernel
theorem smd_S_spawn_12 : decode prog_1_method_13_code 12 = .ok (.ireturn, 1) := by decide +kernel
theorem smd_S_spawn_13 : decode prog_1_method_13_code 13 = .ok (.aload_n 0, 1) := by decide +kernel
theorem smd_S_spawn_14 : decode prog_1_method_13_code 14 = .ok (.getfield 113, 3) := by decide +kernel
theorem smd_S_spawn_17 : decode prog_1_method_13_code 17 = .ok (.bipush 6, 2) := by decide +kernel
theorem smd_S_spawn_19 : decode prog_1_method_13_code 19 = .ok (.if_icmp .lt 6, 3) := by decide +kernel
theorem smd_S_spawn_22 : decode prog_1_method_13_code 22 = .ok (.bipush (-3), 2) := by decide +kernel
theorem smd_S_spawn_24 : decode prog_1_method_13_code 24 = .ok (.ireturn, 1) := by decide +kernel
theorem smd_S_spawn_25 : decode prog_1_method_13_code 25 = .ok (.aload_n 0, 1) := by decide +kernel
theorem smd_S_spawn_26 : decode prog_1_method_13_code 26 = .ok (.getfield 39, 3) := by decide +kernel
theorem smd_S_spawn_29 : decode prog_1_method_13_code 29 = .ok (.aload_n 0, 1) := by decide +kernel
theorem smd_S_spawn_30 : decode prog_1_method_13_code 30 = .ok (.getfield 113, 3) := by decide +kernel
theorem smd_S_spawn_33 : decode prog_1_method_13_code 33 = .ok (.aaload, 1) := by decide +kernel
theorem smd_S_spawn_34 : decode prog_1_method_13_code 34 = .ok (.iload_n 1, 1) := by decide +kernel
theorem smd_S_spawn_35 : decode prog_1_method_13_code 35 = .ok (.iload_n 2, 1) := by decide +kernel
theorem smd_S_spawn_36 : decode prog_1_method_13_code 36 = .ok (.iconst 0, 1) := by decide +kernel
theorem smd_S_spawn_37 : decode prog_1_method_13_code 37 = .ok (.invokevirtual 116, 3) := by decide +kernel
theorem smd_S_spawn_40 : decode prog_1_method_13_code 40 = .ok (.aload_n 0, 1) := by decide +kernel
theorem smd_S_spawn_41 : decode prog_1_method_13_code 41 = .ok (.dup, 1) := by decide +kernel
theorem smd_S_spawn_42 : decode prog_1_method_13_code 42 = .ok (.getfield 113, 3) := by decide +kernel
theorem smd_S_spawn_45 : decode prog_1_method_13_code 45 = .ok (.iconst 1, 1) := by decide +kernel
theorem smd_S_spawn_46 : decode prog_1_method_13_code 46 = .ok (.iadd, 1) := by decide +kernel
theorem smd_S_spawn_47 : decode prog_1_method_13_code 47 = .ok (.putfield 113, 3) := by decide +kernel
theorem smd_S_spawn_50 : decode prog_1_method_13_code 50 = .ok (.aload_n 0, 1) := by decide +kernel
theorem smd_S_spawn_51 : decode prog_1_method_13_code 51 = .ok (.getfield 113, 3) := by decide +kernel
theorem smd_S_spawn_54 : decode prog_1_method_13_code 54 = .ok (.ireturn, 1) := by decide +kernel
theorem smd_S_step_0 : decode prog_1_method_14_code 0 = .ok (.aload_n 0, 1) := by decide +kernel
theorem smd_S_step_1 : decode prog_1_method_14_code 1 = .ok (.iload_n 1, 1) := by decide +kernel
theorem smd_S_step_2 : decode prog_1_method_14_code 2 = .ok (.invokevirtual 120, 3) := by decide +kernel
theorem smd_S_step_5 : decode prog_1_method_14_code 5 = .ok (.ifCond .eq 15, 3) := by decide +kernel
theorem smd_S_step_8 : decode prog_1_method_14_code 8 = .ok (.iload_n 2, 1) := by decide +kernel
theorem smd_S_step_9 : decode prog_1_method_14_code 9 = .ok (.iconst 1, 1) := by decide +kernel
theorem smd_S_step_10 : decode prog_1_method_14_code 10 = .ok (.if_icmp .lt 10, 3) := by decide +kernel
theorem smd_S_step_13 : decode prog_1_method_14_code 13 = .ok (.iload_n 2, 1) := by decide +kernel
theorem smd_S_step_14 : decode prog_1_method_14_code 14 = .ok (.sipush 200, 3) := by decide +kernel
theorem smd_S_step_17 : decode prog_1_method_14_code 17 = .ok (.if_icmp .le 5, 3) := by decide +kernel
theorem smd_S_step_20 : decode prog_1_method_14_code 20 = .ok (.iconst (-1), 1) := by decide +kernel
theorem smd_S_step_21 : decode prog_1_method_14_code 21 = .ok (.ireturn, 1) := by decide +kernel
theorem smd_S_step_22 : decode prog_1_method_14_code 22 = .ok (.aload_n 0, 1) := by decide +kernel
theorem smd_S_step_23 : decode prog_1_method_14_code 23 = .ok (.getfield 39, 3) := by decide +kernel
theorem smd_S_step_26 : decode prog_1_method_14_code 26 = .ok (.iload_n 1, 1) := by decide +kernel
theorem smd_S_step_27 : decode prog_1_method_14_code 27 = .ok (.iconst 1, 1) := by decide +kernel
theorem smd_S_step_28 : decode prog_1_method_14_code 28 = .ok (.isub, 1) := by decide +kernel
theorem smd_S_step_29 : decode prog_1_method_14_code 29 = .ok (.aaload, 1) := by decide +kernel
theorem smd_S_step_30 : decode prog_1_method_14_code 30 = .ok (.astore_n 3, 1) := by decide +kernel
theorem smd_S_step_31 : decode prog_1_method_14_code 31 = .ok (.aload_n 3, 1) := by decide +kernel
theorem smd_S_step_32 : decode prog_1_method_14_code 32 = .ok (.getfield 123, 3) := by decide +kernel
theorem smd_S_step_35 : decode prog_1_method_14_code 35 = .ok (.iconst 1, 1) := by decide +kernel
theorem smd_S_step_36 : decode prog_1_method_14_code 36 = .ok (.if_icmp .ne 8, 3) := by decide +kernel
theorem smd_S_step_39 : decode prog_1_method_14_code 39 = .ok (.aload_n 3, 1) := by decide +kernel
theorem smd_S_step_40 : decode prog_1_method_14_code 40 = .ok (.iconst 0, 1) := by decide +kernel
theorem smd_S_step_41 : decode prog_1_method_14_code 41 = .ok (.putfield 123, 3) := by decide +kernel
theorem smd_S_step_44 : decode prog_1_method_14_code 44 = .ok (.iconst 0, 1) := by decide +kernel
theorem smd_S_step_45 : decode prog_1_method_14_code 45 = .ok (.istore 4, 2) := by decide +kernel
theorem smd_S_step_47 : decode prog_1_method_14_code 47 = .ok (.iload 4, 2) := by decide +kernel
theorem smd_S_step_49 : decode prog_1_method_14_code 49 = .ok (.iload_n 2, 1) := by decide +kernel
theorem smd_S_step_50 : decode prog_1_method_14_code 50 = .ok (.if_icmp .ge 21, 3) := by decide +kernel
theorem smd_S_step_53 : decode prog_1_method_14_code 53 = .ok (.aload_n 3, 1) := by decide +kernel
theorem smd_S_step_54 : decode prog_1_method_14_code 54 = .ok (.getfield 123, 3) := by decide +kernel
theorem smd_S_step_57 : decode prog_1_method_14_code 57 = .ok (.ifCond .ne 14, 3) := by decide +kernel
theorem smd_S_step_60 : decode prog_1_method_14_code 60 = .ok (.aload_n 0, 1) := by decide +kernel
theorem smd_S_step_61 : decode prog_1_method_14_code 61 = .ok (.aload_n 3, 1) := by decide +kernel
theorem smd_S_step_62 : decode prog_1_method_14_code 62 = .ok (.invokevirtual 126, 3) := by decide +kernel
theorem smd_S_step_65 : decode prog_1_method_14_code 65 = .ok (.iinc 4 1, 3) := by decide +kernel
theorem smd_S_step_68 : decode prog_1_method_14_code 68 = .ok (.goto (-21), 3) := by decide +kernel
theorem smd_S_step_71 : decode prog_1_method_14_code 71 = .ok (.aload_n 3, 1) := by decide +kernel
theorem smd_S_step_72 : decode prog_1_method_14_code 72 = .ok (.getfield 123, 3) := by decide +kernel
theorem smd_S_step_75 : decode prog_1_method_14_code 75 = .ok (.ireturn, 1) := by decide +kernel
theorem smd_S_send_0 : decode prog_1_method_15_code 0 = .ok (.aload_n 0, 1) := by decide +kernel
theorem smd_S_send_1 : decode prog_1_method_15_code 1 = .ok (.iload_n 1, 1) := by decide +kernel
theorem smd_S_send_2 : decode prog_1_method_15_code 2 = .ok (.invokevirtual 120, 3) := by decide +kernel
theorem smd_S_send_5 : decode prog_1_method_15_code 5 = .ok (.ifCond .ne 5, 3) := by decide +kernel
theorem smd_S_send_8 : decode prog_1_method_15_code 8 = .ok (.iconst (-1), 1) := by decide +kernel
theorem smd_S_send_9 : decode prog_1_method_15_code 9 = .ok (.ireturn, 1) := by decide +kernel
theorem smd_S_send_10 : decode prog_1_method_15_code 10 = .ok (.aload_n 0, 1) := by decide +kernel
theorem smd_S_send_11 : decode prog_1_method_15_code 11 = .ok (.getfield 39, 3) := by decide +kernel
theorem smd_S_send_14 : decode prog_1_method_15_code 14 = .ok (.iload_n 1, 1) := by decide +kernel
theorem smd_S_send_15 : decode prog_1_method_15_code 15 = .ok (.iconst 1, 1) := by decide +kernel
theorem smd_S_send_16 : decode prog_1_method_15_code 16 = .ok (.isub, 1) := by decide +kernel
theorem smd_S_send_17 : decode prog_1_method_15_code 17 = .ok (.aaload, 1) := by decide +kernel
theorem smd_S_send_18 : decode prog_1_method_15_code 18 = .ok (.astore_n 3, 1) := by decide +kernel
theorem smd_S_send_19 : decode prog_1_method_15_code 19 = .ok (.aload_n 3, 1) := by decide +kernel
theorem smd_S_send_20 : decode prog_1_method_15_code 20 = .ok (.getfield 123, 3) := by decide +kernel
theorem smd_S_send_23 : decode prog_1_method_15_code 23 = .ok (.iconst 2, 1) := by decide +kernel
theorem smd_S_send_24 : decode prog_1_method_15_code 24 = .ok (.if_icmp .eq 11, 3) := by decide +kernel
theorem smd_S_send_27 : decode prog_1_method_15_code 27 = .ok (.aload_n 3, 1) := by decide +kernel
theorem smd_S_send_28 : decode prog_1_method_15_code 28 = .ok (.getfield 123, 3) := by decide +kernel
theorem smd_S_send_31 : decode prog_1_method_15_code 31 = .ok (.iconst 3, 1) := by decide +kernel
theorem smd_S_send_32 : decode prog_1_method_15_code 32 = .ok (.if_icmp .ne 6, 3) := by decide +kernel
theorem smd_S_send_35 : decode prog_1_method_15_code 35 = .ok (.bipush (-2), 2) := by decide +kernel
theorem smd_S_send_37 : decode prog_1_method_15_code 37 = .ok (.ireturn, 1) := by decide +kernel
theorem smd_S_send_38 : decode prog_1_method_15_code 38 = .ok (.aload_n 3, 1) := by decide +kernel
theorem smd_S_send_39 : decode prog_1_method_15_code 39 = .ok (.getfield 130, 3) := by decide +kernel
theorem smd_S_send_42 : decode prog_1_method_15_code 42 = .ok (.bipush 8, 2) := by decide +kernel
theorem smd_S_send_44 : decode prog_1_method_15_code 44 = .ok (.if_icmp .lt 6, 3) := by decide +kernel
theorem smd_S_send_47 : decode prog_1_method_15_code 47 = .ok (.bipush (-3), 2) := by decide +kernel
theorem smd_S_send_49 : decode prog_1_method_15_code 49 = .ok (.ireturn, 1) := by decide +kernel
theorem smd_S_send_50 : decode prog_1_method_15_code 50 = .ok (.aload_n 3, 1) := by decide +kernel
theorem smd_S_send_51 : decode prog_1_method_15_code 51 = .ok (.iload_n 2, 1) := by decide +kernel
theorem smd_S_send_52 : decode prog_1_method_15_code 52 = .ok (.invokevirtual 133, 3) := by decide +kernel
theorem smd_S_send_55 : decode prog_1_method_15_code 55 = .ok (.aload_n 3, 1) := by decide +kernel
theorem smd_S_send_56 : decode prog_1_method_15_code 56 = .ok (.getfield 130, 3) := by decide +kernel
theorem smd_S_send_59 : decode prog_1_method_15_code 59 = .ok (.ireturn, 1) := by decide +kernel
theorem smd_S_state_0 : decode prog_1_method_16_code 0 = .ok (.aload_n 0, 1) := by decide +kernel
theorem smd_S_state_1 : decode prog_1_method_16_code 1 = .ok (.iload_n 1, 1) := by decide +kernel
theorem smd_S_state_2 : decode prog_1_method_16_code 2 = .ok (.invokevirtual 120, 3) := by decide +kernel
theorem smd_S_state_5 : decode prog_1_method_16_code 5 = .ok (.ifCond .eq 17, 3) := by decide +kernel
theorem smd_S_state_8 : decode prog_1_method_16_code 8 = .ok (.aload_n 0, 1) := by decide +kernel
theorem smd_S_state_9 : decode prog_1_method_16_code 9 = .ok (.getfield 39, 3) := by decide +kernel
theorem smd_S_state_12 : decode prog_1_method_16_code 12 = .ok (.iload_n 1, 1) := by decide +kernel
theorem smd_S_state_13 : decode prog_1_method_16_code 13 = .ok (.iconst 1, 1) := by decide +kernel
theorem smd_S_state_14 : decode prog_1_method_16_code 14 = .ok (.isub, 1) := by decide +kernel
theorem smd_S_state_15 : decode prog_1_method_16_code 15 = .ok (.aaload, 1) := by decide +kernel
theorem smd_S_state_16 : decode prog_1_method_16_code 16 = .ok (.getfield 123, 3) := by decide +kernel
theorem smd_S_state_19 : decode prog_1_method_16_code 19 = .ok (.goto 4, 3) := by decide +kernel
theorem smd_S_state_22 : decode prog_1_method_16_code 22 = .ok (.iconst (-1), 1) := by decide +kernel
theorem smd_S_state_23 : decode prog_1_method_16_code 23 = .ok (.ireturn, 1) := by decide +kernel
theorem smd_S_result_0 : decode prog_1_method_17_code 0 = .ok (.aload_n 0, 1) := by decide +kernel
theorem smd_S_result_1 : decode prog_1_method_17_code 1 = .ok (.iload_n 1, 1) := by decide +kernel
theorem smd_S_result_2 : decode prog_1_method_17_code 2 = .ok (.invokevirtual 120, 3) := by decide +kernel
theorem smd_S_result_5 : decode prog_1_method_17_code 5 = .ok (.ifCond .eq 17, 3) := by decide +kernel
theorem smd_S_result_8 : decode prog_1_method_17_code 8 = .ok (.aload_n 0, 1) := by decide +kernel
theorem smd_S_result_9 : decode prog_1_method_17_code 9 = .ok (.getfield 39, 3) := by decide +kernel
theorem smd_S_result_12 : decode prog_1_method_17_code 12 = .ok (.iload_n 1, 1) := by decide +kernel
theorem smd_S_result_13 : decode prog_1_method_17_code 13 = .ok (.iconst 1, 1) := by decide +kernel
theorem smd_S_result_14 : decode prog_1_method_17_code 14 = .ok (.isub, 1) := by decide +kernel
theorem smd_S_result_15 : decode prog_1_method_17_code 15 = .ok (.aaload, 1) := by decide +kernel
theorem smd_S_result_16 : decode prog_1_method_17_code 16 = .ok (.getfield 136, 3) := by decide +kernel
theorem smd_S_result_19 : decode prog_1_method_17_code 19 = .ok (.goto 4, 3) := by decide +kernel
theorem smd_S_result_22 : decode prog_1_method_17_code 22 = .ok (.iconst 0, 1) := by decide +kernel
theorem smd_S_result_23 : decode prog_1_method_17_code 23 = .ok (.ireturn, 1) := by decide +kernel
theorem smd_S_frames_0 : decode prog_1_method_18_code 0 = .ok (.aload_n 0, 1) := by decide +kernel
theorem smd_S_frames_1 : decode prog_1_method_18_code 1 = .ok (.iload_n 1, 1) := by decide +kernel
theorem smd_S_frames_2 : decode prog_1_method_18_code 2 = .ok (.invokevirtual 120, 3) := by decide +kernel
theorem smd_S_frames_5 : decode prog_1_method_18_code 5 = .ok (.ifCond .eq 17, 3) := by decide +kernel
theorem smd_S_frames_8 : decode prog_1_method_18_code 8 = .ok (.aload_n 0, 1) := by decide +kernel
theorem smd_S_frames_9 : decode prog_1_method_18_code 9 = .ok (.getfield 39, 3) := by decide +kernel
theorem smd_S_frames_12 : decode prog_1_method_18_code 12 = .ok (.iload_n 1, 1) := by decide +kernel
theorem smd_S_frames_13 : decode prog_1_method_18_code 13 = .ok (.iconst 1, 1) := by decide +kernel
theorem smd_S_frames_14 : decode prog_1_method_18_code 14 = .ok (.isub, 1) := by decide +kernel
theorem smd_S_frames_15 : decode prog_1_method_18_code 15 = .ok (.aaload, 1) := by decide +kernel
theorem smd_S_frames_16 : decode prog_1_method_18_code 16 = .ok (.getfield 139, 3) := by decide +kernel
theorem smd_S_frames_19 : decode prog_1_method_18_code 19 = .ok (.goto 4, 3) := by decide +kernel
theorem smd_S_frames_22 : decode prog_1_method_18_code 22 = .ok (.iconst (-1), 1) := by decide +kernel
theorem smd_S_frames_23 : decode prog_1_method_18_code 23 = .ok (.ireturn, 1) := by decide +kernel
theorem smd_S_frame_0 : decode prog_1_method_19_code 0 = .ok (.aload_n 0, 1) := by decide +kernel
theorem smd_S_frame_1 : decode prog_1_method_19_code 1 = .ok (.iload_n 1, 1) := by decide +kernel
theorem smd_S_frame_2 : decode prog_1_method_19_code 2 = .ok (.invokevirtual 120, 3) := by decide +kernel
theorem smd_S_frame_5 : decode prog_1_method_19_code 5 = .ok (.ifCond .eq 21, 3) := by decide +kernel
theorem smd_S_frame_8 : decode prog_1_method_19_code 8 = .ok (.iload_n 2, 1) := by decide +kernel
theorem smd_S_frame_9 : decode prog_1_method_19_code 9 = .ok (.aload_n 0, 1) := by decide +kernel
theorem smd_S_frame_10 : decode prog_1_method_19_code 10 = .ok (.getfield 39, 3) := by decide +kernel
theorem smd_S_frame_13 : decode prog_1_method_19_code 13 = .ok (.iload_n 1, 1) := by decide +kernel
theorem smd_S_frame_14 : decode prog_1_method_19_code 14 = .ok (.iconst 1, 1) := by decide +kernel
theorem smd_S_frame_15 : decode prog_1_method_19_code 15 = .ok (.isub, 1) := by decide +kernel
theorem smd_S_frame_16 : decode prog_1_method_19_code 16 = .ok (.aaload, 1) := by decide +kernel
theorem smd_S_frame_17 : decode prog_1_method_19_code 17 = .ok (.getfield 139, 3) := by decide +kernel
theorem smd_S_frame_20 : decode prog_1_method_19_code 20 = .ok (.invokestatic 44, 3) := by decide +kernel
theorem smd_S_frame_23 : decode prog_1_method_19_code 23 = .ok (.ifCond .ne 5, 3) := by decide +kernel
theorem smd_S_frame_26 : decode prog_1_method_19_code 26 = .ok (.iconst (-1), 1) := by decide +kernel
theorem smd_S_frame_27 : decode prog_1_method_19_code 27 = .ok (.ireturn, 1) := by decide +kernel
theorem smd_S_frame_28 : decode prog_1_method_19_code 28 = .ok (.aload_n 0, 1) := by decide +kernel
theorem smd_S_frame_29 : decode prog_1_method_19_code 29 = .ok (.getfield 39, 3) := by decide +kernel
theorem smd_S_frame_32 : decode prog_1_method_19_code 32 = .ok (.iload_n 1, 1) := by decide +kernel
theorem smd_S_frame_33 : decode prog_1_method_19_code 33 = .ok (.iconst 1, 1) := by decide +kernel
theorem smd_S_frame_34 : decode prog_1_method_19_code 34 = .ok (.isub, 1) := by decide +kernel
theorem smd_S_frame_35 : decode prog_1_method_19_code 35 = .ok (.aaload, 1) := by decide +kernel
theorem smd_S_frame_36 : decode prog_1_method_19_code 36 = .ok (.astore 4, 2) := by decide +kernel
theorem smd_S_frame_38 : decode prog_1_method_19_code 38 = .ok (.iload_n 3, 1) := by decide +kernel
theorem smd_S_frame_39 : decode prog_1_method_19_code 39 = .ok (.tableswitch 63 0 4 #[33, 41, 49, 49, 49], 33) := by decide +kernel
theorem smd_S_frame_72 : decode prog_1_method_19_code 72 = .ok (.aload 4, 2) := by decide +kernel
theorem smd_S_frame_74 : decode prog_1_method_19_code 74 = .ok (.getfield 142, 3) := by decide +kernel
theorem smd_S_frame_77 : decode prog_1_method_19_code 77 = .ok (.iload_n 2, 1) := by decide +kernel
theorem smd_S_frame_78 : decode prog_1_method_19_code 78 = .ok (.iaload, 1) := by decide +kernel
theorem smd_S_frame_79 : decode prog_1_method_19_code 79 = .ok (.ireturn, 1) := by decide +kernel
theorem smd_S_frame_80 : decode prog_1_method_19_code 80 = .ok (.aload 4, 2) := by decide +kernel
theorem smd_S_frame_82 : decode prog_1_method_19_code 82 = .ok (.getfield 145, 3) := by decide +kernel
theorem smd_S_frame_85 : decode prog_1_method_19_code 85 = .ok (.iload_n 2, 1) := by decide +kernel
theorem smd_S_frame_86 : decode prog_1_method_19_code 86 = .ok (.iaload, 1) := by decide +kernel
theorem smd_S_frame_87 : decode prog_1_method_19_code 87 = .ok (.ireturn, 1) := by decide +kernel
theorem smd_S_frame_88 : decode prog_1_method_19_code 88 = .ok (.aload 4, 2) := by decide +kernel
theorem smd_S_frame_90 : decode prog_1_method_19_code 90 = .ok (.getfield 148, 3) := by decide +kernel
theorem smd_S_frame_93 : decode prog_1_method_19_code 93 = .ok (.iload_n 2, 1) := by decide +kernel
theorem smd_S_frame_94 : decode prog_1_method_19_code 94 = .ok (.iconst 3, 1) := by decide +kernel
theorem smd_S_frame_95 : decode prog_1_method_19_code 95 = .ok (.imul, 1) := by decide +kernel
theorem smd_S_frame_96 : decode prog_1_method_19_code 96 = .ok (.iload_n 3, 1) := by decide +kernel
theorem smd_S_frame_97 : decode prog_1_method_19_code 97 = .ok (.iadd, 1) := by decide +kernel
theorem smd_S_frame_98 : decode prog_1_method_19_code 98 = .ok (.iconst 2, 1) := by decide +kernel
theorem smd_S_frame_99 : decode prog_1_method_19_code 99 = .ok (.isub, 1) := by decide +kernel
theorem smd_S_frame_100 : decode prog_1_method_19_code 100 = .ok (.iaload, 1) := by decide +kernel
theorem smd_S_frame_101 : decode prog_1_method_19_code 101 = .ok (.ireturn, 1) := by decide +kernel
theorem smd_S_frame_102 : decode prog_1_method_19_code 102 = .ok (.iconst (-1), 1) := by decide +kernel
theorem smd_S_frame_103 : decode prog_1_method_19_code 103 = .ok (.ireturn, 1) := by decide +kernel
theorem smd_S_global_0 : decode prog_1_method_20_code 0 = .ok (.iload_n 1, 1) := by decide +kernel
theorem smd_S_global_1 : decode prog_1_method_20_code 1 = .ok (.iconst 4, 1) := by decide +kernel
theorem smd_S_global_2 : decode prog_1_method_20_code 2 = .ok (.invokestatic 44, 3) := by decide +kernel
theorem smd_S_global_5 : decode prog_1_method_20_code 5 = .ok (.ifCond .eq 12, 3) := by decide +kernel
theorem smd_S_global_8 : decode prog_1_method_20_code 8 = .ok (.aload_n 0, 1) := by decide +kernel
theorem smd_S_global_9 : decode prog_1_method_20_code 9 = .ok (.getfield 33, 3) := by decide +kernel
theorem smd_S_global_12 : decode prog_1_method_20_code 12 = .ok (.iload_n 1, 1) := by decide +kernel
theorem smd_S_global_13 : decode prog_1_method_20_code 13 = .ok (.iaload, 1) := by decide +kernel
theorem smd_S_global_14 : decode prog_1_method_20_code 14 = .ok (.goto 4, 3) := by decide +kernel
theorem smd_S_global_17 : decode prog_1_method_20_code 17 = .ok (.iconst 0, 1) := by decide +kernel
theorem smd_S_global_18 : decode prog_1_method_20_code 18 = .ok (.ireturn, 1) := by decide +kernel
theorem smd_S_typeOf_0 : decode prog_1_method_21_code 0 = .ok (.aload_n 0, 1) := by decide +kernel
theorem smd_S_typeOf_1 : decode prog_1_method_21_code 1 = .ok (.getfield 29, 3) := by decide +kernel
theorem smd_S_typeOf_4 : decode prog_1_method_21_code 4 = .ok (.iload_n 1, 1) := by decide +kernel
theorem smd_S_typeOf_5 : decode prog_1_method_21_code 5 = .ok (.invokevirtual 151, 3) := by decide +kernel
theorem smd_S_typeOf_8 : decode prog_1_method_21_code 8 = .ok (.ifCond .eq 15, 3) := by decide +kernel
theorem smd_S_typeOf_11 : decode prog_1_method_21_code 11 = .ok (.aload_n 0, 1) := by decide +kernel
theorem smd_S_typeOf_12 : decode prog_1_method_21_code 12 = .ok (.getfield 29, 3) := by decide +kernel
theorem smd_S_typeOf_15 : decode prog_1_method_21_code 15 = .ok (.getfield 154, 3) := by decide +kernel
theorem smd_S_typeOf_18 : decode prog_1_method_21_code 18 = .ok (.iload_n 1, 1) := by decide +kernel
theorem smd_S_typeOf_19 : decode prog_1_method_21_code 19 = .ok (.iaload, 1) := by decide +kernel
theorem smd_S_typeOf_20 : decode prog_1_method_21_code 20 = .ok (.goto 4, 3) := by decide +kernel
theorem smd_S_typeOf_23 : decode prog_1_method_21_code 23 = .ok (.iconst (-1), 1) := by decide +kernel
theorem smd_S_typeOf_24 : decode prog_1_method_21_code 24 = .ok (.ireturn, 1) := by decide +kernel
theorem smd_S_field_0 : decode prog_1_method_22_code 0 = .ok (.aload_n 0, 1) := by decide +kernel
theorem smd_S_field_1 : decode prog_1_method_22_code 1 = .ok (.getfield 29, 3) := by decide +kernel
theorem smd_S_field_4 : decode prog_1_method_22_code 4 = .ok (.iload_n 1, 1) := by decide +kernel
theorem smd_S_field_5 : decode prog_1_method_22_code 5 = .ok (.invokevirtual 151, 3) := by decide +kernel
theorem smd_S_field_8 : decode prog_1_method_22_code 8 = .ok (.ifCond .eq 27, 3) := by decide +kernel
theorem smd_S_field_11 : decode prog_1_method_22_code 11 = .ok (.iload_n 2, 1) := by decide +kernel
theorem smd_S_field_12 : decode prog_1_method_22_code 12 = .ok (.iconst 4, 1) := by decide +kernel
theorem smd_S_field_13 : decode prog_1_method_22_code 13 = .ok (.invokestatic 44, 3) := by decide +kernel
theorem smd_S_field_16 : decode prog_1_method_22_code 16 = .ok (.ifCond .eq 19, 3) := by decide +kernel
theorem smd_S_field_19 : decode prog_1_method_22_code 19 = .ok (.aload_n 0, 1) := by decide +kernel
theorem smd_S_field_20 : decode prog_1_method_22_code 20 = .ok (.getfield 29, 3) := by decide +kernel
theorem smd_S_field_23 : decode prog_1_method_22_code 23 = .ok (.getfield 157, 3) := by decide +kernel
theorem smd_S_field_26 : decode prog_1_method_22_code 26 = .ok (.iload_n 1, 1) := by decide +kernel
theorem smd_S_field_27 : decode prog_1_method_22_code 27 = .ok (.iconst 4, 1) := by decide +kernel
theorem smd_S_field_28 : decode prog_1_method_22_code 28 = .ok (.imul, 1) := by decide +kernel
theorem smd_S_field_29 : decode prog_1_method_22_code 29 = .ok (.iload_n 2, 1) := by decide +kernel
theorem smd_S_field_30 : decode prog_1_method_22_code 30 = .ok (.iadd, 1) := by decide +kernel
theorem smd_S_field_31 : decode prog_1_method_22_code 31 = .ok (.iaload, 1) := by decide +kernel
theorem smd_S_field_32 : decode prog_1_method_22_code 32 = .ok (.goto 4, 3) := by decide +kernel
theorem smd_S_field_35 : decode prog_1_method_22_code 35 = .ok (.iconst 0, 1) := by decide +kernel
theorem smd_S_field_36 : decode prog_1_method_22_code 36 = .ok (.ireturn, 1) := by decide +kernel
theorem smd_S_heap_0 : decode prog_1_method_23_code 0 = .ok (.aload_n 0, 1) := by decide +kernel
theorem smd_S_heap_1 : decode prog_1_method_23_code 1 = .ok (.getfield 29, 3) := by decide +kernel
theorem smd_S_heap_4 : decode prog_1_method_23_code 4 = .ok (.invokevirtual 160, 3) := by decide +kernel
theorem smd_S_heap_7 : decode prog_1_method_23_code 7 = .ok (.ireturn, 1) := by decide +kernel
theorem smd_S_collect_0 : decode prog_1_method_24_code 0 = .ok (.aload_n 0, 1) := by decide +kernel
theorem smd_S_collect_1 : decode prog_1_method_24_code 1 = .ok (.invokevirtual 96, 3) := by decide +kernel
theorem smd_S_collect_4 : decode prog_1_method_24_code 4 = .ok (.ireturn, 1) := by decide +kernel
theorem smd_S_isWithin_0 : decode prog_1_method_25_code 0 = .ok (.iload_n 0, 1) := by decide +kernel
theorem smd_S_isWithin_1 : decode prog_1_method_25_code 1 = .ok (.ifCond .lt 12, 3) := by decide +kernel
theorem smd_S_isWithin_4 : decode prog_1_method_25_code 4 = .ok (.iload_n 0, 1) := by decide +kernel
theorem smd_S_isWithin_5 : decode prog_1_method_25_code 5 = .ok (.iload_n 1, 1) := by decide +kernel
theorem smd_S_isWithin_6 : decode prog_1_method_25_code 6 = .ok (.if_icmp .ge 7, 3) := by decide +kernel
theorem smd_S_isWithin_9 : decode prog_1_method_25_code 9 = .ok (.iconst 1, 1) := by decide +kernel
theorem smd_S_isWithin_10 : decode prog_1_method_25_code 10 = .ok (.goto 4, 3) := by decide +kernel
theorem smd_S_isWithin_13 : decode prog_1_method_25_code 13 = .ok (.iconst 0, 1) := by decide +kernel
theorem smd_S_isWithin_14 : decode prog_1_method_25_code 14 = .ok (.ireturn, 1) := by decide +kernel
theorem smd_S_isTask_0 : decode prog_1_method_26_code 0 = .ok (.iload_n 1, 1) := by decide +kernel
theorem smd_S_isTask_1 : decode prog_1_method_26_code 1 = .ok (.iconst 1, 1) := by decide +kernel
theorem smd_S_isTask_2 : decode prog_1_method_26_code 2 = .ok (.if_icmp .lt 15, 3) := by decide +kernel
theorem smd_S_isTask_5 : decode prog_1_method_26_code 5 = .ok (.iload_n 1, 1) := by decide +kernel
theorem smd_S_isTask_6 : decode prog_1_method_26_code 6 = .ok (.aload_n 0, 1) := by decide +kernel
theorem smd_S_isTask_7 : decode prog_1_method_26_code 7 = .ok (.getfield 113, 3) := by decide +kernel
theorem smd_S_isTask_10 : decode prog_1_method_26_code 10 = .ok (.if_icmp .gt 7, 3) := by decide +kernel
theorem smd_S_isTask_13 : decode prog_1_method_26_code 13 = .ok (.iconst 1, 1) := by decide +kernel
theorem smd_S_isTask_14 : decode prog_1_method_26_code 14 = .ok (.goto 4, 3) := by decide +kernel
theorem smd_S_isTask_17 : decode prog_1_method_26_code 17 = .ok (.iconst 0, 1) := by decide +kernel
theorem smd_S_isTask_18 : decode prog_1_method_26_code 18 = .ok (.ireturn, 1) := by decide +kernel
theorem smd_S_draftChanges_0 : decode prog_1_method_27_code 0 = .ok (.aload_n 0, 1) := by decide +kernel
theorem smd_S_draftChanges_1 : decode prog_1_method_27_code 1 = .ok (.getfield 16, 3) := by decide +kernel
theorem smd_S_draftChanges_4 : decode prog_1_method_27_code 4 = .ok (.aload_n 0, 1) := by decide +kernel
theorem smd_S_draftChanges_5 : decode prog_1_method_27_code 5 = .ok (.getfield 10, 3) := by decide +kernel
theorem smd_S_draftChanges_8 : decode prog_1_method_27_code 8 = .ok (.iload_n 1, 1) := by decide +kernel
theorem smd_S_draftChanges_9 : decode prog_1_method_27_code 9 = .ok (.invokevirtual 163, 3) := by decide +kernel
theorem smd_S_draftChanges_12 : decode prog_1_method_27_code 12 = .ok (.ifCond .eq 21, 3) := by decide +kernel
theorem smd_S_draftChanges_15 : decode prog_1_method_27_code 15 = .ok (.aload_n 0, 1) := by decide +kernel
theorem smd_S_draftChanges_16 : decode prog_1_method_27_code 16 = .ok (.getfield 10, 3) := by decide +kernel
theorem smd_S_draftChanges_19 : decode prog_1_method_27_code 19 = .ok (.iload_n 1, 1) := by decide +kernel
theorem smd_S_draftChanges_20 : decode prog_1_method_27_code 20 = .ok (.aload_n 0, 1) := by decide +kernel
theorem smd_S_draftChanges_21 : decode prog_1_method_27_code 21 = .ok (.getfield 22, 3) := by decide +kernel
theorem smd_S_draftChanges_24 : decode prog_1_method_27_code 24 = .ok (.getfield 66, 3) := by decide +kernel
theorem smd_S_draftChanges_27 : decode prog_1_method_27_code 27 = .ok (.invokevirtual 167, 3) := by decide +kernel
theorem smd_S_draftChanges_30 : decode prog_1_method_27_code 30 = .ok (.ifCond .eq 7, 3) := by decide +kernel
theorem smd_S_draftChanges_33 : decode prog_1_method_27_code 33 = .ok (.iconst 1, 1) := by decide +kernel
theorem smd_S_draftChanges_34 : decode prog_1_method_27_code 34 = .ok (.goto 4, 3) := by decide +kernel
theorem smd_S_draftChanges_37 : decode prog_1_method_27_code 37 = .ok (.iconst 0, 1) := by decide +kernel
theorem smd_S_draftChanges_38 : decode prog_1_method_27_code 38 = .ok (.ireturn, 1) := by decide +kernel
theorem smd_S_firstTaskInTheWay_0 : decode prog_1_method_28_code 0 = .ok (.iload_n 1, 1) := by decide +kernel
theorem smd_S_firstTaskInTheWay_1 : decode prog_1_method_28_code 1 = .ok (.iconst 1, 1) := by decide +kernel
theorem smd_S_firstTaskInTheWay_2 : decode prog_1_method_28_code 2 = .ok (.invokestatic 171, 3) := by decide +kernel
theorem smd_S_firstTaskInTheWay_5 : decode prog_1_method_28_code 5 = .ok (.istore_n 2, 1) := by decide +kernel
theorem smd_S_firstTaskInTheWay_6 : decode prog_1_method_28_code 6 = .ok (.iload_n 2, 1) := by decide +kernel
theorem smd_S_firstTaskInTheWay_7 : decode prog_1_method_28_code 7 = .ok (.aload_n 0, 1) := by decide +kernel
theorem smd_S_firstTaskInTheWay_8 : decode prog_1_method_28_code 8 = .ok (.getfield 113, 3) := by decide +kernel
theorem smd_S_firstTaskInTheWay_11 : decode prog_1_method_28_code 11 = .ok (.if_icmp .gt 26, 3) := by decide +kernel
theorem smd_S_firstTaskInTheWay_14 : decode prog_1_method_28_code 14 = .ok (.aload_n 0, 1) := by decide +kernel
theorem smd_S_firstTaskInTheWay_15 : decode prog_1_method_28_code 15 = .ok (.aload_n 0, 1) := by decide +kernel
theorem smd_S_firstTaskInTheWay_16 : decode prog_1_method_28_code 16 = .ok (.getfield 39, 3) := by decide +kernel
theorem smd_S_firstTaskInTheWay_19 : decode prog_1_method_28_code 19 = .ok (.iload_n 2, 1) := by decide +kernel
theorem smd_S_firstTaskInTheWay_20 : decode prog_1_method_28_code 20 = .ok (.iconst 1, 1) := by decide +kernel
theorem smd_S_firstTaskInTheWay_21 : decode prog_1_method_28_code 21 = .ok (.isub, 1) := by decide +kernel
theorem smd_S_firstTaskInTheWay_22 : decode prog_1_method_28_code 22 = .ok (.aaload, 1) := by decide +kernel
theorem smd_S_firstTaskInTheWay_23 : decode prog_1_method_28_code 23 = .ok (.invokevirtual 177, 3) := by decide +kernel
theorem smd_S_firstTaskInTheWay_26 : decode prog_1_method_28_code 26 = .ok (.ifCond .eq 5, 3) := by decide +kernel
theorem smd_S_firstTaskInTheWay_29 : decode prog_1_method_28_code 29 = .ok (.iload_n 2, 1) := by decide +kernel
theorem smd_S_firstTaskInTheWay_30 : decode prog_1_method_28_code 30 = .ok (.ireturn, 1) := by decide +kernel
theorem smd_S_firstTaskInTheWay_31 : decode prog_1_method_28_code 31 = .ok (.iinc 2 1, 3) := by decide +kernel
theorem smd_S_firstTaskInTheWay_34 : decode prog_1_method_28_code 34 = .ok (.goto (-28), 3) := by decide +kernel
theorem smd_S_firstTaskInTheWay_37 : decode prog_1_method_28_code 37 = .ok (.iconst 0, 1) := by decide +kernel
theorem smd_S_firstTaskInTheWay_38 : decode prog_1_method_28_code 38 = .ok (.ireturn, 1) := by decide +kernel
theorem smd_S_isInTheWay_0 : decode prog_1_method_29_code 0 = .ok (.iconst 0, 1) := by decide +kernel
theorem smd_S_isInTheWay_1 : decode prog_1_method_29_code 1 = .ok (.istore_n 2, 1) := by decide +kernel
theorem smd_S_isInTheWay_2 : decode prog_1_method_29_code 2 = .ok (.iload_n 2, 1) := by decide +kernel
theorem smd_S_isInTheWay_3 : decode prog_1_method_29_code 3 = .ok (.aload_n 1, 1) := by decide +kernel
theorem smd_S_isInTheWay_4 : decode prog_1_method_29_code 4 = .ok (.getfield 139, 3) := by decide +kernel
theorem smd_S_isInTheWay_7 : decode prog_1_method_29_code 7 = .ok (.if_icmp .ge 53, 3) := by decide +kernel
theorem smd_S_isInTheWay_10 : decode prog_1_method_29_code 10 = .ok (.iload_n 2, 1) := by decide +kernel
theorem smd_S_isInTheWay_11 : decode prog_1_method_29_code 11 = .ok (.aload_n 1, 1) := by decide +kernel
theorem smd_S_isInTheWay_12 : decode prog_1_method_29_code 12 = .ok (.getfield 139, 3) := by decide +kernel
theorem smd_S_isInTheWay_15 : decode prog_1_method_29_code 15 = .ok (.iconst 1, 1) := by decide +kernel
theorem smd_S_isInTheWay_16 : decode prog_1_method_29_code 16 = .ok (.isub, 1) := by decide +kernel
theorem smd_S_isInTheWay_17 : decode prog_1_method_29_code 17 = .ok (.if_icmp .ne 16, 3) := by decide +kernel
theorem smd_S_isInTheWay_20 : decode prog_1_method_29_code 20 = .ok (.aload_n 0, 1) := by decide +kernel
theorem smd_S_isInTheWay_21 : decode prog_1_method_29_code 21 = .ok (.aload_n 1, 1) := by decide +kernel
theorem smd_S_isInTheWay_22 : decode prog_1_method_29_code 22 = .ok (.invokevirtual 181, 3) := by decide +kernel
theorem smd_S_isInTheWay_25 : decode prog_1_method_29_code 25 = .ok (.iconst (-1), 1) := by decide +kernel
theorem smd_S_isInTheWay_26 : decode prog_1_method_29_code 26 = .ok (.if_icmp .eq 7, 3) := by decide +kernel
theorem smd_S_isInTheWay_29 : decode prog_1_method_29_code 29 = .ok (.iconst 1, 1) := by decide +kernel
theorem smd_S_isInTheWay_30 : decode prog_1_method_29_code 30 = .ok (.goto 4, 3) := by decide +kernel
theorem smd_S_isInTheWay_33 : decode prog_1_method_29_code 33 = .ok (.iconst 0, 1) := by decide +kernel
theorem smd_S_isInTheWay_34 : decode prog_1_method_29_code 34 = .ok (.istore_n 3, 1) := by decide +kernel
theorem smd_S_isInTheWay_35 : decode prog_1_method_29_code 35 = .ok (.aload_n 0, 1) := by decide +kernel
theorem smd_S_isInTheWay_36 : decode prog_1_method_29_code 36 = .ok (.aload_n 1, 1) := by decide +kernel
theorem smd_S_isInTheWay_37 : decode prog_1_method_29_code 37 = .ok (.getfield 142, 3) := by decide +kernel
theorem smd_S_isInTheWay_40 : decode prog_1_method_29_code 40 = .ok (.iload_n 2, 1) := by decide +kernel
theorem smd_S_isInTheWay_41 : decode prog_1_method_29_code 41 = .ok (.iaload, 1) := by decide +kernel
theorem smd_S_isInTheWay_42 : decode prog_1_method_29_code 42 = .ok (.invokevirtual 88, 3) := by decide +kernel
theorem smd_S_isInTheWay_45 : decode prog_1_method_29_code 45 = .ok (.ifCond .eq 9, 3) := by decide +kernel
theorem smd_S_isInTheWay_48 : decode prog_1_method_29_code 48 = .ok (.iload_n 3, 1) := by decide +kernel
theorem smd_S_isInTheWay_49 : decode prog_1_method_29_code 49 = .ok (.ifCond .ne 5, 3) := by decide +kernel
theorem smd_S_isInTheWay_52 : decode prog_1_method_29_code 52 = .ok (.iconst 1, 1) := by decide +kernel
theorem smd_S_isInTheWay_53 : decode prog_1_method_29_code 53 = .ok (.ireturn, 1) := by decide +kernel
theorem smd_S_isInTheWay_54 : decode prog_1_method_29_code 54 = .ok (.iinc 2 1, 3) := by decide +kernel
theorem smd_S_isInTheWay_57 : decode prog_1_method_29_code 57 = .ok (.goto (-55), 3) := by decide +kernel
theorem smd_S_isInTheWay_60 : decode prog_1_method_29_code 60 = .ok (.iconst 0, 1) := by decide +kernel
theorem smd_S_isInTheWay_61 : decode prog_1_method_29_code 61 = .ok (.ireturn, 1) := by decide +kernel
theorem smd_S_placeInDraft_0 : decode prog_1_method_30_code 0 = .ok (.aload_n 1, 1) := by decide +kernel
theorem smd_S_placeInDraft_1 : decode prog_1_method_30_code 1 = .ok (.getfield 142, 3) := by decide +kernel
theorem smd_S_placeInDraft_4 : decode prog_1_method_30_code 4 = .ok (.aload_n 1, 1) := by decide +kernel
theorem smd_S_placeInDraft_5 : decode prog_1_method_30_code 5 = .ok (.getfield 139, 3) := by decide +kernel
theorem smd_S_placeInDraft_8 : decode prog_1_method_30_code 8 = .ok (.iconst 1, 1) := by decide +kernel
theorem smd_S_placeInDraft_9 : decode prog_1_method_30_code 9 = .ok (.isub, 1) := by decide +kernel
theorem smd_S_placeInDraft_10 : decode prog_1_method_30_code 10 = .ok (.iaload, 1) := by decide +kernel
theorem smd_S_placeInDraft_11 : decode prog_1_method_30_code 11 = .ok (.istore_n 2, 1) := by decide +kernel
theorem smd_S_placeInDraft_12 : decode prog_1_method_30_code 12 = .ok (.iload_n 2, 1) := by decide +kernel
theorem smd_S_placeInDraft_13 : decode prog_1_method_30_code 13 = .ok (.aload_n 1, 1) := by decide +kernel
theorem smd_S_placeInDraft_14 : decode prog_1_method_30_code 14 = .ok (.getfield 145, 3) := by decide +kernel
theorem smd_S_placeInDraft_17 : decode prog_1_method_30_code 17 = .ok (.aload_n 1, 1) := by decide +kernel
theorem smd_S_placeInDraft_18 : decode prog_1_method_30_code 18 = .ok (.getfield 139, 3) := by decide +kernel
theorem smd_S_placeInDraft_21 : decode prog_1_method_30_code 21 = .ok (.iconst 1, 1) := by decide +kernel
theorem smd_S_placeInDraft_22 : decode prog_1_method_30_code 22 = .ok (.isub, 1) := by decide +kernel
theorem smd_S_placeInDraft_23 : decode prog_1_method_30_code 23 = .ok (.iaload, 1) := by decide +kernel
theorem smd_S_placeInDraft_24 : decode prog_1_method_30_code 24 = .ok (.invokestatic 185, 3) := by decide +kernel
theorem smd_S_placeInDraft_27 : decode prog_1_method_30_code 27 = .ok (.istore_n 3, 1) := by decide +kernel
theorem smd_S_placeInDraft_28 : decode prog_1_method_30_code 28 = .ok (.aload_n 0, 1) := by decide +kernel
theorem smd_S_placeInDraft_29 : decode prog_1_method_30_code 29 = .ok (.getfield 10, 3) := by decide +kernel
theorem smd_S_placeInDraft_32 : decode prog_1_method_30_code 32 = .ok (.getfield 188, 3) := by decide +kernel
theorem smd_S_placeInDraft_35 : decode prog_1_method_30_code 35 = .ok (.iload_n 3, 1) := by decide +kernel
theorem smd_S_placeInDraft_36 : decode prog_1_method_30_code 36 = .ok (.iaload, 1) := by decide +kernel
theorem smd_S_placeInDraft_37 : decode prog_1_method_30_code 37 = .ok (.bipush 12, 2) := by decide +kernel
theorem smd_S_placeInDraft_39 : decode prog_1_method_30_code 39 = .ok (.if_icmp .ne 23, 3) := by decide +kernel
theorem smd_S_placeInDraft_42 : decode prog_1_method_30_code 42 = .ok (.aload_n 0, 1) := by decide +kernel
theorem smd_S_placeInDraft_43 : decode prog_1_method_30_code 43 = .ok (.getfield 16, 3) := by decide +kernel
theorem smd_S_placeInDraft_46 : decode prog_1_method_30_code 46 = .ok (.iload_n 2, 1) := by decide +kernel
theorem smd_S_placeInDraft_47 : decode prog_1_method_30_code 47 = .ok (.aload_n 0, 1) := by decide +kernel
theorem smd_S_placeInDraft_48 : decode prog_1_method_30_code 48 = .ok (.getfield 10, 3) := by decide +kernel
theorem smd_S_placeInDraft_51 : decode prog_1_method_30_code 51 = .ok (.getfield 191, 3) := by decide +kernel
theorem smd_S_placeInDraft_54 : decode prog_1_method_30_code 54 = .ok (.iload_n 3, 1) := by decide +kernel
theorem smd_S_placeInDraft_55 : decode prog_1_method_30_code 55 = .ok (.iaload, 1) := by decide +kernel
theorem smd_S_placeInDraft_56 : decode prog_1_method_30_code 56 = .ok (.invokevirtual 194, 3) := by decide +kernel
theorem smd_S_placeInDraft_59 : decode prog_1_method_30_code 59 = .ok (.goto 4, 3) := by decide +kernel
theorem smd_S_placeInDraft_62 : decode prog_1_method_30_code 62 = .ok (.iconst (-1), 1) := by decide +kernel
theorem smd_S_placeInDraft_63 : decode prog_1_method_30_code 63 = .ok (.ireturn, 1) := by decide +kernel
theorem smd_S_takeThePlace_0 : decode prog_1_method_31_code 0 = .ok (.aload_n 0, 1) := by decide +kernel
theorem smd_S_takeThePlace_1 : decode prog_1_method_31_code 1 = .ok (.invokevirtual 197, 3) := by decide +kernel
theorem smd_S_takeThePlace_4 : decode prog_1_method_31_code 4 = .ok (.aload_n 0, 1) := by decide +kernel
theorem smd_S_takeThePlace_5 : decode prog_1_method_31_code 5 = .ok (.getfield 10, 3) := by decide +kernel
theorem smd_S_takeThePlace_8 : decode prog_1_method_31_code 8 = .ok (.aload_n 0, 1) := by decide +kernel
theorem smd_S_takeThePlace_9 : decode prog_1_method_31_code 9 = .ok (.getfield 16, 3) := by decide +kernel
theorem smd_S_takeThePlace_12 : decode prog_1_method_31_code 12 = .ok (.invokevirtual 73, 3) := by decide +kernel
theorem smd_S_takeThePlace_15 : decode prog_1_method_31_code 15 = .ok (.aload_n 0, 1) := by decide +kernel
theorem smd_S_takeThePlace_16 : decode prog_1_method_31_code 16 = .ok (.getfield 22, 3) := by decide +kernel
theorem smd_S_takeThePlace_19 : decode prog_1_method_31_code 19 = .ok (.invokevirtual 77, 3) := by decide +kernel
theorem smd_S_takeThePlace_22 : decode prog_1_method_31_code 22 = .ok (.aload_n 0, 1) := by decide +kernel
theorem smd_S_takeThePlace_23 : decode prog_1_method_31_code 23 = .ok (.dup, 1) := by decide +kernel
theorem smd_S_takeThePlace_24 : decode prog_1_method_31_code 24 = .ok (.getfield 106, 3) := by decide +kernel
theorem smd_S_takeThePlace_27 : decode prog_1_method_31_code 27 = .ok (.iconst 1, 1) := by decide +kernel
theorem smd_S_takeThePlace_28 : decode prog_1_method_31_code 28 = .ok (.iadd, 1) := by decide +kernel
theorem smd_S_takeThePlace_29 : decode prog_1_method_31_code 29 = .ok (.putfield 106, 3) := by decide +kernel
theorem smd_S_takeThePlace_32 : decode prog_1_method_31_code 32 = .ok (.aload_n 0, 1) := by decide +kernel
theorem smd_S_takeThePlace_33 : decode prog_1_method_31_code 33 = .ok (.iconst 0, 1) := by decide +kernel
theorem smd_S_takeThePlace_34 : decode prog_1_method_31_code 34 = .ok (.putfield 51, 3) := by decide +kernel
theorem smd_S_takeThePlace_37 : decode prog_1_method_31_code 37 = .ok (.return_, 1) := by decide +kernel
theorem smd_S_moveFrames_0 : decode prog_1_method_32_code 0 = .ok (.iconst 0, 1) := by decide +kernel
theorem smd_S_moveFrames_1 : decode prog_1_method_32_code 1 = .ok (.istore_n 1, 1) := by decide +kernel
theorem smd_S_moveFrames_2 : decode prog_1_method_32_code 2 = .ok (.iload_n 1, 1) := by decide +kernel
theorem smd_S_moveFrames_3 : decode prog_1_method_32_code 3 = .ok (.aload_n 0, 1) := by decide +kernel
theorem smd_S_moveFrames_4 : decode prog_1_method_32_code 4 = .ok (.getfield 113, 3) := by decide +kernel
theorem smd_S_moveFrames_7 : decode prog_1_method_32_code 7 = .ok (.if_icmp .ge 57, 3) := by decide +kernel
theorem smd_S_moveFrames_10 : decode prog_1_method_32_code 10 = .ok (.aload_n 0, 1) := by decide +kernel
theorem smd_S_moveFrames_11 : decode prog_1_method_32_code 11 = .ok (.getfield 39, 3) := by decide +kernel
theorem smd_S_moveFrames_14 : decode prog_1_method_32_code 14 = .ok (.iload_n 1, 1) := by decide +kernel
theorem smd_S_moveFrames_15 : decode prog_1_method_32_code 15 = .ok (.aaload, 1) := by decide +kernel
theorem smd_S_moveFrames_16 : decode prog_1_method_32_code 16 = .ok (.astore_n 2, 1) := by decide +kernel
theorem smd_S_moveFrames_17 : decode prog_1_method_32_code 17 = .ok (.aload_n 2, 1) := by decide +kernel
theorem smd_S_moveFrames_18 : decode prog_1_method_32_code 18 = .ok (.getfield 139, 3) := by decide +kernel
theorem smd_S_moveFrames_21 : decode prog_1_method_32_code 21 = .ok (.ifCond .le 37, 3) := by decide +kernel
theorem smd_S_moveFrames_24 : decode prog_1_method_32_code 24 = .ok (.aload_n 0, 1) := by decide +kernel
theorem smd_S_moveFrames_25 : decode prog_1_method_32_code 25 = .ok (.aload_n 2, 1) := by decide +kernel
theorem smd_S_moveFrames_26 : decode prog_1_method_32_code 26 = .ok (.getfield 142, 3) := by decide +kernel
theorem smd_S_moveFrames_29 : decode prog_1_method_32_code 29 = .ok (.aload_n 2, 1) := by decide +kernel
theorem smd_S_moveFrames_30 : decode prog_1_method_32_code 30 = .ok (.getfield 139, 3) := by decide +kernel
theorem smd_S_moveFrames_33 : decode prog_1_method_32_code 33 = .ok (.iconst 1, 1) := by decide +kernel
theorem smd_S_moveFrames_34 : decode prog_1_method_32_code 34 = .ok (.isub, 1) := by decide +kernel
theorem smd_S_moveFrames_35 : decode prog_1_method_32_code 35 = .ok (.iaload, 1) := by decide +kernel
theorem smd_S_moveFrames_36 : decode prog_1_method_32_code 36 = .ok (.invokevirtual 88, 3) := by decide +kernel
theorem smd_S_moveFrames_39 : decode prog_1_method_32_code 39 = .ok (.ifCond .eq 19, 3) := by decide +kernel
theorem smd_S_moveFrames_42 : decode prog_1_method_32_code 42 = .ok (.aload_n 2, 1) := by decide +kernel
theorem smd_S_moveFrames_43 : decode prog_1_method_32_code 43 = .ok (.getfield 145, 3) := by decide +kernel
theorem smd_S_moveFrames_46 : decode prog_1_method_32_code 46 = .ok (.aload_n 2, 1) := by decide +kernel
theorem smd_S_moveFrames_47 : decode prog_1_method_32_code 47 = .ok (.getfield 139, 3) := by decide +kernel
theorem smd_S_moveFrames_50 : decode prog_1_method_32_code 50 = .ok (.iconst 1, 1) := by decide +kernel
theorem smd_S_moveFrames_51 : decode prog_1_method_32_code 51 = .ok (.isub, 1) := by decide +kernel
theorem smd_S_moveFrames_52 : decode prog_1_method_32_code 52 = .ok (.aload_n 0, 1) := by decide +kernel
theorem smd_S_moveFrames_53 : decode prog_1_method_32_code 53 = .ok (.aload_n 2, 1) := by decide +kernel
theorem smd_S_moveFrames_54 : decode prog_1_method_32_code 54 = .ok (.invokevirtual 181, 3) := by decide +kernel
theorem smd_S_moveFrames_57 : decode prog_1_method_32_code 57 = .ok (.iastore, 1) := by decide +kernel
theorem smd_S_moveFrames_58 : decode prog_1_method_32_code 58 = .ok (.iinc 1 1, 3) := by decide +kernel
theorem smd_S_moveFrames_61 : decode prog_1_method_32_code 61 = .ok (.goto (-59), 3) := by decide +kernel
theorem smd_S_moveFrames_64 : decode prog_1_method_32_code 64 = .ok (.return_, 1) := by decide +kernel
theorem smd_S_dropUnreachable_0 : decode prog_1_method_33_code 0 = .ok (.aload_n 0, 1) := by decide +kernel
theorem smd_S_dropUnreachable_1 : decode prog_1_method_33_code 1 = .ok (.getfield 29, 3) := by decide +kernel
theorem smd_S_dropUnreachable_4 : decode prog_1_method_33_code 4 = .ok (.invokevirtual 200, 3) := by decide +kernel
theorem smd_S_dropUnreachable_7 : decode prog_1_method_33_code 7 = .ok (.iconst 0, 1) := by decide +kernel
theorem smd_S_dropUnreachable_8 : decode prog_1_method_33_code 8 = .ok (.istore_n 1, 1) := by decide +kernel
theorem smd_S_dropUnreachable_9 : decode prog_1_method_33_code 9 = .ok (.iload_n 1, 1) := by decide +kernel
theorem smd_S_dropUnreachable_10 : decode prog_1_method_33_code 10 = .ok (.iconst 4, 1) := by decide +kernel
theorem smd_S_dropUnreachable_11 : decode prog_1_method_33_code 11 = .ok (.if_icmp .ge 22, 3) := by decide +kernel
theorem smd_S_dropUnreachable_14 : decode prog_1_method_33_code 14 = .ok (.aload_n 0, 1) := by decide +kernel
theorem smd_S_dropUnreachable_15 : decode prog_1_method_33_code 15 = .ok (.getfield 29, 3) := by decide +kernel
theorem smd_S_dropUnreachable_18 : decode prog_1_method_33_code 18 = .ok (.aload_n 0, 1) := by decide +kernel
theorem smd_S_dropUnreachable_19 : decode prog_1_method_33_code 19 = .ok (.getfield 33, 3) := by decide +kernel
theorem smd_S_dropUnreachable_22 : decode prog_1_method_33_code 22 = .ok (.iload_n 1, 1) := by decide +kernel
theorem smd_S_dropUnreachable_23 : decode prog_1_method_33_code 23 = .ok (.iaload, 1) := by decide +kernel
theorem smd_S_dropUnreachable_24 : decode prog_1_method_33_code 24 = .ok (.invokevirtual 203, 3) := by decide +kernel
theorem smd_S_dropUnreachable_27 : decode prog_1_method_33_code 27 = .ok (.iinc 1 1, 3) := by decide +kernel
theorem smd_S_dropUnreachable_30 : decode prog_1_method_33_code 30 = .ok (.goto (-21), 3) := by decide +kernel
theorem smd_S_dropUnreachable_33 : decode prog_1_method_33_code 33 = .ok (.iconst 0, 1) := by decide +kernel
theorem smd_S_dropUnreachable_34 : decode prog_1_method_33_code 34 = .ok (.istore_n 1, 1) := by decide +kernel
theorem smd_S_dropUnreachable_35 : decode prog_1_method_33_code 35 = .ok (.iload_n 1, 1) := by decide +kernel
theorem smd_S_dropUnreachable_36 : decode prog_1_method_33_code 36 = .ok (.aload_n 0, 1) := by decide +kernel
theorem smd_S_dropUnreachable_37 : decode prog_1_method_33_code 37 = .ok (.getfield 113, 3) := by decide +kernel
theorem smd_S_dropUnreachable_40 : decode prog_1_method_33_code 40 = .ok (.if_icmp .ge 47, 3) := by decide +kernel
theorem smd_S_dropUnreachable_43 : decode prog_1_method_33_code 43 = .ok (.aload_n 0, 1) := by decide +kernel
theorem smd_S_dropUnreachable_44 : decode prog_1_method_33_code 44 = .ok (.getfield 39, 3) := by decide +kernel
theorem smd_S_dropUnreachable_47 : decode prog_1_method_33_code 47 = .ok (.iload_n 1, 1) := by decide +kernel
theorem smd_S_dropUnreachable_48 : decode prog_1_method_33_code 48 = .ok (.aaload, 1) := by decide +kernel
theorem smd_S_dropUnreachable_49 : decode prog_1_method_33_code 49 = .ok (.astore_n 2, 1) := by decide +kernel
theorem smd_S_dropUnreachable_50 : decode prog_1_method_33_code 50 = .ok (.iconst 0, 1) := by decide +kernel
theorem smd_S_dropUnreachable_51 : decode prog_1_method_33_code 51 = .ok (.istore_n 3, 1) := by decide +kernel
theorem smd_S_dropUnreachable_52 : decode prog_1_method_33_code 52 = .ok (.iload_n 3, 1) := by decide +kernel
theorem smd_S_dropUnreachable_53 : decode prog_1_method_33_code 53 = .ok (.aload_n 2, 1) := by decide +kernel
theorem smd_S_dropUnreachable_54 : decode prog_1_method_33_code 54 = .ok (.getfield 139, 3) := by decide +kernel
theorem smd_S_dropUnreachable_57 : decode prog_1_method_33_code 57 = .ok (.iconst 3, 1) := by decide +kernel
theorem smd_S_dropUnreachable_58 : decode prog_1_method_33_code 58 = .ok (.imul, 1) := by decide +kernel
theorem smd_S_dropUnreachable_59 : decode prog_1_method_33_code 59 = .ok (.if_icmp .ge 22, 3) := by decide +kernel
theorem smd_S_dropUnreachable_62 : decode prog_1_method_33_code 62 = .ok (.aload_n 0, 1) := by decide +kernel
theorem smd_S_dropUnreachable_63 : decode prog_1_method_33_code 63 = .ok (.getfield 29, 3) := by decide +kernel
theorem smd_S_dropUnreachable_66 : decode prog_1_method_33_code 66 = .ok (.aload_n 2, 1) := by decide +kernel
theorem smd_S_dropUnreachable_67 : decode prog_1_method_33_code 67 = .ok (.getfield 148, 3) := by decide +kernel
theorem smd_S_dropUnreachable_70 : decode prog_1_method_33_code 70 = .ok (.iload_n 3, 1) := by decide +kernel
theorem smd_S_dropUnreachable_71 : decode prog_1_method_33_code 71 = .ok (.iaload, 1) := by decide +kernel
theorem smd_S_dropUnreachable_72 : decode prog_1_method_33_code 72 = .ok (.invokevirtual 203, 3) := by decide +kernel
theorem smd_S_dropUnreachable_75 : decode prog_1_method_33_code 75 = .ok (.iinc 3 1, 3) := by decide +kernel
theorem smd_S_dropUnreachable_78 : decode prog_1_method_33_code 78 = .ok (.goto (-26), 3) := by decide +kernel
theorem smd_S_dropUnreachable_81 : decode prog_1_method_33_code 81 = .ok (.iinc 1 1, 3) := by decide +kernel
theorem smd_S_dropUnreachable_84 : decode prog_1_method_33_code 84 = .ok (.goto (-49), 3) := by decide +kernel
theorem smd_S_dropUnreachable_87 : decode prog_1_method_33_code 87 = .ok (.aload_n 0, 1) := by decide +kernel
theorem smd_S_dropUnreachable_88 : decode prog_1_method_33_code 88 = .ok (.getfield 29, 3) := by decide +kernel
theorem smd_S_dropUnreachable_91 : decode prog_1_method_33_code 91 = .ok (.invokevirtual 206, 3) := by decide +kernel
theorem smd_S_dropUnreachable_94 : decode prog_1_method_33_code 94 = .ok (.aload_n 0, 1) := by decide +kernel
theorem smd_S_dropUnreachable_95 : decode prog_1_method_33_code 95 = .ok (.getfield 29, 3) := by decide +kernel
theorem smd_S_dropUnreachable_98 : decode prog_1_method_33_code 98 = .ok (.invokevirtual 209, 3) := by decide +kernel
theorem smd_S_dropUnreachable_101 : decode prog_1_method_33_code 101 = .ok (.ireturn, 1) := by decide +kernel
end
section
theorem smd_S_perform_0 : decode prog_1_method_34_code 0 = .ok (.aload_n 1, 1) := by decide +kernel
theorem smd_S_perform_1 : decode prog_1_method_34_code 1 = .ok (.getfield 139, 3) := by decide +kernel
theorem smd_S_perform_4 : decode prog_1_method_34_code 4 = .ok (.iconst 1, 1) := by decide +kernel
theorem smd_S_perform_5 : decode prog_1_method_34_code 5 = .ok (.isub, 1) := by decide +kernel
theorem smd_S_perform_6 : decode prog_1_method_34_code 6 = .ok (.istore_n 2, 1) := by decide +kernel
theorem smd_S_perform_7 : decode prog_1_method_34_code 7 = .ok (.aload_n 1, 1) := by decide +kernel
theorem smd_S_perform_8 : decode prog_1_method_34_code 8 = .ok (.getfield 142, 3) := by decide +kernel
theorem smd_S_perform_11 : decode prog_1_method_34_code 11 = .ok (.iload_n 2, 1) := by decide +kernel
theorem smd_S_perform_12 : decode prog_1_method_34_code 12 = .ok (.iaload, 1) := by decide +kernel
theorem smd_S_perform_13 : decode prog_1_method_34_code 13 = .ok (.aload_n 1, 1) := by decide +kernel
theorem smd_S_perform_14 : decode prog_1_method_34_code 14 = .ok (.getfield 145, 3) := by decide +kernel
theorem smd_S_perform_17 : decode prog_1_method_34_code 17 = .ok (.iload_n 2, 1) := by decide +kernel
theorem smd_S_perform_18 : decode prog_1_method_34_code 18 = .ok (.iaload, 1) := by decide +kernel
theorem smd_S_perform_19 : decode prog_1_method_34_code 19 = .ok (.invokestatic 185, 3) := by decide +kernel
theorem smd_S_perform_22 : decode prog_1_method_34_code 22 = .ok (.istore_n 3, 1) := by decide +kernel
theorem smd_S_perform_23 : decode prog_1_method_34_code 23 = .ok (.aload_n 0, 1) := by decide +kernel
theorem smd_S_perform_24 : decode prog_1_method_34_code 24 = .ok (.getfield 10, 3) := by decide +kernel
theorem smd_S_perform_27 : decode prog_1_method_34_code 27 = .ok (.getfield 188, 3) := by decide +kernel
theorem smd_S_perform_30 : decode prog_1_method_34_code 30 = .ok (.iload_n 3, 1) := by decide +kernel
theorem smd_S_perform_31 : decode prog_1_method_34_code 31 = .ok (.iaload, 1) := by decide +kernel
theorem smd_S_perform_32 : decode prog_1_method_34_code 32 = .ok (.bipush 11, 2) := by decide +kernel
theorem smd_S_perform_34 : decode prog_1_method_34_code 34 = .ok (.if_icmp .ne 16, 3) := by decide +kernel
theorem smd_S_perform_37 : decode prog_1_method_34_code 37 = .ok (.aload_n 1, 1) := by decide +kernel
theorem smd_S_perform_38 : decode prog_1_method_34_code 38 = .ok (.getfield 130, 3) := by decide +kernel
theorem smd_S_perform_41 : decode prog_1_method_34_code 41 = .ok (.ifCond .ne 9, 3) := by decide +kernel
theorem smd_S_perform_44 : decode prog_1_method_34_code 44 = .ok (.aload_n 1, 1) := by decide +kernel
theorem smd_S_perform_45 : decode prog_1_method_34_code 45 = .ok (.iconst 1, 1) := by decide +kernel
theorem smd_S_perform_46 : decode prog_1_method_34_code 46 = .ok (.putfield 123, 3) := by decide +kernel
theorem smd_S_perform_49 : decode prog_1_method_34_code 49 = .ok (.return_, 1) := by decide +kernel
theorem smd_S_perform_50 : decode prog_1_method_34_code 50 = .ok (.aload_n 1, 1) := by decide +kernel
theorem smd_S_perform_51 : decode prog_1_method_34_code 51 = .ok (.getfield 145, 3) := by decide +kernel
theorem smd_S_perform_54 : decode prog_1_method_34_code 54 = .ok (.iload_n 2, 1) := by decide +kernel
theorem smd_S_perform_55 : decode prog_1_method_34_code 55 = .ok (.dup2, 1) := by decide +kernel
theorem smd_S_perform_56 : decode prog_1_method_34_code 56 = .ok (.iaload, 1) := by decide +kernel
theorem smd_S_perform_57 : decode prog_1_method_34_code 57 = .ok (.iconst 1, 1) := by decide +kernel
theorem smd_S_perform_58 : decode prog_1_method_34_code 58 = .ok (.iadd, 1) := by decide +kernel
theorem smd_S_perform_59 : decode prog_1_method_34_code 59 = .ok (.iastore, 1) := by decide +kernel
theorem smd_S_perform_60 : decode prog_1_method_34_code 60 = .ok (.aload_n 0, 1) := by decide +kernel
theorem smd_S_perform_61 : decode prog_1_method_34_code 61 = .ok (.getfield 10, 3) := by decide +kernel
theorem smd_S_perform_64 : decode prog_1_method_34_code 64 = .ok (.getfield 191, 3) := by decide +kernel
theorem smd_S_perform_67 : decode prog_1_method_34_code 67 = .ok (.iload_n 3, 1) := by decide +kernel
theorem smd_S_perform_68 : decode prog_1_method_34_code 68 = .ok (.iaload, 1) := by decide +kernel
theorem smd_S_perform_69 : decode prog_1_method_34_code 69 = .ok (.istore 4, 2) := by decide +kernel
theorem smd_S_perform_71 : decode prog_1_method_34_code 71 = .ok (.aload_n 0, 1) := by decide +kernel
theorem smd_S_perform_72 : decode prog_1_method_34_code 72 = .ok (.getfield 10, 3) := by decide +kernel
theorem smd_S_perform_75 : decode prog_1_method_34_code 75 = .ok (.getfield 212, 3) := by decide +kernel
theorem smd_S_perform_78 : decode prog_1_method_34_code 78 = .ok (.iload_n 3, 1) := by decide +kernel
theorem smd_S_perform_79 : decode prog_1_method_34_code 79 = .ok (.iaload, 1) := by decide +kernel
theorem smd_S_perform_80 : decode prog_1_method_34_code 80 = .ok (.istore 5, 2) := by decide +kernel
theorem smd_S_perform_82 : decode prog_1_method_34_code 82 = .ok (.aload_n 0, 1) := by decide +kernel
theorem smd_S_perform_83 : decode prog_1_method_34_code 83 = .ok (.getfield 10, 3) := by decide +kernel
theorem smd_S_perform_86 : decode prog_1_method_34_code 86 = .ok (.getfield 215, 3) := by decide +kernel
theorem smd_S_perform_89 : decode prog_1_method_34_code 89 = .ok (.iload_n 3, 1) := by decide +kernel
theorem smd_S_perform_90 : decode prog_1_method_34_code 90 = .ok (.iaload, 1) := by decide +kernel
theorem smd_S_perform_91 : decode prog_1_method_34_code 91 = .ok (.istore 6, 2) := by decide +kernel
theorem smd_S_perform_93 : decode prog_1_method_34_code 93 = .ok (.aload_n 0, 1) := by decide +kernel
theorem smd_S_perform_94 : decode prog_1_method_34_code 94 = .ok (.getfield 10, 3) := by decide +kernel
theorem smd_S_perform_97 : decode prog_1_method_34_code 97 = .ok (.getfield 188, 3) := by decide +kernel
theorem smd_S_perform_100 : decode prog_1_method_34_code 100 = .ok (.iload_n 3, 1) := by decide +kernel
theorem smd_S_perform_101 : decode prog_1_method_34_code 101 = .ok (.iaload, 1) := by decide +kernel
theorem smd_S_perform_102 : decode prog_1_method_34_code 102 = .ok (.tableswitch 257 0 11 #[62, 75, 86, 108, 130, 159, 172, 184, 198, 212, 228, 244], 62) := by decide +kernel
theorem smd_S_perform_164 : decode prog_1_method_34_code 164 = .ok (.aload_n 1, 1) := by decide +kernel
theorem smd_S_perform_165 : decode prog_1_method_34_code 165 = .ok (.aload_n 1, 1) := by decide +kernel
theorem smd_S_perform_166 : decode prog_1_method_34_code 166 = .ok (.iload 4, 2) := by decide +kernel
theorem smd_S_perform_168 : decode prog_1_method_34_code 168 = .ok (.invokevirtual 218, 3) := by decide +kernel
theorem smd_S_perform_171 : decode prog_1_method_34_code 171 = .ok (.invokevirtual 221, 3) := by decide +kernel
theorem smd_S_perform_174 : decode prog_1_method_34_code 174 = .ok (.goto 185, 3) := by decide +kernel
theorem smd_S_perform_177 : decode prog_1_method_34_code 177 = .ok (.aload_n 1, 1) := by decide +kernel
theorem smd_S_perform_178 : decode prog_1_method_34_code 178 = .ok (.iload 4, 2) := by decide +kernel
theorem smd_S_perform_180 : decode prog_1_method_34_code 180 = .ok (.iload 5, 2) := by decide +kernel
theorem smd_S_perform_182 : decode prog_1_method_34_code 182 = .ok (.invokevirtual 224, 3) := by decide +kernel
theorem smd_S_perform_185 : decode prog_1_method_34_code 185 = .ok (.goto 174, 3) := by decide +kernel
theorem smd_S_perform_188 : decode prog_1_method_34_code 188 = .ok (.aload_n 1, 1) := by decide +kernel
theorem smd_S_perform_189 : decode prog_1_method_34_code 189 = .ok (.iload 4, 2) := by decide +kernel
theorem smd_S_perform_191 : decode prog_1_method_34_code 191 = .ok (.aload_n 1, 1) := by decide +kernel
theorem smd_S_perform_192 : decode prog_1_method_34_code 192 = .ok (.iload 5, 2) := by decide +kernel
theorem smd_S_perform_194 : decode prog_1_method_34_code 194 = .ok (.invokevirtual 218, 3) := by decide +kernel
theorem smd_S_perform_197 : decode prog_1_method_34_code 197 = .ok (.aload_n 1, 1) := by decide +kernel
theorem smd_S_perform_198 : decode prog_1_method_34_code 198 = .ok (.iload 6, 2) := by decide +kernel
theorem smd_S_perform_200 : decode prog_1_method_34_code 200 = .ok (.invokevirtual 218, 3) := by decide +kernel
theorem smd_S_perform_203 : decode prog_1_method_34_code 203 = .ok (.iadd, 1) := by decide +kernel
theorem smd_S_perform_204 : decode prog_1_method_34_code 204 = .ok (.invokevirtual 224, 3) := by decide +kernel
theorem smd_S_perform_207 : decode prog_1_method_34_code 207 = .ok (.goto 152, 3) := by decide +kernel
theorem smd_S_perform_210 : decode prog_1_method_34_code 210 = .ok (.aload_n 1, 1) := by decide +kernel
theorem smd_S_perform_211 : decode prog_1_method_34_code 211 = .ok (.iload 4, 2) := by decide +kernel
theorem smd_S_perform_213 : decode prog_1_method_34_code 213 = .ok (.aload_n 1, 1) := by decide +kernel
theorem smd_S_perform_214 : decode prog_1_method_34_code 214 = .ok (.iload 5, 2) := by decide +kernel
theorem smd_S_perform_216 : decode prog_1_method_34_code 216 = .ok (.invokevirtual 218, 3) := by decide +kernel
theorem smd_S_perform_219 : decode prog_1_method_34_code 219 = .ok (.aload_n 1, 1) := by decide +kernel
theorem smd_S_perform_220 : decode prog_1_method_34_code 220 = .ok (.iload 6, 2) := by decide +kernel
theorem smd_S_perform_222 : decode prog_1_method_34_code 222 = .ok (.invokevirtual 218, 3) := by decide +kernel
theorem smd_S_perform_225 : decode prog_1_method_34_code 225 = .ok (.isub, 1) := by decide +kernel
theorem smd_S_perform_226 : decode prog_1_method_34_code 226 = .ok (.invokevirtual 224, 3) := by decide +kernel
theorem smd_S_perform_229 : decode prog_1_method_34_code 229 = .ok (.goto 130, 3) := by decide +kernel
theorem smd_S_perform_232 : decode prog_1_method_34_code 232 = .ok (.aload_n 1, 1) := by decide +kernel
theorem smd_S_perform_233 : decode prog_1_method_34_code 233 = .ok (.getfield 145, 3) := by decide +kernel
theorem smd_S_perform_236 : decode prog_1_method_34_code 236 = .ok (.iload_n 2, 1) := by decide +kernel
theorem smd_S_perform_237 : decode prog_1_method_34_code 237 = .ok (.aload_n 1, 1) := by decide +kernel
theorem smd_S_perform_238 : decode prog_1_method_34_code 238 = .ok (.iload 4, 2) := by decide +kernel
theorem smd_S_perform_240 : decode prog_1_method_34_code 240 = .ok (.invokevirtual 218, 3) := by decide +kernel
theorem smd_S_perform_243 : decode prog_1_method_34_code 243 = .ok (.ifCond .ne 8, 3) := by decide +kernel
theorem smd_S_perform_246 : decode prog_1_method_34_code 246 = .ok (.iload 5, 2) := by decide +kernel
theorem smd_S_perform_248 : decode prog_1_method_34_code 248 = .ok (.goto 9, 3) := by decide +kernel
theorem smd_S_perform_251 : decode prog_1_method_34_code 251 = .ok (.aload_n 1, 1) := by decide +kernel
theorem smd_S_perform_252 : decode prog_1_method_34_code 252 = .ok (.getfield 145, 3) := by decide +kernel
theorem smd_S_perform_255 : decode prog_1_method_34_code 255 = .ok (.iload_n 2, 1) := by decide +kernel
theorem smd_S_perform_256 : decode prog_1_method_34_code 256 = .ok (.iaload, 1) := by decide +kernel
theorem smd_S_perform_257 : decode prog_1_method_34_code 257 = .ok (.iastore, 1) := by decide +kernel
theorem smd_S_perform_258 : decode prog_1_method_34_code 258 = .ok (.goto 101, 3) := by decide +kernel
theorem smd_S_perform_261 : decode prog_1_method_34_code 261 = .ok (.aload_n 1, 1) := by decide +kernel
theorem smd_S_perform_262 : decode prog_1_method_34_code 262 = .ok (.iload 4, 2) := by decide +kernel
theorem smd_S_perform_264 : decode prog_1_method_34_code 264 = .ok (.iload 5, 2) := by decide +kernel
theorem smd_S_perform_266 : decode prog_1_method_34_code 266 = .ok (.iload 6, 2) := by decide +kernel
theorem smd_S_perform_268 : decode prog_1_method_34_code 268 = .ok (.invokestatic 228, 3) := by decide +kernel
theorem smd_S_perform_271 : decode prog_1_method_34_code 271 = .ok (.goto 88, 3) := by decide +kernel
theorem smd_S_perform_274 : decode prog_1_method_34_code 274 = .ok (.aload_n 0, 1) := by decide +kernel
theorem smd_S_perform_275 : decode prog_1_method_34_code 275 = .ok (.aload_n 1, 1) := by decide +kernel
theorem smd_S_perform_276 : decode prog_1_method_34_code 276 = .ok (.iload 4, 2) := by decide +kernel
theorem smd_S_perform_278 : decode prog_1_method_34_code 278 = .ok (.iload 5, 2) := by decide +kernel
theorem smd_S_perform_280 : decode prog_1_method_34_code 280 = .ok (.invokevirtual 232, 3) := by decide +kernel
theorem smd_S_perform_283 : decode prog_1_method_34_code 283 = .ok (.goto 76, 3) := by decide +kernel
theorem smd_S_perform_286 : decode prog_1_method_34_code 286 = .ok (.aload_n 0, 1) := by decide +kernel
theorem smd_S_perform_287 : decode prog_1_method_34_code 287 = .ok (.aload_n 1, 1) := by decide +kernel
theorem smd_S_perform_288 : decode prog_1_method_34_code 288 = .ok (.iload 4, 2) := by decide +kernel
theorem smd_S_perform_290 : decode prog_1_method_34_code 290 = .ok (.iload 5, 2) := by decide +kernel
theorem smd_S_perform_292 : decode prog_1_method_34_code 292 = .ok (.iload 6, 2) := by decide +kernel
theorem smd_S_perform_294 : decode prog_1_method_34_code 294 = .ok (.invokevirtual 236, 3) := by decide +kernel
theorem smd_S_perform_297 : decode prog_1_method_34_code 297 = .ok (.goto 62, 3) := by decide +kernel
theorem smd_S_perform_300 : decode prog_1_method_34_code 300 = .ok (.aload_n 0, 1) := by decide +kernel
theorem smd_S_perform_301 : decode prog_1_method_34_code 301 = .ok (.aload_n 1, 1) := by decide +kernel
theorem smd_S_perform_302 : decode prog_1_method_34_code 302 = .ok (.iload 4, 2) := by decide +kernel
theorem smd_S_perform_304 : decode prog_1_method_34_code 304 = .ok (.iload 5, 2) := by decide +kernel
theorem smd_S_perform_306 : decode prog_1_method_34_code 306 = .ok (.iload 6, 2) := by decide +kernel
theorem smd_S_perform_308 : decode prog_1_method_34_code 308 = .ok (.invokevirtual 239, 3) := by decide +kernel
theorem smd_S_perform_311 : decode prog_1_method_34_code 311 = .ok (.goto 48, 3) := by decide +kernel
theorem smd_S_perform_314 : decode prog_1_method_34_code 314 = .ok (.aload_n 1, 1) := by decide +kernel
theorem smd_S_perform_315 : decode prog_1_method_34_code 315 = .ok (.iload 4, 2) := by decide +kernel
theorem smd_S_perform_317 : decode prog_1_method_34_code 317 = .ok (.aload_n 0, 1) := by decide +kernel
theorem smd_S_perform_318 : decode prog_1_method_34_code 318 = .ok (.getfield 33, 3) := by decide +kernel
theorem smd_S_perform_321 : decode prog_1_method_34_code 321 = .ok (.iload 5, 2) := by decide +kernel
theorem smd_S_perform_323 : decode prog_1_method_34_code 323 = .ok (.iaload, 1) := by decide +kernel
theorem smd_S_perform_324 : decode prog_1_method_34_code 324 = .ok (.invokevirtual 224, 3) := by decide +kernel
theorem smd_S_perform_327 : decode prog_1_method_34_code 327 = .ok (.goto 32, 3) := by decide +kernel
theorem smd_S_perform_330 : decode prog_1_method_34_code 330 = .ok (.aload_n 0, 1) := by decide +kernel
theorem smd_S_perform_331 : decode prog_1_method_34_code 331 = .ok (.getfield 33, 3) := by decide +kernel
theorem smd_S_perform_334 : decode prog_1_method_34_code 334 = .ok (.iload 5, 2) := by decide +kernel
theorem smd_S_perform_336 : decode prog_1_method_34_code 336 = .ok (.aload_n 1, 1) := by decide +kernel
theorem smd_S_perform_337 : decode prog_1_method_34_code 337 = .ok (.iload 4, 2) := by decide +kernel
theorem smd_S_perform_339 : decode prog_1_method_34_code 339 = .ok (.invokevirtual 218, 3) := by decide +kernel
theorem smd_S_perform_342 : decode prog_1_method_34_code 342 = .ok (.iastore, 1) := by decide +kernel
theorem smd_S_perform_343 : decode prog_1_method_34_code 343 = .ok (.goto 16, 3) := by decide +kernel
theorem smd_S_perform_346 : decode prog_1_method_34_code 346 = .ok (.aload_n 1, 1) := by decide +kernel
theorem smd_S_perform_347 : decode prog_1_method_34_code 347 = .ok (.iload 4, 2) := by decide +kernel
theorem smd_S_perform_349 : decode prog_1_method_34_code 349 = .ok (.aload_n 1, 1) := by decide +kernel
theorem smd_S_perform_350 : decode prog_1_method_34_code 350 = .ok (.invokevirtual 242, 3) := by decide +kernel
theorem smd_S_perform_353 : decode prog_1_method_34_code 353 = .ok (.invokevirtual 224, 3) := by decide +kernel
theorem smd_S_perform_356 : decode prog_1_method_34_code 356 = .ok (.goto 3, 3) := by decide +kernel
theorem smd_S_perform_359 : decode prog_1_method_34_code 359 = .ok (.return_, 1) := by decide +kernel
theorem smd_S_call_0 : decode prog_1_method_35_code 0 = .ok (.aload_n 0, 1) := by decide +kernel
theorem smd_S_call_1 : decode prog_1_method_35_code 1 = .ok (.getfield 139, 3) := by decide +kernel
theorem smd_S_call_4 : decode prog_1_method_35_code 4 = .ok (.bipush 6, 2) := by decide +kernel
theorem smd_S_call_6 : decode prog_1_method_35_code 6 = .ok (.if_icmp .lt 10, 3) := by decide +kernel
theorem smd_S_call_9 : decode prog_1_method_35_code 9 = .ok (.aload_n 0, 1) := by decide +kernel
theorem smd_S_call_10 : decode prog_1_method_35_code 10 = .ok (.invokevirtual 245, 3) := by decide +kernel
theorem smd_S_call_13 : decode prog_1_method_35_code 13 = .ok (.goto 14, 3) := by decide +kernel
theorem smd_S_call_16 : decode prog_1_method_35_code 16 = .ok (.aload_n 0, 1) := by decide +kernel
theorem smd_S_call_17 : decode prog_1_method_35_code 17 = .ok (.iload_n 2, 1) := by decide +kernel
theorem smd_S_call_18 : decode prog_1_method_35_code 18 = .ok (.aload_n 0, 1) := by decide +kernel
theorem smd_S_call_19 : decode prog_1_method_35_code 19 = .ok (.iload_n 3, 1) := by decide +kernel
theorem smd_S_call_20 : decode prog_1_method_35_code 20 = .ok (.invokevirtual 218, 3) := by decide +kernel
theorem smd_S_call_23 : decode prog_1_method_35_code 23 = .ok (.iload_n 1, 1) := by decide +kernel
theorem smd_S_call_24 : decode prog_1_method_35_code 24 = .ok (.invokevirtual 116, 3) := by decide +kernel
theorem smd_S_call_27 : decode prog_1_method_35_code 27 = .ok (.return_, 1) := by decide +kernel
theorem smd_S_makeObject_0 : decode prog_1_method_36_code 0 = .ok (.aload_n 0, 1) := by decide +kernel
theorem smd_S_makeObject_1 : decode prog_1_method_36_code 1 = .ok (.getfield 29, 3) := by decide +kernel
theorem smd_S_makeObject_4 : decode prog_1_method_36_code 4 = .ok (.invokevirtual 248, 3) := by decide +kernel
theorem smd_S_makeObject_7 : decode prog_1_method_36_code 7 = .ok (.iconst (-1), 1) := by decide +kernel
theorem smd_S_makeObject_8 : decode prog_1_method_36_code 8 = .ok (.if_icmp .ne 8, 3) := by decide +kernel
theorem smd_S_makeObject_11 : decode prog_1_method_36_code 11 = .ok (.aload_n 0, 1) := by decide +kernel
theorem smd_S_makeObject_12 : decode prog_1_method_36_code 12 = .ok (.invokevirtual 96, 3) := by decide +kernel
theorem smd_S_makeObject_15 : decode prog_1_method_36_code 15 = .ok (.pop, 1) := by decide +kernel
theorem smd_S_makeObject_16 : decode prog_1_method_36_code 16 = .ok (.aload_n 0, 1) := by decide +kernel
theorem smd_S_makeObject_17 : decode prog_1_method_36_code 17 = .ok (.getfield 29, 3) := by decide +kernel
theorem smd_S_makeObject_20 : decode prog_1_method_36_code 20 = .ok (.invokevirtual 248, 3) := by decide +kernel
theorem smd_S_makeObject_23 : decode prog_1_method_36_code 23 = .ok (.istore 4, 2) := by decide +kernel
theorem smd_S_makeObject_25 : decode prog_1_method_36_code 25 = .ok (.iload 4, 2) := by decide +kernel
theorem smd_S_makeObject_27 : decode prog_1_method_36_code 27 = .ok (.iconst (-1), 1) := by decide +kernel
theorem smd_S_makeObject_28 : decode prog_1_method_36_code 28 = .ok (.if_icmp .ne 10, 3) := by decide +kernel
theorem smd_S_makeObject_31 : decode prog_1_method_36_code 31 = .ok (.aload_n 1, 1) := by decide +kernel
theorem smd_S_makeObject_32 : decode prog_1_method_36_code 32 = .ok (.invokevirtual 245, 3) := by decide +kernel
theorem smd_S_makeObject_35 : decode prog_1_method_36_code 35 = .ok (.goto 20, 3) := by decide +kernel
theorem smd_S_makeObject_38 : decode prog_1_method_36_code 38 = .ok (.aload_n 0, 1) := by decide +kernel
theorem smd_S_makeObject_39 : decode prog_1_method_36_code 39 = .ok (.getfield 29, 3) := by decide +kernel
theorem smd_S_makeObject_42 : decode prog_1_method_36_code 42 = .ok (.iload 4, 2) := by decide +kernel
theorem smd_S_makeObject_44 : decode prog_1_method_36_code 44 = .ok (.iload_n 3, 1) := by decide +kernel
theorem smd_S_makeObject_45 : decode prog_1_method_36_code 45 = .ok (.invokevirtual 251, 3) := by decide +kernel
theorem smd_S_makeObject_48 : decode prog_1_method_36_code 48 = .ok (.aload_n 1, 1) := by decide +kernel
theorem smd_S_makeObject_49 : decode prog_1_method_36_code 49 = .ok (.iload_n 2, 1) := by decide +kernel
theorem smd_S_makeObject_50 : decode prog_1_method_36_code 50 = .ok (.iload 4, 2) := by decide +kernel
theorem smd_S_makeObject_52 : decode prog_1_method_36_code 52 = .ok (.invokevirtual 224, 3) := by decide +kernel
theorem smd_S_makeObject_55 : decode prog_1_method_36_code 55 = .ok (.return_, 1) := by decide +kernel
theorem smd_S_get_0 : decode prog_1_method_37_code 0 = .ok (.aload_n 0, 1) := by decide +kernel
theorem smd_S_get_1 : decode prog_1_method_37_code 1 = .ok (.getfield 29, 3) := by decide +kernel
theorem smd_S_get_4 : decode prog_1_method_37_code 4 = .ok (.aload_n 1, 1) := by decide +kernel
theorem smd_S_get_5 : decode prog_1_method_37_code 5 = .ok (.iload_n 3, 1) := by decide +kernel
theorem smd_S_get_6 : decode prog_1_method_37_code 6 = .ok (.invokevirtual 218, 3) := by decide +kernel
theorem smd_S_get_9 : decode prog_1_method_37_code 9 = .ok (.iload 4, 2) := by decide +kernel
theorem smd_S_get_11 : decode prog_1_method_37_code 11 = .ok (.invokevirtual 254, 3) := by decide +kernel
theorem smd_S_get_14 : decode prog_1_method_37_code 14 = .ok (.istore 5, 2) := by decide +kernel
theorem smd_S_get_16 : decode prog_1_method_37_code 16 = .ok (.iload 5, 2) := by decide +kernel
theorem smd_S_get_18 : decode prog_1_method_37_code 18 = .ok (.iconst (-1), 1) := by decide +kernel
theorem smd_S_get_19 : decode prog_1_method_37_code 19 = .ok (.if_icmp .ne 10, 3) := by decide +kernel
theorem smd_S_get_22 : decode prog_1_method_37_code 22 = .ok (.aload_n 1, 1) := by decide +kernel
theorem smd_S_get_23 : decode prog_1_method_37_code 23 = .ok (.invokevirtual 245, 3) := by decide +kernel
theorem smd_S_get_26 : decode prog_1_method_37_code 26 = .ok (.goto 18, 3) := by decide +kernel
theorem smd_S_get_29 : decode prog_1_method_37_code 29 = .ok (.aload_n 1, 1) := by decide +kernel
theorem smd_S_get_30 : decode prog_1_method_37_code 30 = .ok (.iload_n 2, 1) := by decide +kernel
theorem smd_S_get_31 : decode prog_1_method_37_code 31 = .ok (.aload_n 0, 1) := by decide +kernel
theorem smd_S_get_32 : decode prog_1_method_37_code 32 = .ok (.getfield 29, 3) := by decide +kernel
theorem smd_S_get_35 : decode prog_1_method_37_code 35 = .ok (.getfield 157, 3) := by decide +kernel
theorem smd_S_get_38 : decode prog_1_method_37_code 38 = .ok (.iload 5, 2) := by decide +kernel
theorem smd_S_get_40 : decode prog_1_method_37_code 40 = .ok (.iaload, 1) := by decide +kernel
theorem smd_S_get_41 : decode prog_1_method_37_code 41 = .ok (.invokevirtual 224, 3) := by decide +kernel
theorem smd_S_get_44 : decode prog_1_method_37_code 44 = .ok (.return_, 1) := by decide +kernel
theorem smd_S_put_0 : decode prog_1_method_38_code 0 = .ok (.aload_n 0, 1) := by decide +kernel
theorem smd_S_put_1 : decode prog_1_method_38_code 1 = .ok (.getfield 29, 3) := by decide +kernel
theorem smd_S_put_4 : decode prog_1_method_38_code 4 = .ok (.aload_n 1, 1) := by decide +kernel
theorem smd_S_put_5 : decode prog_1_method_38_code 5 = .ok (.iload_n 2, 1) := by decide +kernel
theorem smd_S_put_6 : decode prog_1_method_38_code 6 = .ok (.invokevirtual 218, 3) := by decide +kernel
theorem smd_S_put_9 : decode prog_1_method_38_code 9 = .ok (.iload 4, 2) := by decide +kernel
theorem smd_S_put_11 : decode prog_1_method_38_code 11 = .ok (.invokevirtual 254, 3) := by decide +kernel
theorem smd_S_put_14 : decode prog_1_method_38_code 14 = .ok (.istore 5, 2) := by decide +kernel
theorem smd_S_put_16 : decode prog_1_method_38_code 16 = .ok (.iload 5, 2) := by decide +kernel
theorem smd_S_put_18 : decode prog_1_method_38_code 18 = .ok (.iconst (-1), 1) := by decide +kernel
theorem smd_S_put_19 : decode prog_1_method_38_code 19 = .ok (.if_icmp .ne 10, 3) := by decide +kernel
theorem smd_S_put_22 : decode prog_1_method_38_code 22 = .ok (.aload_n 1, 1) := by decide +kernel
theorem smd_S_put_23 : decode prog_1_method_38_code 23 = .ok (.invokevirtual 245, 3) := by decide +kernel
theorem smd_S_put_26 : decode prog_1_method_38_code 26 = .ok (.goto 18, 3) := by decide +kernel
theorem smd_S_put_29 : decode prog_1_method_38_code 29 = .ok (.aload_n 0, 1) := by decide +kernel
theorem smd_S_put_30 : decode prog_1_method_38_code 30 = .ok (.getfield 29, 3) := by decide +kernel
theorem smd_S_put_33 : decode prog_1_method_38_code 33 = .ok (.getfield 157, 3) := by decide +kernel
theorem smd_S_put_36 : decode prog_1_method_38_code 36 = .ok (.iload 5, 2) := by decide +kernel
theorem smd_S_put_38 : decode prog_1_method_38_code 38 = .ok (.aload_n 1, 1) := by decide +kernel
theorem smd_S_put_39 : decode prog_1_method_38_code 39 = .ok (.iload_n 3, 1) := by decide +kernel
theorem smd_S_put_40 : decode prog_1_method_38_code 40 = .ok (.invokevirtual 218, 3) := by decide +kernel
theorem smd_S_put_43 : decode prog_1_method_38_code 43 = .ok (.iastore, 1) := by decide +kernel
theorem smd_S_put_44 : decode prog_1_method_38_code 44 = .ok (.return_, 1) := by decide +kernel
theorem smd_M_init_0 : decode prog_7_method_1_code 0 = .ok (.aload_n 0, 1) := by decide +kernel
theorem smd_M_init_1 : decode prog_7_method_1_code 1 = .ok (.invokespecial 1, 3) := by decide +kernel
theorem smd_M_init_4 : decode prog_7_method_1_code 4 = .ok (.aload_n 0, 1) := by decide +kernel
theorem smd_M_init_5 : decode prog_7_method_1_code 5 = .ok (.sipush 576, 3) := by decide +kernel
theorem smd_M_init_8 : decode prog_7_method_1_code 8 = .ok (.newarray .int, 2) := by decide +kernel
theorem smd_M_init_10 : decode prog_7_method_1_code 10 = .ok (.putfield 7, 3) := by decide +kernel
theorem smd_M_init_13 : decode prog_7_method_1_code 13 = .ok (.aload_n 0, 1) := by decide +kernel
theorem smd_M_init_14 : decode prog_7_method_1_code 14 = .ok (.bipush 12, 2) := by decide +kernel
theorem smd_M_init_16 : decode prog_7_method_1_code 16 = .ok (.newarray .int, 2) := by decide +kernel
theorem smd_M_init_18 : decode prog_7_method_1_code 18 = .ok (.putfield 13, 3) := by decide +kernel
theorem smd_M_init_21 : decode prog_7_method_1_code 21 = .ok (.aload_n 0, 1) := by decide +kernel
theorem smd_M_init_22 : decode prog_7_method_1_code 22 = .ok (.bipush 6, 2) := by decide +kernel
theorem smd_M_init_24 : decode prog_7_method_1_code 24 = .ok (.newarray .int, 2) := by decide +kernel
theorem smd_M_init_26 : decode prog_7_method_1_code 26 = .ok (.putfield 16, 3) := by decide +kernel
theorem smd_M_init_29 : decode prog_7_method_1_code 29 = .ok (.aload_n 0, 1) := by decide +kernel
theorem smd_M_init_30 : decode prog_7_method_1_code 30 = .ok (.bipush 36, 2) := by decide +kernel
theorem smd_M_init_32 : decode prog_7_method_1_code 32 = .ok (.newarray .int, 2) := by decide +kernel
theorem smd_M_init_34 : decode prog_7_method_1_code 34 = .ok (.putfield 19, 3) := by decide +kernel
theorem smd_M_init_37 : decode prog_7_method_1_code 37 = .ok (.aload_n 0, 1) := by decide +kernel
theorem smd_M_init_38 : decode prog_7_method_1_code 38 = .ok (.iconst 3, 1) := by decide +kernel
theorem smd_M_init_39 : decode prog_7_method_1_code 39 = .ok (.newarray .boolean, 2) := by decide +kernel
theorem smd_M_init_41 : decode prog_7_method_1_code 41 = .ok (.putfield 22, 3) := by decide +kernel
theorem smd_M_init_44 : decode prog_7_method_1_code 44 = .ok (.aload_n 0, 1) := by decide +kernel
theorem smd_M_init_45 : decode prog_7_method_1_code 45 = .ok (.iconst 4, 1) := by decide +kernel
theorem smd_M_init_46 : decode prog_7_method_1_code 46 = .ok (.newarray .int, 2) := by decide +kernel
theorem smd_M_init_48 : decode prog_7_method_1_code 48 = .ok (.putfield 26, 3) := by decide +kernel
theorem smd_M_init_51 : decode prog_7_method_1_code 51 = .ok (.aload_n 0, 1) := by decide +kernel
theorem smd_M_init_52 : decode prog_7_method_1_code 52 = .ok (.bipush 17, 2) := by decide +kernel
theorem smd_M_init_54 : decode prog_7_method_1_code 54 = .ok (.newarray .int, 2) := by decide +kernel
theorem smd_M_init_56 : decode prog_7_method_1_code 56 = .ok (.putfield 29, 3) := by decide +kernel
theorem smd_M_init_59 : decode prog_7_method_1_code 59 = .ok (.aload_n 0, 1) := by decide +kernel
theorem smd_M_init_60 : decode prog_7_method_1_code 60 = .ok (.bipush 68, 2) := by decide +kernel
theorem smd_M_init_62 : decode prog_7_method_1_code 62 = .ok (.newarray .int, 2) := by decide +kernel
theorem smd_M_init_64 : decode prog_7_method_1_code 64 = .ok (.putfield 32, 3) := by decide +kernel
theorem smd_M_init_67 : decode prog_7_method_1_code 67 = .ok (.aload_n 0, 1) := by decide +kernel
theorem smd_M_init_68 : decode prog_7_method_1_code 68 = .ok (.bipush 68, 2) := by decide +kernel
theorem smd_M_init_70 : decode prog_7_method_1_code 70 = .ok (.newarray .int, 2) := by decide +kernel
theorem smd_M_init_72 : decode prog_7_method_1_code 72 = .ok (.putfield 35, 3) := by decide +kernel
theorem smd_M_init_75 : decode prog_7_method_1_code 75 = .ok (.aload_n 0, 1) := by decide +kernel
theorem smd_M_init_76 : decode prog_7_method_1_code 76 = .ok (.bipush 17, 2) := by decide +kernel
theorem smd_M_init_78 : decode prog_7_method_1_code 78 = .ok (.newarray .boolean, 2) := by decide +kernel
theorem smd_M_init_80 : decode prog_7_method_1_code 80 = .ok (.putfield 38, 3) := by decide +kernel
theorem smd_M_init_83 : decode prog_7_method_1_code 83 = .ok (.aload_n 0, 1) := by decide +kernel
theorem smd_M_init_84 : decode prog_7_method_1_code 84 = .ok (.bipush 7, 2) := by decide +kernel
theorem smd_M_init_86 : decode prog_7_method_1_code 86 = .ok (.newarray .int, 2) := by decide +kernel
theorem smd_M_init_88 : decode prog_7_method_1_code 88 = .ok (.putfield 41, 3) := by decide +kernel
theorem smd_M_init_91 : decode prog_7_method_1_code 91 = .ok (.aload_n 0, 1) := by decide +kernel
theorem smd_M_init_92 : decode prog_7_method_1_code 92 = .ok (.bipush 7, 2) := by decide +kernel
theorem smd_M_init_94 : decode prog_7_method_1_code 94 = .ok (.newarray .int, 2) := by decide +kernel
theorem smd_M_init_96 : decode prog_7_method_1_code 96 = .ok (.putfield 44, 3) := by decide +kernel
theorem smd_M_init_99 : decode prog_7_method_1_code 99 = .ok (.aload_n 0, 1) := by decide +kernel
theorem smd_M_init_100 : decode prog_7_method_1_code 100 = .ok (.bipush 7, 2) := by decide +kernel
theorem smd_M_init_102 : decode prog_7_method_1_code 102 = .ok (.newarray .int, 2) := by decide +kernel
theorem smd_M_init_104 : decode prog_7_method_1_code 104 = .ok (.putfield 47, 3) := by decide +kernel
theorem smd_M_init_107 : decode prog_7_method_1_code 107 = .ok (.aload_n 0, 1) := by decide +kernel
theorem smd_M_init_108 : decode prog_7_method_1_code 108 = .ok (.sipush 252, 3) := by decide +kernel
theorem smd_M_init_111 : decode prog_7_method_1_code 111 = .ok (.newarray .int, 2) := by decide +kernel
theorem smd_M_init_113 : decode prog_7_method_1_code 113 = .ok (.putfield 50, 3) := by decide +kernel
theorem smd_M_init_116 : decode prog_7_method_1_code 116 = .ok (.aload_n 0, 1) := by decide +kernel
theorem smd_M_init_117 : decode prog_7_method_1_code 117 = .ok (.bipush 7, 2) := by decide +kernel
theorem smd_M_init_119 : decode prog_7_method_1_code 119 = .ok (.newarray .int, 2) := by decide +kernel
theorem smd_M_init_121 : decode prog_7_method_1_code 121 = .ok (.putfield 53, 3) := by decide +kernel
theorem smd_M_init_124 : decode prog_7_method_1_code 124 = .ok (.aload_n 0, 1) := by decide +kernel
theorem smd_M_init_125 : decode prog_7_method_1_code 125 = .ok (.bipush 56, 2) := by decide +kernel
theorem smd_M_init_127 : decode prog_7_method_1_code 127 = .ok (.newarray .int, 2) := by decide +kernel
theorem smd_M_init_129 : decode prog_7_method_1_code 129 = .ok (.putfield 56, 3) := by decide +kernel
theorem smd_M_init_132 : decode prog_7_method_1_code 132 = .ok (.iconst 0, 1) := by decide +kernel
theorem smd_M_init_133 : decode prog_7_method_1_code 133 = .ok (.istore_n 1, 1) := by decide +kernel
theorem smd_M_init_134 : decode prog_7_method_1_code 134 = .ok (.iload_n 1, 1) := by decide +kernel
theorem smd_M_init_135 : decode prog_7_method_1_code 135 = .ok (.bipush 17, 2) := by decide +kernel
theorem smd_M_init_137 : decode prog_7_method_1_code 137 = .ok (.if_icmp .ge 16, 3) := by decide +kernel
theorem smd_M_init_140 : decode prog_7_method_1_code 140 = .ok (.aload_n 0, 1) := by decide +kernel
theorem smd_M_init_141 : decode prog_7_method_1_code 141 = .ok (.getfield 29, 3) := by decide +kernel
theorem smd_M_init_144 : decode prog_7_method_1_code 144 = .ok (.iload_n 1, 1) := by decide +kernel
theorem smd_M_init_145 : decode prog_7_method_1_code 145 = .ok (.iconst (-1), 1) := by decide +kernel
theorem smd_M_init_146 : decode prog_7_method_1_code 146 = .ok (.iastore, 1) := by decide +kernel
theorem smd_M_init_147 : decode prog_7_method_1_code 147 = .ok (.iinc 1 1, 3) := by decide +kernel
theorem smd_M_init_150 : decode prog_7_method_1_code 150 = .ok (.goto (-16), 3) := by decide +kernel
theorem smd_M_init_153 : decode prog_7_method_1_code 153 = .ok (.return_, 1) := by decide +kernel
theorem smd_M_isProcedure_0 : decode prog_7_method_2_code 0 = .ok (.iload_n 0, 1) := by decide +kernel
theorem smd_M_isProcedure_1 : decode prog_7_method_2_code 1 = .ok (.ifCond .lt 13, 3) := by decide +kernel
theorem smd_M_isProcedure_4 : decode prog_7_method_2_code 4 = .ok (.iload_n 0, 1) := by decide +kernel
theorem smd_M_isProcedure_5 : decode prog_7_method_2_code 5 = .ok (.bipush 6, 2) := by decide +kernel
theorem smd_M_isProcedure_7 : decode prog_7_method_2_code 7 = .ok (.if_icmp .ge 7, 3) := by decide +kernel
theorem smd_M_isProcedure_10 : decode prog_7_method_2_code 10 = .ok (.iconst 1, 1) := by decide +kernel
theorem smd_M_isProcedure_11 : decode prog_7_method_2_code 11 = .ok (.goto 4, 3) := by decide +kernel
theorem smd_M_isProcedure_14 : decode prog_7_method_2_code 14 = .ok (.iconst 0, 1) := by decide +kernel
theorem smd_M_isProcedure_15 : decode prog_7_method_2_code 15 = .ok (.ireturn, 1) := by decide +kernel
theorem smd_M_isType_0 : decode prog_7_method_3_code 0 = .ok (.iload_n 0, 1) := by decide +kernel
theorem smd_M_isType_1 : decode prog_7_method_3_code 1 = .ok (.ifCond .lt 12, 3) := by decide +kernel
theorem smd_M_isType_4 : decode prog_7_method_3_code 4 = .ok (.iload_n 0, 1) := by decide +kernel
theorem smd_M_isType_5 : decode prog_7_method_3_code 5 = .ok (.iconst 3, 1) := by decide +kernel
theorem smd_M_isType_6 : decode prog_7_method_3_code 6 = .ok (.if_icmp .ge 7, 3) := by decide +kernel
theorem smd_M_isType_9 : decode prog_7_method_3_code 9 = .ok (.iconst 1, 1) := by decide +kernel
theorem smd_M_isType_10 : decode prog_7_method_3_code 10 = .ok (.goto 4, 3) := by decide +kernel
theorem smd_M_isType_13 : decode prog_7_method_3_code 13 = .ok (.iconst 0, 1) := by decide +kernel
theorem smd_M_isType_14 : decode prog_7_method_3_code 14 = .ok (.ireturn, 1) := by decide +kernel
theorem smd_M_isLocal_0 : decode prog_7_method_4_code 0 = .ok (.iload_n 0, 1) := by decide +kernel
theorem smd_M_isLocal_1 : decode prog_7_method_4_code 1 = .ok (.ifCond .lt 12, 3) := by decide +kernel
theorem smd_M_isLocal_4 : decode prog_7_method_4_code 4 = .ok (.iload_n 0, 1) := by decide +kernel
theorem smd_M_isLocal_5 : decode prog_7_method_4_code 5 = .ok (.iconst 3, 1) := by decide +kernel
theorem smd_M_isLocal_6 : decode prog_7_method_4_code 6 = .ok (.if_icmp .ge 7, 3) := by decide +kernel
theorem smd_M_isLocal_9 : decode prog_7_method_4_code 9 = .ok (.iconst 1, 1) := by decide +kernel
theorem smd_M_isLocal_10 : decode prog_7_method_4_code 10 = .ok (.goto 4, 3) := by decide +kernel
theorem smd_M_isLocal_13 : decode prog_7_method_4_code 13 = .ok (.iconst 0, 1) := by decide +kernel
theorem smd_M_isLocal_14 : decode prog_7_method_4_code 14 = .ok (.ireturn, 1) := by decide +kernel
theorem smd_M_word_0 : decode prog_7_method_5_code 0 = .ok (.iload_n 1, 1) := by decide +kernel
theorem smd_M_word_1 : decode prog_7_method_5_code 1 = .ok (.invokestatic 59, 3) := by decide +kernel
theorem smd_M_word_4 : decode prog_7_method_5_code 4 = .ok (.ifCond .eq 26, 3) := by decide +kernel
theorem smd_M_word_7 : decode prog_7_method_5_code 7 = .ok (.iload_n 2, 1) := by decide +kernel
theorem smd_M_word_8 : decode prog_7_method_5_code 8 = .ok (.ifCond .lt 22, 3) := by decide +kernel
theorem smd_M_word_11 : decode prog_7_method_5_code 11 = .ok (.iload_n 2, 1) := by decide +kernel
theorem smd_M_word_12 : decode prog_7_method_5_code 12 = .ok (.aload_n 0, 1) := by decide +kernel
theorem smd_M_word_13 : decode prog_7_method_5_code 13 = .ok (.getfield 13, 3) := by decide +kernel
theorem smd_M_word_16 : decode prog_7_method_5_code 16 = .ok (.bipush 6, 2) := by decide +kernel
theorem smd_M_word_18 : decode prog_7_method_5_code 18 = .ok (.iload_n 1, 1) := by decide +kernel
theorem smd_M_word_19 : decode prog_7_method_5_code 19 = .ok (.iadd, 1) := by decide +kernel
theorem smd_M_word_20 : decode prog_7_method_5_code 20 = .ok (.iaload, 1) := by decide +kernel
theorem smd_M_word_21 : decode prog_7_method_5_code 21 = .ok (.if_icmp .gt 9, 3) := by decide +kernel
theorem smd_M_word_24 : decode prog_7_method_5_code 24 = .ok (.iload_n 2, 1) := by decide +kernel
theorem smd_M_word_25 : decode prog_7_method_5_code 25 = .ok (.bipush 12, 2) := by decide +kernel
theorem smd_M_word_27 : decode prog_7_method_5_code 27 = .ok (.if_icmp .ne 5, 3) := by decide +kernel
theorem smd_M_word_30 : decode prog_7_method_5_code 30 = .ok (.iconst (-1), 1) := by decide +kernel
theorem smd_M_word_31 : decode prog_7_method_5_code 31 = .ok (.ireturn, 1) := by decide +kernel
theorem smd_M_word_32 : decode prog_7_method_5_code 32 = .ok (.aload_n 0, 1) := by decide +kernel
theorem smd_M_word_33 : decode prog_7_method_5_code 33 = .ok (.getfield 63, 3) := by decide +kernel
theorem smd_M_word_36 : decode prog_7_method_5_code 36 = .ok (.ifCond .eq 6, 3) := by decide +kernel
theorem smd_M_word_39 : decode prog_7_method_5_code 39 = .ok (.bipush (-2), 2) := by decide +kernel
theorem smd_M_word_41 : decode prog_7_method_5_code 41 = .ok (.ireturn, 1) := by decide +kernel
theorem smd_M_word_42 : decode prog_7_method_5_code 42 = .ok (.sipush 288, 3) := by decide +kernel
theorem smd_M_word_45 : decode prog_7_method_5_code 45 = .ok (.bipush 48, 2) := by decide +kernel
theorem smd_M_word_47 : decode prog_7_method_5_code 47 = .ok (.iload_n 1, 1) := by decide +kernel
theorem smd_M_word_48 : decode prog_7_method_5_code 48 = .ok (.imul, 1) := by decide +kernel
theorem smd_M_word_49 : decode prog_7_method_5_code 49 = .ok (.iadd, 1) := by decide +kernel
theorem smd_M_word_50 : decode prog_7_method_5_code 50 = .ok (.iconst 4, 1) := by decide +kernel
theorem smd_M_word_51 : decode prog_7_method_5_code 51 = .ok (.iload_n 2, 1) := by decide +kernel
theorem smd_M_word_52 : decode prog_7_method_5_code 52 = .ok (.imul, 1) := by decide +kernel
theorem smd_M_word_53 : decode prog_7_method_5_code 53 = .ok (.iadd, 1) := by decide +kernel
theorem smd_M_word_54 : decode prog_7_method_5_code 54 = .ok (.istore 7, 2) := by decide +kernel
theorem smd_M_word_56 : decode prog_7_method_5_code 56 = .ok (.aload_n 0, 1) := by decide +kernel
theorem smd_M_word_57 : decode prog_7_method_5_code 57 = .ok (.getfield 7, 3) := by decide +kernel
theorem smd_M_word_60 : decode prog_7_method_5_code 60 = .ok (.iload 7, 2) := by decide +kernel
theorem smd_M_word_62 : decode prog_7_method_5_code 62 = .ok (.iload_n 3, 1) := by decide +kernel
theorem smd_M_word_63 : decode prog_7_method_5_code 63 = .ok (.iastore, 1) := by decide +kernel
theorem smd_M_word_64 : decode prog_7_method_5_code 64 = .ok (.aload_n 0, 1) := by decide +kernel
theorem smd_M_word_65 : decode prog_7_method_5_code 65 = .ok (.getfield 7, 3) := by decide +kernel
theorem smd_M_word_68 : decode prog_7_method_5_code 68 = .ok (.iload 7, 2) := by decide +kernel
theorem smd_M_word_70 : decode prog_7_method_5_code 70 = .ok (.iconst 1, 1) := by decide +kernel
theorem smd_M_word_71 : decode prog_7_method_5_code 71 = .ok (.iadd, 1) := by decide +kernel
theorem smd_M_word_72 : decode prog_7_method_5_code 72 = .ok (.iload 4, 2) := by decide +kernel
theorem smd_M_word_74 : decode prog_7_method_5_code 74 = .ok (.iastore, 1) := by decide +kernel
theorem smd_M_word_75 : decode prog_7_method_5_code 75 = .ok (.aload_n 0, 1) := by decide +kernel
theorem smd_M_word_76 : decode prog_7_method_5_code 76 = .ok (.getfield 7, 3) := by decide +kernel
theorem smd_M_word_79 : decode prog_7_method_5_code 79 = .ok (.iload 7, 2) := by decide +kernel
theorem smd_M_word_81 : decode prog_7_method_5_code 81 = .ok (.iconst 2, 1) := by decide +kernel
theorem smd_M_word_82 : decode prog_7_method_5_code 82 = .ok (.iadd, 1) := by decide +kernel
theorem smd_M_word_83 : decode prog_7_method_5_code 83 = .ok (.iload 5, 2) := by decide +kernel
theorem smd_M_word_85 : decode prog_7_method_5_code 85 = .ok (.iastore, 1) := by decide +kernel
theorem smd_M_word_86 : decode prog_7_method_5_code 86 = .ok (.aload_n 0, 1) := by decide +kernel
theorem smd_M_word_87 : decode prog_7_method_5_code 87 = .ok (.getfield 7, 3) := by decide +kernel
theorem smd_M_word_90 : decode prog_7_method_5_code 90 = .ok (.iload 7, 2) := by decide +kernel
theorem smd_M_word_92 : decode prog_7_method_5_code 92 = .ok (.iconst 3, 1) := by decide +kernel
theorem smd_M_word_93 : decode prog_7_method_5_code 93 = .ok (.iadd, 1) := by decide +kernel
theorem smd_M_word_94 : decode prog_7_method_5_code 94 = .ok (.iload 6, 2) := by decide +kernel
theorem smd_M_word_96 : decode prog_7_method_5_code 96 = .ok (.iastore, 1) := by decide +kernel
theorem smd_M_word_97 : decode prog_7_method_5_code 97 = .ok (.aload_n 0, 1) := by decide +kernel
theorem smd_M_word_98 : decode prog_7_method_5_code 98 = .ok (.getfield 13, 3) := by decide +kernel
theorem smd_M_word_101 : decode prog_7_method_5_code 101 = .ok (.bipush 6, 2) := by decide +kernel
theorem smd_M_word_103 : decode prog_7_method_5_code 103 = .ok (.iload_n 1, 1) := by decide +kernel
theorem smd_M_word_104 : decode prog_7_method_5_code 104 = .ok (.iadd, 1) := by decide +kernel
theorem smd_M_word_105 : decode prog_7_method_5_code 105 = .ok (.iload_n 2, 1) := by decide +kernel
theorem smd_M_word_106 : decode prog_7_method_5_code 106 = .ok (.aload_n 0, 1) := by decide +kernel
theorem smd_M_word_107 : decode prog_7_method_5_code 107 = .ok (.getfield 13, 3) := by decide +kernel
theorem smd_M_word_110 : decode prog_7_method_5_code 110 = .ok (.bipush 6, 2) := by decide +kernel
theorem smd_M_word_112 : decode prog_7_method_5_code 112 = .ok (.iload_n 1, 1) := by decide +kernel
theorem smd_M_word_113 : decode prog_7_method_5_code 113 = .ok (.iadd, 1) := by decide +kernel
theorem smd_M_word_114 : decode prog_7_method_5_code 114 = .ok (.iaload, 1) := by decide +kernel
theorem smd_M_word_115 : decode prog_7_method_5_code 115 = .ok (.if_icmp .ne 9, 3) := by decide +kernel
theorem smd_M_word_118 : decode prog_7_method_5_code 118 = .ok (.iload_n 2, 1) := by decide +kernel
theorem smd_M_word_119 : decode prog_7_method_5_code 119 = .ok (.iconst 1, 1) := by decide +kernel
theorem smd_M_word_120 : decode prog_7_method_5_code 120 = .ok (.iadd, 1) := by decide +kernel
theorem smd_M_word_121 : decode prog_7_method_5_code 121 = .ok (.goto 12, 3) := by decide +kernel
theorem smd_M_word_124 : decode prog_7_method_5_code 124 = .ok (.aload_n 0, 1) := by decide +kernel
theorem smd_M_word_125 : decode prog_7_method_5_code 125 = .ok (.getfield 13, 3) := by decide +kernel
theorem smd_M_word_128 : decode prog_7_method_5_code 128 = .ok (.bipush 6, 2) := by decide +kernel
theorem smd_M_word_130 : decode prog_7_method_5_code 130 = .ok (.iload_n 1, 1) := by decide +kernel
theorem smd_M_word_131 : decode prog_7_method_5_code 131 = .ok (.iadd, 1) := by decide +kernel
theorem smd_M_word_132 : decode prog_7_method_5_code 132 = .ok (.iaload, 1) := by decide +kernel
theorem smd_M_word_133 : decode prog_7_method_5_code 133 = .ok (.iastore, 1) := by decide +kernel
theorem smd_M_word_134 : decode prog_7_method_5_code 134 = .ok (.aload_n 0, 1) := by decide +kernel
theorem smd_M_word_135 : decode prog_7_method_5_code 135 = .ok (.getfield 13, 3) := by decide +kernel
theorem smd_M_word_138 : decode prog_7_method_5_code 138 = .ok (.bipush 6, 2) := by decide +kernel
theorem smd_M_word_140 : decode prog_7_method_5_code 140 = .ok (.iload_n 1, 1) := by decide +kernel
theorem smd_M_word_141 : decode prog_7_method_5_code 141 = .ok (.iadd, 1) := by decide +kernel
theorem smd_M_word_142 : decode prog_7_method_5_code 142 = .ok (.iaload, 1) := by decide +kernel
theorem smd_M_word_143 : decode prog_7_method_5_code 143 = .ok (.ireturn, 1) := by decide +kernel
theorem smd_M_cut_0 : decode prog_7_method_6_code 0 = .ok (.iload_n 1, 1) := by decide +kernel
theorem smd_M_cut_1 : decode prog_7_method_6_code 1 = .ok (.invokestatic 59, 3) := by decide +kernel
theorem smd_M_cut_4 : decode prog_7_method_6_code 4 = .ok (.ifCond .eq 27, 3) := by decide +kernel
theorem smd_M_cut_7 : decode prog_7_method_6_code 7 = .ok (.iload_n 2, 1) := by decide +kernel
theorem smd_M_cut_8 : decode prog_7_method_6_code 8 = .ok (.ifCond .lt 23, 3) := by decide +kernel
theorem smd_M_cut_11 : decode prog_7_method_6_code 11 = .ok (.iload_n 2, 1) := by decide +kernel
theorem smd_M_cut_12 : decode prog_7_method_6_code 12 = .ok (.aload_n 0, 1) := by decide +kernel
theorem smd_M_cut_13 : decode prog_7_method_6_code 13 = .ok (.getfield 13, 3) := by decide +kernel
theorem smd_M_cut_16 : decode prog_7_method_6_code 16 = .ok (.bipush 6, 2) := by decide +kernel
theorem smd_M_cut_18 : decode prog_7_method_6_code 18 = .ok (.iload_n 1, 1) := by decide +kernel
theorem smd_M_cut_19 : decode prog_7_method_6_code 19 = .ok (.iadd, 1) := by decide +kernel
theorem smd_M_cut_20 : decode prog_7_method_6_code 20 = .ok (.iaload, 1) := by decide +kernel
theorem smd_M_cut_21 : decode prog_7_method_6_code 21 = .ok (.if_icmp .gt 10, 3) := by decide +kernel
theorem smd_M_cut_24 : decode prog_7_method_6_code 24 = .ok (.aload_n 0, 1) := by decide +kernel
theorem smd_M_cut_25 : decode prog_7_method_6_code 25 = .ok (.getfield 63, 3) := by decide +kernel
theorem smd_M_cut_28 : decode prog_7_method_6_code 28 = .ok (.ifCond .eq 5, 3) := by decide +kernel
theorem smd_M_cut_31 : decode prog_7_method_6_code 31 = .ok (.iconst 0, 1) := by decide +kernel
theorem smd_M_cut_32 : decode prog_7_method_6_code 32 = .ok (.ireturn, 1) := by decide +kernel
theorem smd_M_cut_33 : decode prog_7_method_6_code 33 = .ok (.aload_n 0, 1) := by decide +kernel
theorem smd_M_cut_34 : decode prog_7_method_6_code 34 = .ok (.getfield 13, 3) := by decide +kernel
theorem smd_M_cut_37 : decode prog_7_method_6_code 37 = .ok (.bipush 6, 2) := by decide +kernel
theorem smd_M_cut_39 : decode prog_7_method_6_code 39 = .ok (.iload_n 1, 1) := by decide +kernel
theorem smd_M_cut_40 : decode prog_7_method_6_code 40 = .ok (.iadd, 1) := by decide +kernel
theorem smd_M_cut_41 : decode prog_7_method_6_code 41 = .ok (.iload_n 2, 1) := by decide +kernel
theorem smd_M_cut_42 : decode prog_7_method_6_code 42 = .ok (.iastore, 1) := by decide +kernel
theorem smd_M_cut_43 : decode prog_7_method_6_code 43 = .ok (.iconst 1, 1) := by decide +kernel
theorem smd_M_cut_44 : decode prog_7_method_6_code 44 = .ok (.ireturn, 1) := by decide +kernel
theorem smd_M_clearRules_0 : decode prog_7_method_7_code 0 = .ok (.bipush 12, 2) := by decide +kernel
theorem smd_M_clearRules_2 : decode prog_7_method_7_code 2 = .ok (.iload_n 1, 1) := by decide +kernel
theorem smd_M_clearRules_3 : decode prog_7_method_7_code 3 = .ok (.imul, 1) := by decide +kernel
theorem smd_M_clearRules_4 : decode prog_7_method_7_code 4 = .ok (.istore_n 2, 1) := by decide +kernel
theorem smd_M_clearRules_5 : decode prog_7_method_7_code 5 = .ok (.iload_n 2, 1) := by decide +kernel
theorem smd_M_clearRules_6 : decode prog_7_method_7_code 6 = .ok (.bipush 12, 2) := by decide +kernel
theorem smd_M_clearRules_8 : decode prog_7_method_7_code 8 = .ok (.iload_n 1, 1) := by decide +kernel
theorem smd_M_clearRules_9 : decode prog_7_method_7_code 9 = .ok (.imul, 1) := by decide +kernel
theorem smd_M_clearRules_10 : decode prog_7_method_7_code 10 = .ok (.bipush 12, 2) := by decide +kernel
theorem smd_M_clearRules_12 : decode prog_7_method_7_code 12 = .ok (.iadd, 1) := by decide +kernel
theorem smd_M_clearRules_13 : decode prog_7_method_7_code 13 = .ok (.if_icmp .ge 16, 3) := by decide +kernel
theorem smd_M_clearRules_16 : decode prog_7_method_7_code 16 = .ok (.aload_n 0, 1) := by decide +kernel
theorem smd_M_clearRules_17 : decode prog_7_method_7_code 17 = .ok (.getfield 19, 3) := by decide +kernel
theorem smd_M_clearRules_20 : decode prog_7_method_7_code 20 = .ok (.iload_n 2, 1) := by decide +kernel
theorem smd_M_clearRules_21 : decode prog_7_method_7_code 21 = .ok (.iconst 0, 1) := by decide +kernel
theorem smd_M_clearRules_22 : decode prog_7_method_7_code 22 = .ok (.iastore, 1) := by decide +kernel
theorem smd_M_clearRules_23 : decode prog_7_method_7_code 23 = .ok (.iinc 2 1, 3) := by decide +kernel
theorem smd_M_clearRules_26 : decode prog_7_method_7_code 26 = .ok (.goto (-21), 3) := by decide +kernel
theorem smd_M_clearRules_29 : decode prog_7_method_7_code 29 = .ok (.return_, 1) := by decide +kernel
theorem smd_M_fields_0 : decode prog_7_method_8_code 0 = .ok (.iload_n 1, 1) := by decide +kernel
theorem smd_M_fields_1 : decode prog_7_method_8_code 1 = .ok (.invokestatic 67, 3) := by decide +kernel
theorem smd_M_fields_4 : decode prog_7_method_8_code 4 = .ok (.ifCond .eq 19, 3) := by decide +kernel
theorem smd_M_fields_7 : decode prog_7_method_8_code 7 = .ok (.iload_n 2, 1) := by decide +kernel
theorem smd_M_fields_8 : decode prog_7_method_8_code 8 = .ok (.ifCond .lt 15, 3) := by decide +kernel
theorem smd_M_fields_11 : decode prog_7_method_8_code 11 = .ok (.iload_n 2, 1) := by decide +kernel
theorem smd_M_fields_12 : decode prog_7_method_8_code 12 = .ok (.iconst 4, 1) := by decide +kernel
theorem smd_M_fields_13 : decode prog_7_method_8_code 13 = .ok (.if_icmp .gt 10, 3) := by decide +kernel
theorem smd_M_fields_16 : decode prog_7_method_8_code 16 = .ok (.aload_n 0, 1) := by decide +kernel
theorem smd_M_fields_17 : decode prog_7_method_8_code 17 = .ok (.getfield 63, 3) := by decide +kernel
theorem smd_M_fields_20 : decode prog_7_method_8_code 20 = .ok (.ifCond .eq 5, 3) := by decide +kernel
theorem smd_M_fields_23 : decode prog_7_method_8_code 23 = .ok (.iconst 0, 1) := by decide +kernel
theorem smd_M_fields_24 : decode prog_7_method_8_code 24 = .ok (.ireturn, 1) := by decide +kernel
theorem smd_M_fields_25 : decode prog_7_method_8_code 25 = .ok (.aload_n 0, 1) := by decide +kernel
theorem smd_M_fields_26 : decode prog_7_method_8_code 26 = .ok (.getfield 16, 3) := by decide +kernel
theorem smd_M_fields_29 : decode prog_7_method_8_code 29 = .ok (.iconst 3, 1) := by decide +kernel
theorem smd_M_fields_30 : decode prog_7_method_8_code 30 = .ok (.iload_n 1, 1) := by decide +kernel
theorem smd_M_fields_31 : decode prog_7_method_8_code 31 = .ok (.iadd, 1) := by decide +kernel
theorem smd_M_fields_32 : decode prog_7_method_8_code 32 = .ok (.iload_n 2, 1) := by decide +kernel
theorem smd_M_fields_33 : decode prog_7_method_8_code 33 = .ok (.iastore, 1) := by decide +kernel
theorem smd_M_fields_34 : decode prog_7_method_8_code 34 = .ok (.aload_n 0, 1) := by decide +kernel
theorem smd_M_fields_35 : decode prog_7_method_8_code 35 = .ok (.iload_n 1, 1) := by decide +kernel
theorem smd_M_fields_36 : decode prog_7_method_8_code 36 = .ok (.invokevirtual 70, 3) := by decide +kernel
theorem smd_M_fields_39 : decode prog_7_method_8_code 39 = .ok (.aload_n 0, 1) := by decide +kernel
theorem smd_M_fields_40 : decode prog_7_method_8_code 40 = .ok (.getfield 22, 3) := by decide +kernel
theorem smd_M_fields_43 : decode prog_7_method_8_code 43 = .ok (.iload_n 1, 1) := by decide +kernel
theorem smd_M_fields_44 : decode prog_7_method_8_code 44 = .ok (.iconst 1, 1) := by decide +kernel
theorem smd_M_fields_45 : decode prog_7_method_8_code 45 = .ok (.bastore, 1) := by decide +kernel
theorem smd_M_fields_46 : decode prog_7_method_8_code 46 = .ok (.iconst 1, 1) := by decide +kernel
theorem smd_M_fields_47 : decode prog_7_method_8_code 47 = .ok (.ireturn, 1) := by decide +kernel
theorem smd_M_rule_0 : decode prog_7_method_9_code 0 = .ok (.iload_n 1, 1) := by decide +kernel
theorem smd_M_rule_1 : decode prog_7_method_9_code 1 = .ok (.invokestatic 67, 3) := by decide +kernel
theorem smd_M_rule_4 : decode prog_7_method_9_code 4 = .ok (.ifCond .eq 39, 3) := by decide +kernel
theorem smd_M_rule_7 : decode prog_7_method_9_code 7 = .ok (.iload_n 2, 1) := by decide +kernel
theorem smd_M_rule_8 : decode prog_7_method_9_code 8 = .ok (.ifCond .lt 35, 3) := by decide +kernel
theorem smd_M_rule_11 : decode prog_7_method_9_code 11 = .ok (.iload_n 2, 1) := by decide +kernel
theorem smd_M_rule_12 : decode prog_7_method_9_code 12 = .ok (.aload_n 0, 1) := by decide +kernel
theorem smd_M_rule_13 : decode prog_7_method_9_code 13 = .ok (.getfield 16, 3) := by decide +kernel
theorem smd_M_rule_16 : decode prog_7_method_9_code 16 = .ok (.iconst 3, 1) := by decide +kernel
theorem smd_M_rule_17 : decode prog_7_method_9_code 17 = .ok (.iload_n 1, 1) := by decide +kernel
theorem smd_M_rule_18 : decode prog_7_method_9_code 18 = .ok (.iadd, 1) := by decide +kernel
theorem smd_M_rule_19 : decode prog_7_method_9_code 19 = .ok (.iaload, 1) := by decide +kernel
theorem smd_M_rule_20 : decode prog_7_method_9_code 20 = .ok (.if_icmp .ge 23, 3) := by decide +kernel
theorem smd_M_rule_23 : decode prog_7_method_9_code 23 = .ok (.iload_n 3, 1) := by decide +kernel
theorem smd_M_rule_24 : decode prog_7_method_9_code 24 = .ok (.ifCond .lt 19, 3) := by decide +kernel
theorem smd_M_rule_27 : decode prog_7_method_9_code 27 = .ok (.iload_n 3, 1) := by decide +kernel
theorem smd_M_rule_28 : decode prog_7_method_9_code 28 = .ok (.iconst 2, 1) := by decide +kernel
theorem smd_M_rule_29 : decode prog_7_method_9_code 29 = .ok (.if_icmp .gt 14, 3) := by decide +kernel
theorem smd_M_rule_32 : decode prog_7_method_9_code 32 = .ok (.iload 4, 2) := by decide +kernel
theorem smd_M_rule_34 : decode prog_7_method_9_code 34 = .ok (.ifCond .lt 9, 3) := by decide +kernel
theorem smd_M_rule_37 : decode prog_7_method_9_code 37 = .ok (.iload 4, 2) := by decide +kernel
theorem smd_M_rule_39 : decode prog_7_method_9_code 39 = .ok (.iconst 3, 1) := by decide +kernel
theorem smd_M_rule_40 : decode prog_7_method_9_code 40 = .ok (.if_icmp .le 5, 3) := by decide +kernel
theorem smd_M_rule_43 : decode prog_7_method_9_code 43 = .ok (.iconst (-1), 1) := by decide +kernel
theorem smd_M_rule_44 : decode prog_7_method_9_code 44 = .ok (.ireturn, 1) := by decide +kernel
theorem smd_M_rule_45 : decode prog_7_method_9_code 45 = .ok (.aload_n 0, 1) := by decide +kernel
theorem smd_M_rule_46 : decode prog_7_method_9_code 46 = .ok (.getfield 63, 3) := by decide +kernel
theorem smd_M_rule_49 : decode prog_7_method_9_code 49 = .ok (.ifCond .eq 6, 3) := by decide +kernel
theorem smd_M_rule_52 : decode prog_7_method_9_code 52 = .ok (.bipush (-2), 2) := by decide +kernel
theorem smd_M_rule_54 : decode prog_7_method_9_code 54 = .ok (.ireturn, 1) := by decide +kernel
theorem smd_M_rule_55 : decode prog_7_method_9_code 55 = .ok (.aload_n 0, 1) := by decide +kernel
theorem smd_M_rule_56 : decode prog_7_method_9_code 56 = .ok (.getfield 19, 3) := by decide +kernel
theorem smd_M_rule_59 : decode prog_7_method_9_code 59 = .ok (.bipush 12, 2) := by decide +kernel
theorem smd_M_rule_61 : decode prog_7_method_9_code 61 = .ok (.iload_n 1, 1) := by decide +kernel
theorem smd_M_rule_62 : decode prog_7_method_9_code 62 = .ok (.imul, 1) := by decide +kernel
theorem smd_M_rule_63 : decode prog_7_method_9_code 63 = .ok (.iconst 3, 1) := by decide +kernel
theorem smd_M_rule_64 : decode prog_7_method_9_code 64 = .ok (.iload_n 2, 1) := by decide +kernel
theorem smd_M_rule_65 : decode prog_7_method_9_code 65 = .ok (.imul, 1) := by decide +kernel
theorem smd_M_rule_66 : decode prog_7_method_9_code 66 = .ok (.iadd, 1) := by decide +kernel
theorem smd_M_rule_67 : decode prog_7_method_9_code 67 = .ok (.iload_n 3, 1) := by decide +kernel
theorem smd_M_rule_68 : decode prog_7_method_9_code 68 = .ok (.iastore, 1) := by decide +kernel
theorem smd_M_rule_69 : decode prog_7_method_9_code 69 = .ok (.aload_n 0, 1) := by decide +kernel
theorem smd_M_rule_70 : decode prog_7_method_9_code 70 = .ok (.getfield 19, 3) := by decide +kernel
theorem smd_M_rule_73 : decode prog_7_method_9_code 73 = .ok (.bipush 12, 2) := by decide +kernel
theorem smd_M_rule_75 : decode prog_7_method_9_code 75 = .ok (.iload_n 1, 1) := by decide +kernel
theorem smd_M_rule_76 : decode prog_7_method_9_code 76 = .ok (.imul, 1) := by decide +kernel
theorem smd_M_rule_77 : decode prog_7_method_9_code 77 = .ok (.iconst 3, 1) := by decide +kernel
theorem smd_M_rule_78 : decode prog_7_method_9_code 78 = .ok (.iload_n 2, 1) := by decide +kernel
theorem smd_M_rule_79 : decode prog_7_method_9_code 79 = .ok (.imul, 1) := by decide +kernel
theorem smd_M_rule_80 : decode prog_7_method_9_code 80 = .ok (.iadd, 1) := by decide +kernel
theorem smd_M_rule_81 : decode prog_7_method_9_code 81 = .ok (.iconst 1, 1) := by decide +kernel
theorem smd_M_rule_82 : decode prog_7_method_9_code 82 = .ok (.iadd, 1) := by decide +kernel
theorem smd_M_rule_83 : decode prog_7_method_9_code 83 = .ok (.iload 4, 2) := by decide +kernel
theorem smd_M_rule_85 : decode prog_7_method_9_code 85 = .ok (.iastore, 1) := by decide +kernel
theorem smd_M_rule_86 : decode prog_7_method_9_code 86 = .ok (.aload_n 0, 1) := by decide +kernel
theorem smd_M_rule_87 : decode prog_7_method_9_code 87 = .ok (.getfield 19, 3) := by decide +kernel
theorem smd_M_rule_90 : decode prog_7_method_9_code 90 = .ok (.bipush 12, 2) := by decide +kernel
theorem smd_M_rule_92 : decode prog_7_method_9_code 92 = .ok (.iload_n 1, 1) := by decide +kernel
theorem smd_M_rule_93 : decode prog_7_method_9_code 93 = .ok (.imul, 1) := by decide +kernel
theorem smd_M_rule_94 : decode prog_7_method_9_code 94 = .ok (.iconst 3, 1) := by decide +kernel
theorem smd_M_rule_95 : decode prog_7_method_9_code 95 = .ok (.iload_n 2, 1) := by decide +kernel
theorem smd_M_rule_96 : decode prog_7_method_9_code 96 = .ok (.imul, 1) := by decide +kernel
theorem smd_M_rule_97 : decode prog_7_method_9_code 97 = .ok (.iadd, 1) := by decide +kernel
theorem smd_M_rule_98 : decode prog_7_method_9_code 98 = .ok (.iconst 2, 1) := by decide +kernel
theorem smd_M_rule_99 : decode prog_7_method_9_code 99 = .ok (.iadd, 1) := by decide +kernel
theorem smd_M_rule_100 : decode prog_7_method_9_code 100 = .ok (.iload 5, 2) := by decide +kernel
theorem smd_M_rule_102 : decode prog_7_method_9_code 102 = .ok (.iastore, 1) := by decide +kernel
theorem smd_M_rule_103 : decode prog_7_method_9_code 103 = .ok (.aload_n 0, 1) := by decide +kernel
theorem smd_M_rule_104 : decode prog_7_method_9_code 104 = .ok (.getfield 22, 3) := by decide +kernel
theorem smd_M_rule_107 : decode prog_7_method_9_code 107 = .ok (.iload_n 1, 1) := by decide +kernel
theorem smd_M_rule_108 : decode prog_7_method_9_code 108 = .ok (.iconst 1, 1) := by decide +kernel
theorem smd_M_rule_109 : decode prog_7_method_9_code 109 = .ok (.bastore, 1) := by decide +kernel
theorem smd_M_rule_110 : decode prog_7_method_9_code 110 = .ok (.iconst 0, 1) := by decide +kernel
theorem smd_M_rule_111 : decode prog_7_method_9_code 111 = .ok (.ireturn, 1) := by decide +kernel
theorem smd_M_settle_0 : decode prog_7_method_10_code 0 = .ok (.iconst 0, 1) := by decide +kernel
theorem smd_M_settle_1 : decode prog_7_method_10_code 1 = .ok (.istore_n 1, 1) := by decide +kernel
theorem smd_M_settle_2 : decode prog_7_method_10_code 2 = .ok (.iload_n 1, 1) := by decide +kernel
theorem smd_M_settle_3 : decode prog_7_method_10_code 3 = .ok (.iconst 3, 1) := by decide +kernel
theorem smd_M_settle_4 : decode prog_7_method_10_code 4 = .ok (.if_icmp .ge 21, 3) := by decide +kernel
theorem smd_M_settle_7 : decode prog_7_method_10_code 7 = .ok (.aload_n 0, 1) := by decide +kernel
theorem smd_M_settle_8 : decode prog_7_method_10_code 8 = .ok (.iload_n 1, 1) := by decide +kernel
theorem smd_M_settle_9 : decode prog_7_method_10_code 9 = .ok (.invokevirtual 70, 3) := by decide +kernel
theorem smd_M_settle_12 : decode prog_7_method_10_code 12 = .ok (.aload_n 0, 1) := by decide +kernel
theorem smd_M_settle_13 : decode prog_7_method_10_code 13 = .ok (.getfield 22, 3) := by decide +kernel
theorem smd_M_settle_16 : decode prog_7_method_10_code 16 = .ok (.iload_n 1, 1) := by decide +kernel
theorem smd_M_settle_17 : decode prog_7_method_10_code 17 = .ok (.iconst 0, 1) := by decide +kernel
theorem smd_M_settle_18 : decode prog_7_method_10_code 18 = .ok (.bastore, 1) := by decide +kernel
theorem smd_M_settle_19 : decode prog_7_method_10_code 19 = .ok (.iinc 1 1, 3) := by decide +kernel
theorem smd_M_settle_22 : decode prog_7_method_10_code 22 = .ok (.goto (-20), 3) := by decide +kernel
theorem smd_M_settle_25 : decode prog_7_method_10_code 25 = .ok (.return_, 1) := by decide +kernel
theorem smd_M_reset_0 : decode prog_7_method_11_code 0 = .ok (.aload_n 0, 1) := by decide +kernel
theorem smd_M_reset_1 : decode prog_7_method_11_code 1 = .ok (.getfield 63, 3) := by decide +kernel
theorem smd_M_reset_4 : decode prog_7_method_11_code 4 = .ok (.ifCond .eq 5, 3) := by decide +kernel
theorem smd_M_reset_7 : decode prog_7_method_11_code 7 = .ok (.iconst 0, 1) := by decide +kernel
theorem smd_M_reset_8 : decode prog_7_method_11_code 8 = .ok (.ireturn, 1) := by decide +kernel
theorem smd_M_reset_9 : decode prog_7_method_11_code 9 = .ok (.iconst 0, 1) := by decide +kernel
theorem smd_M_reset_10 : decode prog_7_method_11_code 10 = .ok (.istore_n 1, 1) := by decide +kernel
theorem smd_M_reset_11 : decode prog_7_method_11_code 11 = .ok (.iload_n 1, 1) := by decide +kernel
theorem smd_M_reset_12 : decode prog_7_method_11_code 12 = .ok (.sipush 288, 3) := by decide +kernel
theorem smd_M_reset_15 : decode prog_7_method_11_code 15 = .ok (.if_icmp .ge 25, 3) := by decide +kernel
theorem smd_M_reset_18 : decode prog_7_method_11_code 18 = .ok (.aload_n 0, 1) := by decide +kernel
theorem smd_M_reset_19 : decode prog_7_method_11_code 19 = .ok (.getfield 7, 3) := by decide +kernel
theorem smd_M_reset_22 : decode prog_7_method_11_code 22 = .ok (.sipush 288, 3) := by decide +kernel
theorem smd_M_reset_25 : decode prog_7_method_11_code 25 = .ok (.iload_n 1, 1) := by decide +kernel
theorem smd_M_reset_26 : decode prog_7_method_11_code 26 = .ok (.iadd, 1) := by decide +kernel
theorem smd_M_reset_27 : decode prog_7_method_11_code 27 = .ok (.aload_n 0, 1) := by decide +kernel
theorem smd_M_reset_28 : decode prog_7_method_11_code 28 = .ok (.getfield 7, 3) := by decide +kernel
theorem smd_M_reset_31 : decode prog_7_method_11_code 31 = .ok (.iload_n 1, 1) := by decide +kernel
theorem smd_M_reset_32 : decode prog_7_method_11_code 32 = .ok (.iaload, 1) := by decide +kernel
theorem smd_M_reset_33 : decode prog_7_method_11_code 33 = .ok (.iastore, 1) := by decide +kernel
theorem smd_M_reset_34 : decode prog_7_method_11_code 34 = .ok (.iinc 1 1, 3) := by decide +kernel
theorem smd_M_reset_37 : decode prog_7_method_11_code 37 = .ok (.goto (-26), 3) := by decide +kernel
theorem smd_M_reset_40 : decode prog_7_method_11_code 40 = .ok (.iconst 0, 1) := by decide +kernel
theorem smd_M_reset_41 : decode prog_7_method_11_code 41 = .ok (.istore_n 1, 1) := by decide +kernel
theorem smd_M_reset_42 : decode prog_7_method_11_code 42 = .ok (.iload_n 1, 1) := by decide +kernel
theorem smd_M_reset_43 : decode prog_7_method_11_code 43 = .ok (.bipush 6, 2) := by decide +kernel
theorem smd_M_reset_45 : decode prog_7_method_11_code 45 = .ok (.if_icmp .ge 24, 3) := by decide +kernel
theorem smd_M_reset_48 : decode prog_7_method_11_code 48 = .ok (.aload_n 0, 1) := by decide +kernel
theorem smd_M_reset_49 : decode prog_7_method_11_code 49 = .ok (.getfield 13, 3) := by decide +kernel
theorem smd_M_reset_52 : decode prog_7_method_11_code 52 = .ok (.bipush 6, 2) := by decide +kernel
theorem smd_M_reset_54 : decode prog_7_method_11_code 54 = .ok (.iload_n 1, 1) := by decide +kernel
theorem smd_M_reset_55 : decode prog_7_method_11_code 55 = .ok (.iadd, 1) := by decide +kernel
theorem smd_M_reset_56 : decode prog_7_method_11_code 56 = .ok (.aload_n 0, 1) := by decide +kernel
theorem smd_M_reset_57 : decode prog_7_method_11_code 57 = .ok (.getfield 13, 3) := by decide +kernel
theorem smd_M_reset_60 : decode prog_7_method_11_code 60 = .ok (.iload_n 1, 1) := by decide +kernel
theorem smd_M_reset_61 : decode prog_7_method_11_code 61 = .ok (.iaload, 1) := by decide +kernel
theorem smd_M_reset_62 : decode prog_7_method_11_code 62 = .ok (.iastore, 1) := by decide +kernel
theorem smd_M_reset_63 : decode prog_7_method_11_code 63 = .ok (.iinc 1 1, 3) := by decide +kernel
theorem smd_M_reset_66 : decode prog_7_method_11_code 66 = .ok (.goto (-24), 3) := by decide +kernel
theorem smd_M_reset_69 : decode prog_7_method_11_code 69 = .ok (.iconst 0, 1) := by decide +kernel
theorem smd_M_reset_70 : decode prog_7_method_11_code 70 = .ok (.istore_n 1, 1) := by decide +kernel
theorem smd_M_reset_71 : decode prog_7_method_11_code 71 = .ok (.iload_n 1, 1) := by decide +kernel
theorem smd_M_reset_72 : decode prog_7_method_11_code 72 = .ok (.iconst 3, 1) := by decide +kernel
theorem smd_M_reset_73 : decode prog_7_method_11_code 73 = .ok (.if_icmp .ge 23, 3) := by decide +kernel
theorem smd_M_reset_76 : decode prog_7_method_11_code 76 = .ok (.aload_n 0, 1) := by decide +kernel
theorem smd_M_reset_77 : decode prog_7_method_11_code 77 = .ok (.getfield 16, 3) := by decide +kernel
theorem smd_M_reset_80 : decode prog_7_method_11_code 80 = .ok (.iconst 3, 1) := by decide +kernel
theorem smd_M_reset_81 : decode prog_7_method_11_code 81 = .ok (.iload_n 1, 1) := by decide +kernel
theorem smd_M_reset_82 : decode prog_7_method_11_code 82 = .ok (.iadd, 1) := by decide +kernel
theorem smd_M_reset_83 : decode prog_7_method_11_code 83 = .ok (.aload_n 0, 1) := by decide +kernel
theorem smd_M_reset_84 : decode prog_7_method_11_code 84 = .ok (.getfield 16, 3) := by decide +kernel
theorem smd_M_reset_87 : decode prog_7_method_11_code 87 = .ok (.iload_n 1, 1) := by decide +kernel
theorem smd_M_reset_88 : decode prog_7_method_11_code 88 = .ok (.iaload, 1) := by decide +kernel
theorem smd_M_reset_89 : decode prog_7_method_11_code 89 = .ok (.iastore, 1) := by decide +kernel
theorem smd_M_reset_90 : decode prog_7_method_11_code 90 = .ok (.iinc 1 1, 3) := by decide +kernel
theorem smd_M_reset_93 : decode prog_7_method_11_code 93 = .ok (.goto (-22), 3) := by decide +kernel
theorem smd_M_reset_96 : decode prog_7_method_11_code 96 = .ok (.aload_n 0, 1) := by decide +kernel
theorem smd_M_reset_97 : decode prog_7_method_11_code 97 = .ok (.invokevirtual 74, 3) := by decide +kernel
theorem smd_M_reset_100 : decode prog_7_method_11_code 100 = .ok (.iconst 1, 1) := by decide +kernel
theorem smd_M_reset_101 : decode prog_7_method_11_code 101 = .ok (.ireturn, 1) := by decide +kernel
theorem smd_M_isField_0 : decode prog_7_method_12_code 0 = .ok (.iload_n 1, 1) := by decide +kernel
theorem smd_M_isField_1 : decode prog_7_method_12_code 1 = .ok (.ifCond .lt 29, 3) := by decide +kernel
theorem smd_M_isField_4 : decode prog_7_method_12_code 4 = .ok (.iload_n 1, 1) := by decide +kernel
theorem smd_M_isField_5 : decode prog_7_method_12_code 5 = .ok (.bipush 12, 2) := by decide +kernel
theorem smd_M_isField_7 : decode prog_7_method_12_code 7 = .ok (.if_icmp .ge 23, 3) := by decide +kernel
theorem smd_M_isField_10 : decode prog_7_method_12_code 10 = .ok (.iload_n 1, 1) := by decide +kernel
theorem smd_M_isField_11 : decode prog_7_method_12_code 11 = .ok (.iconst 4, 1) := by decide +kernel
theorem smd_M_isField_12 : decode prog_7_method_12_code 12 = .ok (.irem, 1) := by decide +kernel
theorem smd_M_isField_13 : decode prog_7_method_12_code 13 = .ok (.aload_n 0, 1) := by decide +kernel
theorem smd_M_isField_14 : decode prog_7_method_12_code 14 = .ok (.getfield 16, 3) := by decide +kernel
theorem smd_M_isField_17 : decode prog_7_method_12_code 17 = .ok (.iconst 3, 1) := by decide +kernel
theorem smd_M_isField_18 : decode prog_7_method_12_code 18 = .ok (.iload_n 1, 1) := by decide +kernel
theorem smd_M_isField_19 : decode prog_7_method_12_code 19 = .ok (.iconst 4, 1) := by decide +kernel
theorem smd_M_isField_20 : decode prog_7_method_12_code 20 = .ok (.idiv, 1) := by decide +kernel
theorem smd_M_isField_21 : decode prog_7_method_12_code 21 = .ok (.iadd, 1) := by decide +kernel
theorem smd_M_isField_22 : decode prog_7_method_12_code 22 = .ok (.iaload, 1) := by decide +kernel
theorem smd_M_isField_23 : decode prog_7_method_12_code 23 = .ok (.if_icmp .ge 7, 3) := by decide +kernel
theorem smd_M_isField_26 : decode prog_7_method_12_code 26 = .ok (.iconst 1, 1) := by decide +kernel
theorem smd_M_isField_27 : decode prog_7_method_12_code 27 = .ok (.goto 4, 3) := by decide +kernel
theorem smd_M_isField_30 : decode prog_7_method_12_code 30 = .ok (.iconst 0, 1) := by decide +kernel
theorem smd_M_isField_31 : decode prog_7_method_12_code 31 = .ok (.ireturn, 1) := by decide +kernel
theorem smd_M_isRight_0 : decode prog_7_method_13_code 0 = .ok (.sipush 288, 3) := by decide +kernel
theorem smd_M_isRight_3 : decode prog_7_method_13_code 3 = .ok (.bipush 48, 2) := by decide +kernel
theorem smd_M_isRight_5 : decode prog_7_method_13_code 5 = .ok (.iload_n 1, 1) := by decide +kernel
theorem smd_M_isRight_6 : decode prog_7_method_13_code 6 = .ok (.imul, 1) := by decide +kernel
theorem smd_M_isRight_7 : decode prog_7_method_13_code 7 = .ok (.iadd, 1) := by decide +kernel
theorem smd_M_isRight_8 : decode prog_7_method_13_code 8 = .ok (.iconst 4, 1) := by decide +kernel
theorem smd_M_isRight_9 : decode prog_7_method_13_code 9 = .ok (.iload_n 2, 1) := by decide +kernel
theorem smd_M_isRight_10 : decode prog_7_method_13_code 10 = .ok (.imul, 1) := by decide +kernel
theorem smd_M_isRight_11 : decode prog_7_method_13_code 11 = .ok (.iadd, 1) := by decide +kernel
theorem smd_M_isRight_12 : decode prog_7_method_13_code 12 = .ok (.istore_n 3, 1) := by decide +kernel
theorem smd_M_isRight_13 : decode prog_7_method_13_code 13 = .ok (.aload_n 0, 1) := by decide +kernel
theorem smd_M_isRight_14 : decode prog_7_method_13_code 14 = .ok (.getfield 7, 3) := by decide +kernel
theorem smd_M_isRight_17 : decode prog_7_method_13_code 17 = .ok (.iload_n 3, 1) := by decide +kernel
theorem smd_M_isRight_18 : decode prog_7_method_13_code 18 = .ok (.iaload, 1) := by decide +kernel
theorem smd_M_isRight_19 : decode prog_7_method_13_code 19 = .ok (.istore 4, 2) := by decide +kernel
theorem smd_M_isRight_21 : decode prog_7_method_13_code 21 = .ok (.aload_n 0, 1) := by decide +kernel
theorem smd_M_isRight_22 : decode prog_7_method_13_code 22 = .ok (.getfield 7, 3) := by decide +kernel
theorem smd_M_isRight_25 : decode prog_7_method_13_code 25 = .ok (.iload_n 3, 1) := by decide +kernel
theorem smd_M_isRight_26 : decode prog_7_method_13_code 26 = .ok (.iconst 1, 1) := by decide +kernel
theorem smd_M_isRight_27 : decode prog_7_method_13_code 27 = .ok (.iadd, 1) := by decide +kernel
theorem smd_M_isRight_28 : decode prog_7_method_13_code 28 = .ok (.iaload, 1) := by decide +kernel
theorem smd_M_isRight_29 : decode prog_7_method_13_code 29 = .ok (.istore 5, 2) := by decide +kernel
theorem smd_M_isRight_31 : decode prog_7_method_13_code 31 = .ok (.aload_n 0, 1) := by decide +kernel
theorem smd_M_isRight_32 : decode prog_7_method_13_code 32 = .ok (.getfield 7, 3) := by decide +kernel
theorem smd_M_isRight_35 : decode prog_7_method_13_code 35 = .ok (.iload_n 3, 1) := by decide +kernel
theorem smd_M_isRight_36 : decode prog_7_method_13_code 36 = .ok (.iconst 2, 1) := by decide +kernel
theorem smd_M_isRight_37 : decode prog_7_method_13_code 37 = .ok (.iadd, 1) := by decide +kernel
theorem smd_M_isRight_38 : decode prog_7_method_13_code 38 = .ok (.iaload, 1) := by decide +kernel
theorem smd_M_isRight_39 : decode prog_7_method_13_code 39 = .ok (.istore 6, 2) := by decide +kernel
theorem smd_M_isRight_41 : decode prog_7_method_13_code 41 = .ok (.aload_n 0, 1) := by decide +kernel
theorem smd_M_isRight_42 : decode prog_7_method_13_code 42 = .ok (.getfield 7, 3) := by decide +kernel
theorem smd_M_isRight_45 : decode prog_7_method_13_code 45 = .ok (.iload_n 3, 1) := by decide +kernel
theorem smd_M_isRight_46 : decode prog_7_method_13_code 46 = .ok (.iconst 3, 1) := by decide +kernel
theorem smd_M_isRight_47 : decode prog_7_method_13_code 47 = .ok (.iadd, 1) := by decide +kernel
theorem smd_M_isRight_48 : decode prog_7_method_13_code 48 = .ok (.iaload, 1) := by decide +kernel
theorem smd_M_isRight_49 : decode prog_7_method_13_code 49 = .ok (.istore 7, 2) := by decide +kernel
theorem smd_M_isRight_51 : decode prog_7_method_13_code 51 = .ok (.iload 4, 2) := by decide +kernel
theorem smd_M_isRight_53 : decode prog_7_method_13_code 53 = .ok (.tableswitch 286 0 12 #[67, 67, 73, 73, 103, 136, 179, 213, 213, 244, 244, 67, 269], 67) := by decide +kernel
theorem smd_M_isRight_120 : decode prog_7_method_13_code 120 = .ok (.iload 5, 2) := by decide +kernel
theorem smd_M_isRight_122 : decode prog_7_method_13_code 122 = .ok (.invokestatic 77, 3) := by decide +kernel
theorem smd_M_isRight_125 : decode prog_7_method_13_code 125 = .ok (.ireturn, 1) := by decide +kernel
theorem smd_M_isRight_126 : decode prog_7_method_13_code 126 = .ok (.iload 5, 2) := by decide +kernel
theorem smd_M_isRight_128 : decode prog_7_method_13_code 128 = .ok (.invokestatic 77, 3) := by decide +kernel
theorem smd_M_isRight_131 : decode prog_7_method_13_code 131 = .ok (.ifCond .eq 23, 3) := by decide +kernel
theorem smd_M_isRight_134 : decode prog_7_method_13_code 134 = .ok (.iload 6, 2) := by decide +kernel
theorem smd_M_isRight_136 : decode prog_7_method_13_code 136 = .ok (.invokestatic 77, 3) := by decide +kernel
theorem smd_M_isRight_139 : decode prog_7_method_13_code 139 = .ok (.ifCond .eq 15, 3) := by decide +kernel
theorem smd_M_isRight_142 : decode prog_7_method_13_code 142 = .ok (.iload 7, 2) := by decide +kernel
theorem smd_M_isRight_144 : decode prog_7_method_13_code 144 = .ok (.invokestatic 77, 3) := by decide +kernel
theorem smd_M_isRight_147 : decode prog_7_method_13_code 147 = .ok (.ifCond .eq 7, 3) := by decide +kernel
theorem smd_M_isRight_150 : decode prog_7_method_13_code 150 = .ok (.iconst 1, 1) := by decide +kernel
theorem smd_M_isRight_151 : decode prog_7_method_13_code 151 = .ok (.goto 4, 3) := by decide +kernel
theorem smd_M_isRight_154 : decode prog_7_method_13_code 154 = .ok (.iconst 0, 1) := by decide +kernel
theorem smd_M_isRight_155 : decode prog_7_method_13_code 155 = .ok (.ireturn, 1) := by decide +kernel
theorem smd_M_isRight_156 : decode prog_7_method_13_code 156 = .ok (.iload 5, 2) := by decide +kernel
theorem smd_M_isRight_158 : decode prog_7_method_13_code 158 = .ok (.invokestatic 77, 3) := by decide +kernel
theorem smd_M_isRight_161 : decode prog_7_method_13_code 161 = .ok (.ifCond .eq 26, 3) := by decide +kernel
theorem smd_M_isRight_164 : decode prog_7_method_13_code 164 = .ok (.iload 6, 2) := by decide +kernel
theorem smd_M_isRight_166 : decode prog_7_method_13_code 166 = .ok (.ifCond .lt 21, 3) := by decide +kernel
theorem smd_M_isRight_169 : decode prog_7_method_13_code 169 = .ok (.iload 6, 2) := by decide +kernel
theorem smd_M_isRight_171 : decode prog_7_method_13_code 171 = .ok (.aload_n 0, 1) := by decide +kernel
theorem smd_M_isRight_172 : decode prog_7_method_13_code 172 = .ok (.getfield 13, 3) := by decide +kernel
theorem smd_M_isRight_175 : decode prog_7_method_13_code 175 = .ok (.bipush 6, 2) := by decide +kernel
theorem smd_M_isRight_177 : decode prog_7_method_13_code 177 = .ok (.iload_n 1, 1) := by decide +kernel
theorem smd_M_isRight_178 : decode prog_7_method_13_code 178 = .ok (.iadd, 1) := by decide +kernel
theorem smd_M_isRight_179 : decode prog_7_method_13_code 179 = .ok (.iaload, 1) := by decide +kernel
theorem smd_M_isRight_180 : decode prog_7_method_13_code 180 = .ok (.if_icmp .ge 7, 3) := by decide +kernel
theorem smd_M_isRight_183 : decode prog_7_method_13_code 183 = .ok (.iconst 1, 1) := by decide +kernel
theorem smd_M_isRight_184 : decode prog_7_method_13_code 184 = .ok (.goto 4, 3) := by decide +kernel
theorem smd_M_isRight_187 : decode prog_7_method_13_code 187 = .ok (.iconst 0, 1) := by decide +kernel
theorem smd_M_isRight_188 : decode prog_7_method_13_code 188 = .ok (.ireturn, 1) := by decide +kernel
theorem smd_M_isRight_189 : decode prog_7_method_13_code 189 = .ok (.iload 5, 2) := by decide +kernel
theorem smd_M_isRight_191 : decode prog_7_method_13_code 191 = .ok (.invokestatic 77, 3) := by decide +kernel
theorem smd_M_isRight_194 : decode prog_7_method_13_code 194 = .ok (.ifCond .eq 36, 3) := by decide +kernel
theorem smd_M_isRight_197 : decode prog_7_method_13_code 197 = .ok (.iload 7, 2) := by decide +kernel
theorem smd_M_isRight_199 : decode prog_7_method_13_code 199 = .ok (.invokestatic 77, 3) := by decide +kernel
theorem smd_M_isRight_202 : decode prog_7_method_13_code 202 = .ok (.ifCond .eq 28, 3) := by decide +kernel
theorem smd_M_isRight_205 : decode prog_7_method_13_code 205 = .ok (.iload 6, 2) := by decide +kernel
theorem smd_M_isRight_207 : decode prog_7_method_13_code 207 = .ok (.invokestatic 59, 3) := by decide +kernel
theorem smd_M_isRight_210 : decode prog_7_method_13_code 210 = .ok (.ifCond .eq 20, 3) := by decide +kernel
theorem smd_M_isRight_213 : decode prog_7_method_13_code 213 = .ok (.aload_n 0, 1) := by decide +kernel
theorem smd_M_isRight_214 : decode prog_7_method_13_code 214 = .ok (.getfield 13, 3) := by decide +kernel
theorem smd_M_isRight_217 : decode prog_7_method_13_code 217 = .ok (.bipush 6, 2) := by decide +kernel
theorem smd_M_isRight_219 : decode prog_7_method_13_code 219 = .ok (.iload 6, 2) := by decide +kernel
theorem smd_M_isRight_221 : decode prog_7_method_13_code 221 = .ok (.iadd, 1) := by decide +kernel
theorem smd_M_isRight_222 : decode prog_7_method_13_code 222 = .ok (.iaload, 1) := by decide +kernel
theorem smd_M_isRight_223 : decode prog_7_method_13_code 223 = .ok (.ifCond .le 7, 3) := by decide +kernel
theorem smd_M_isRight_226 : decode prog_7_method_13_code 226 = .ok (.iconst 1, 1) := by decide +kernel
theorem smd_M_isRight_227 : decode prog_7_method_13_code 227 = .ok (.goto 4, 3) := by decide +kernel
theorem smd_M_isRight_230 : decode prog_7_method_13_code 230 = .ok (.iconst 0, 1) := by decide +kernel
theorem smd_M_isRight_231 : decode prog_7_method_13_code 231 = .ok (.ireturn, 1) := by decide +kernel
theorem smd_M_isRight_232 : decode prog_7_method_13_code 232 = .ok (.iload 5, 2) := by decide +kernel
theorem smd_M_isRight_234 : decode prog_7_method_13_code 234 = .ok (.invokestatic 77, 3) := by decide +kernel
theorem smd_M_isRight_237 : decode prog_7_method_13_code 237 = .ok (.ifCond .eq 27, 3) := by decide +kernel
theorem smd_M_isRight_240 : decode prog_7_method_13_code 240 = .ok (.iload 6, 2) := by decide +kernel
theorem smd_M_isRight_242 : decode prog_7_method_13_code 242 = .ok (.invokestatic 67, 3) := by decide +kernel
theorem smd_M_isRight_245 : decode prog_7_method_13_code 245 = .ok (.ifCond .eq 19, 3) := by decide +kernel
theorem smd_M_isRight_248 : decode prog_7_method_13_code 248 = .ok (.aload_n 0, 1) := by decide +kernel
theorem smd_M_isRight_249 : decode prog_7_method_13_code 249 = .ok (.getfield 16, 3) := by decide +kernel
theorem smd_M_isRight_252 : decode prog_7_method_13_code 252 = .ok (.iconst 3, 1) := by decide +kernel
theorem smd_M_isRight_253 : decode prog_7_method_13_code 253 = .ok (.iload 6, 2) := by decide +kernel
theorem smd_M_isRight_255 : decode prog_7_method_13_code 255 = .ok (.iadd, 1) := by decide +kernel
theorem smd_M_isRight_256 : decode prog_7_method_13_code 256 = .ok (.iaload, 1) := by decide +kernel
theorem smd_M_isRight_257 : decode prog_7_method_13_code 257 = .ok (.ifCond .le 7, 3) := by decide +kernel
theorem smd_M_isRight_260 : decode prog_7_method_13_code 260 = .ok (.iconst 1, 1) := by decide +kernel
theorem smd_M_isRight_261 : decode prog_7_method_13_code 261 = .ok (.goto 4, 3) := by decide +kernel
theorem smd_M_isRight_264 : decode prog_7_method_13_code 264 = .ok (.iconst 0, 1) := by decide +kernel
theorem smd_M_isRight_265 : decode prog_7_method_13_code 265 = .ok (.ireturn, 1) := by decide +kernel
theorem smd_M_isRight_266 : decode prog_7_method_13_code 266 = .ok (.iload 5, 2) := by decide +kernel
theorem smd_M_isRight_268 : decode prog_7_method_13_code 268 = .ok (.invokestatic 77, 3) := by decide +kernel
theorem smd_M_isRight_271 : decode prog_7_method_13_code 271 = .ok (.ifCond .eq 24, 3) := by decide +kernel
theorem smd_M_isRight_274 : decode prog_7_method_13_code 274 = .ok (.iload 6, 2) := by decide +kernel
theorem smd_M_isRight_276 : decode prog_7_method_13_code 276 = .ok (.invokestatic 77, 3) := by decide +kernel
theorem smd_M_isRight_279 : decode prog_7_method_13_code 279 = .ok (.ifCond .eq 16, 3) := by decide +kernel
theorem smd_M_isRight_282 : decode prog_7_method_13_code 282 = .ok (.aload_n 0, 1) := by decide +kernel
theorem smd_M_isRight_283 : decode prog_7_method_13_code 283 = .ok (.iload 7, 2) := by decide +kernel
theorem smd_M_isRight_285 : decode prog_7_method_13_code 285 = .ok (.invokevirtual 80, 3) := by decide +kernel
theorem smd_M_isRight_288 : decode prog_7_method_13_code 288 = .ok (.ifCond .eq 7, 3) := by decide +kernel
theorem smd_M_isRight_291 : decode prog_7_method_13_code 291 = .ok (.iconst 1, 1) := by decide +kernel
theorem smd_M_isRight_292 : decode prog_7_method_13_code 292 = .ok (.goto 4, 3) := by decide +kernel
theorem smd_M_isRight_295 : decode prog_7_method_13_code 295 = .ok (.iconst 0, 1) := by decide +kernel
theorem smd_M_isRight_296 : decode prog_7_method_13_code 296 = .ok (.ireturn, 1) := by decide +kernel
theorem smd_M_isRight_297 : decode prog_7_method_13_code 297 = .ok (.iload 5, 2) := by decide +kernel
theorem smd_M_isRight_299 : decode prog_7_method_13_code 299 = .ok (.invokestatic 77, 3) := by decide +kernel
theorem smd_M_isRight_302 : decode prog_7_method_13_code 302 = .ok (.ifCond .eq 18, 3) := by decide +kernel
theorem smd_M_isRight_305 : decode prog_7_method_13_code 305 = .ok (.iload 6, 2) := by decide +kernel
theorem smd_M_isRight_307 : decode prog_7_method_13_code 307 = .ok (.ifCond .lt 13, 3) := by decide +kernel
theorem smd_M_isRight_310 : decode prog_7_method_13_code 310 = .ok (.iload 6, 2) := by decide +kernel
theorem smd_M_isRight_312 : decode prog_7_method_13_code 312 = .ok (.iconst 4, 1) := by decide +kernel
theorem smd_M_isRight_313 : decode prog_7_method_13_code 313 = .ok (.if_icmp .ge 7, 3) := by decide +kernel
theorem smd_M_isRight_316 : decode prog_7_method_13_code 316 = .ok (.iconst 1, 1) := by decide +kernel
theorem smd_M_isRight_317 : decode prog_7_method_13_code 317 = .ok (.goto 4, 3) := by decide +kernel
theorem smd_M_isRight_320 : decode prog_7_method_13_code 320 = .ok (.iconst 0, 1) := by decide +kernel
theorem smd_M_isRight_321 : decode prog_7_method_13_code 321 = .ok (.ireturn, 1) := by decide +kernel
theorem smd_M_isRight_322 : decode prog_7_method_13_code 322 = .ok (.iload 5, 2) := by decide +kernel
theorem smd_M_isRight_324 : decode prog_7_method_13_code 324 = .ok (.ifCond .lt 13, 3) := by decide +kernel
theorem smd_M_isRight_327 : decode prog_7_method_13_code 327 = .ok (.iload 5, 2) := by decide +kernel
theorem smd_M_isRight_329 : decode prog_7_method_13_code 329 = .ok (.iconst 4, 1) := by decide +kernel
theorem smd_M_isRight_330 : decode prog_7_method_13_code 330 = .ok (.if_icmp .ge 7, 3) := by decide +kernel
theorem smd_M_isRight_333 : decode prog_7_method_13_code 333 = .ok (.iconst 1, 1) := by decide +kernel
theorem smd_M_isRight_334 : decode prog_7_method_13_code 334 = .ok (.goto 4, 3) := by decide +kernel
theorem smd_M_isRight_337 : decode prog_7_method_13_code 337 = .ok (.iconst 0, 1) := by decide +kernel
theorem smd_M_isRight_338 : decode prog_7_method_13_code 338 = .ok (.ireturn, 1) := by decide +kernel
theorem smd_M_isRight_339 : decode prog_7_method_13_code 339 = .ok (.iconst 0, 1) := by decide +kernel
theorem smd_M_isRight_340 : decode prog_7_method_13_code 340 = .ok (.ireturn, 1) := by decide +kernel
end
section
theorem smd_M_stage_0 : decode prog_7_method_14_code 0 = .ok (.aload_n 0, 1) := by decide +kernel
theorem smd_M_stage_1 : decode prog_7_method_14_code 1 = .ok (.getfield 63, 3) := by decide +kernel
theorem smd_M_stage_4 : decode prog_7_method_14_code 4 = .ok (.ifCond .eq 6, 3) := by decide +kernel
theorem smd_M_stage_7 : decode prog_7_method_14_code 7 = .ok (.bipush (-2), 2) := by decide +kernel
theorem smd_M_stage_9 : decode prog_7_method_14_code 9 = .ok (.ireturn, 1) := by decide +kernel
theorem smd_M_stage_10 : decode prog_7_method_14_code 10 = .ok (.iconst 0, 1) := by decide +kernel
theorem smd_M_stage_11 : decode prog_7_method_14_code 11 = .ok (.istore_n 1, 1) := by decide +kernel
theorem smd_M_stage_12 : decode prog_7_method_14_code 12 = .ok (.iload_n 1, 1) := by decide +kernel
theorem smd_M_stage_13 : decode prog_7_method_14_code 13 = .ok (.bipush 6, 2) := by decide +kernel
theorem smd_M_stage_15 : decode prog_7_method_14_code 15 = .ok (.if_icmp .ge 94, 3) := by decide +kernel
theorem smd_M_stage_18 : decode prog_7_method_14_code 18 = .ok (.iconst 0, 1) := by decide +kernel
theorem smd_M_stage_19 : decode prog_7_method_14_code 19 = .ok (.istore_n 2, 1) := by decide +kernel
theorem smd_M_stage_20 : decode prog_7_method_14_code 20 = .ok (.iload_n 2, 1) := by decide +kernel
theorem smd_M_stage_21 : decode prog_7_method_14_code 21 = .ok (.aload_n 0, 1) := by decide +kernel
theorem smd_M_stage_22 : decode prog_7_method_14_code 22 = .ok (.getfield 13, 3) := by decide +kernel
theorem smd_M_stage_25 : decode prog_7_method_14_code 25 = .ok (.bipush 6, 2) := by decide +kernel
theorem smd_M_stage_27 : decode prog_7_method_14_code 27 = .ok (.iload_n 1, 1) := by decide +kernel
theorem smd_M_stage_28 : decode prog_7_method_14_code 28 = .ok (.iadd, 1) := by decide +kernel
theorem smd_M_stage_29 : decode prog_7_method_14_code 29 = .ok (.iaload, 1) := by decide +kernel
theorem smd_M_stage_30 : decode prog_7_method_14_code 30 = .ok (.if_icmp .ge 73, 3) := by decide +kernel
theorem smd_M_stage_33 : decode prog_7_method_14_code 33 = .ok (.iload_n 2, 1) := by decide +kernel
theorem smd_M_stage_34 : decode prog_7_method_14_code 34 = .ok (.iconst 1, 1) := by decide +kernel
theorem smd_M_stage_35 : decode prog_7_method_14_code 35 = .ok (.iadd, 1) := by decide +kernel
theorem smd_M_stage_36 : decode prog_7_method_14_code 36 = .ok (.aload_n 0, 1) := by decide +kernel
theorem smd_M_stage_37 : decode prog_7_method_14_code 37 = .ok (.getfield 13, 3) := by decide +kernel
theorem smd_M_stage_40 : decode prog_7_method_14_code 40 = .ok (.bipush 6, 2) := by decide +kernel
theorem smd_M_stage_42 : decode prog_7_method_14_code 42 = .ok (.iload_n 1, 1) := by decide +kernel
theorem smd_M_stage_43 : decode prog_7_method_14_code 43 = .ok (.iadd, 1) := by decide +kernel
theorem smd_M_stage_44 : decode prog_7_method_14_code 44 = .ok (.iaload, 1) := by decide +kernel
theorem smd_M_stage_45 : decode prog_7_method_14_code 45 = .ok (.if_icmp .lt 23, 3) := by decide +kernel
theorem smd_M_stage_48 : decode prog_7_method_14_code 48 = .ok (.aload_n 0, 1) := by decide +kernel
theorem smd_M_stage_49 : decode prog_7_method_14_code 49 = .ok (.getfield 7, 3) := by decide +kernel
theorem smd_M_stage_52 : decode prog_7_method_14_code 52 = .ok (.sipush 288, 3) := by decide +kernel
theorem smd_M_stage_55 : decode prog_7_method_14_code 55 = .ok (.bipush 48, 2) := by decide +kernel
theorem smd_M_stage_57 : decode prog_7_method_14_code 57 = .ok (.iload_n 1, 1) := by decide +kernel
theorem smd_M_stage_58 : decode prog_7_method_14_code 58 = .ok (.imul, 1) := by decide +kernel
theorem smd_M_stage_59 : decode prog_7_method_14_code 59 = .ok (.iadd, 1) := by decide +kernel
theorem smd_M_stage_60 : decode prog_7_method_14_code 60 = .ok (.iconst 4, 1) := by decide +kernel
theorem smd_M_stage_61 : decode prog_7_method_14_code 61 = .ok (.iload_n 2, 1) := by decide +kernel
theorem smd_M_stage_62 : decode prog_7_method_14_code 62 = .ok (.imul, 1) := by decide +kernel
theorem smd_M_stage_63 : decode prog_7_method_14_code 63 = .ok (.iadd, 1) := by decide +kernel
theorem smd_M_stage_64 : decode prog_7_method_14_code 64 = .ok (.iaload, 1) := by decide +kernel
theorem smd_M_stage_65 : decode prog_7_method_14_code 65 = .ok (.ifCond .ne 7, 3) := by decide +kernel
theorem smd_M_stage_68 : decode prog_7_method_14_code 68 = .ok (.iconst 1, 1) := by decide +kernel
theorem smd_M_stage_69 : decode prog_7_method_14_code 69 = .ok (.goto 4, 3) := by decide +kernel
theorem smd_M_stage_72 : decode prog_7_method_14_code 72 = .ok (.iconst 0, 1) := by decide +kernel
theorem smd_M_stage_73 : decode prog_7_method_14_code 73 = .ok (.istore_n 3, 1) := by decide +kernel
theorem smd_M_stage_74 : decode prog_7_method_14_code 74 = .ok (.aload_n 0, 1) := by decide +kernel
theorem smd_M_stage_75 : decode prog_7_method_14_code 75 = .ok (.iload_n 1, 1) := by decide +kernel
theorem smd_M_stage_76 : decode prog_7_method_14_code 76 = .ok (.iload_n 2, 1) := by decide +kernel
theorem smd_M_stage_77 : decode prog_7_method_14_code 77 = .ok (.invokevirtual 83, 3) := by decide +kernel
theorem smd_M_stage_80 : decode prog_7_method_14_code 80 = .ok (.ifCond .eq 7, 3) := by decide +kernel
theorem smd_M_stage_83 : decode prog_7_method_14_code 83 = .ok (.iload_n 3, 1) := by decide +kernel
theorem smd_M_stage_84 : decode prog_7_method_14_code 84 = .ok (.ifCond .ne 13, 3) := by decide +kernel
theorem smd_M_stage_87 : decode prog_7_method_14_code 87 = .ok (.bipush (-100), 2) := by decide +kernel
theorem smd_M_stage_89 : decode prog_7_method_14_code 89 = .ok (.bipush 12, 2) := by decide +kernel
theorem smd_M_stage_91 : decode prog_7_method_14_code 91 = .ok (.iload_n 1, 1) := by decide +kernel
theorem smd_M_stage_92 : decode prog_7_method_14_code 92 = .ok (.imul, 1) := by decide +kernel
theorem smd_M_stage_93 : decode prog_7_method_14_code 93 = .ok (.iload_n 2, 1) := by decide +kernel
theorem smd_M_stage_94 : decode prog_7_method_14_code 94 = .ok (.iadd, 1) := by decide +kernel
theorem smd_M_stage_95 : decode prog_7_method_14_code 95 = .ok (.isub, 1) := by decide +kernel
theorem smd_M_stage_96 : decode prog_7_method_14_code 96 = .ok (.ireturn, 1) := by decide +kernel
theorem smd_M_stage_97 : decode prog_7_method_14_code 97 = .ok (.iinc 2 1, 3) := by decide +kernel
theorem smd_M_stage_100 : decode prog_7_method_14_code 100 = .ok (.goto (-80), 3) := by decide +kernel
theorem smd_M_stage_103 : decode prog_7_method_14_code 103 = .ok (.iinc 1 1, 3) := by decide +kernel
theorem smd_M_stage_106 : decode prog_7_method_14_code 106 = .ok (.goto (-94), 3) := by decide +kernel
theorem smd_M_stage_109 : decode prog_7_method_14_code 109 = .ok (.iconst 0, 1) := by decide +kernel
theorem smd_M_stage_110 : decode prog_7_method_14_code 110 = .ok (.istore_n 1, 1) := by decide +kernel
theorem smd_M_stage_111 : decode prog_7_method_14_code 111 = .ok (.iload_n 1, 1) := by decide +kernel
theorem smd_M_stage_112 : decode prog_7_method_14_code 112 = .ok (.iconst 3, 1) := by decide +kernel
theorem smd_M_stage_113 : decode prog_7_method_14_code 113 = .ok (.if_icmp .ge 88, 3) := by decide +kernel
theorem smd_M_stage_116 : decode prog_7_method_14_code 116 = .ok (.iconst 0, 1) := by decide +kernel
theorem smd_M_stage_117 : decode prog_7_method_14_code 117 = .ok (.istore_n 2, 1) := by decide +kernel
theorem smd_M_stage_118 : decode prog_7_method_14_code 118 = .ok (.iload_n 2, 1) := by decide +kernel
theorem smd_M_stage_119 : decode prog_7_method_14_code 119 = .ok (.aload_n 0, 1) := by decide +kernel
theorem smd_M_stage_120 : decode prog_7_method_14_code 120 = .ok (.getfield 16, 3) := by decide +kernel
theorem smd_M_stage_123 : decode prog_7_method_14_code 123 = .ok (.iconst 3, 1) := by decide +kernel
theorem smd_M_stage_124 : decode prog_7_method_14_code 124 = .ok (.iload_n 1, 1) := by decide +kernel
theorem smd_M_stage_125 : decode prog_7_method_14_code 125 = .ok (.iadd, 1) := by decide +kernel
theorem smd_M_stage_126 : decode prog_7_method_14_code 126 = .ok (.iaload, 1) := by decide +kernel
theorem smd_M_stage_127 : decode prog_7_method_14_code 127 = .ok (.if_icmp .ge 68, 3) := by decide +kernel
theorem smd_M_stage_130 : decode prog_7_method_14_code 130 = .ok (.aload_n 0, 1) := by decide +kernel
theorem smd_M_stage_131 : decode prog_7_method_14_code 131 = .ok (.getfield 22, 3) := by decide +kernel
theorem smd_M_stage_134 : decode prog_7_method_14_code 134 = .ok (.iload_n 1, 1) := by decide +kernel
theorem smd_M_stage_135 : decode prog_7_method_14_code 135 = .ok (.baload, 1) := by decide +kernel
theorem smd_M_stage_136 : decode prog_7_method_14_code 136 = .ok (.ifCond .eq 59, 3) := by decide +kernel
theorem smd_M_stage_139 : decode prog_7_method_14_code 139 = .ok (.aload_n 0, 1) := by decide +kernel
theorem smd_M_stage_140 : decode prog_7_method_14_code 140 = .ok (.getfield 19, 3) := by decide +kernel
theorem smd_M_stage_143 : decode prog_7_method_14_code 143 = .ok (.bipush 12, 2) := by decide +kernel
theorem smd_M_stage_145 : decode prog_7_method_14_code 145 = .ok (.iload_n 1, 1) := by decide +kernel
theorem smd_M_stage_146 : decode prog_7_method_14_code 146 = .ok (.imul, 1) := by decide +kernel
theorem smd_M_stage_147 : decode prog_7_method_14_code 147 = .ok (.iconst 3, 1) := by decide +kernel
theorem smd_M_stage_148 : decode prog_7_method_14_code 148 = .ok (.iload_n 2, 1) := by decide +kernel
theorem smd_M_stage_149 : decode prog_7_method_14_code 149 = .ok (.imul, 1) := by decide +kernel
theorem smd_M_stage_150 : decode prog_7_method_14_code 150 = .ok (.iadd, 1) := by decide +kernel
theorem smd_M_stage_151 : decode prog_7_method_14_code 151 = .ok (.iaload, 1) := by decide +kernel
theorem smd_M_stage_152 : decode prog_7_method_14_code 152 = .ok (.ifCond .le 37, 3) := by decide +kernel
theorem smd_M_stage_155 : decode prog_7_method_14_code 155 = .ok (.aload_n 0, 1) := by decide +kernel
theorem smd_M_stage_156 : decode prog_7_method_14_code 156 = .ok (.getfield 19, 3) := by decide +kernel
theorem smd_M_stage_159 : decode prog_7_method_14_code 159 = .ok (.bipush 12, 2) := by decide +kernel
theorem smd_M_stage_161 : decode prog_7_method_14_code 161 = .ok (.iload_n 1, 1) := by decide +kernel
theorem smd_M_stage_162 : decode prog_7_method_14_code 162 = .ok (.imul, 1) := by decide +kernel
theorem smd_M_stage_163 : decode prog_7_method_14_code 163 = .ok (.iconst 3, 1) := by decide +kernel
theorem smd_M_stage_164 : decode prog_7_method_14_code 164 = .ok (.iload_n 2, 1) := by decide +kernel
theorem smd_M_stage_165 : decode prog_7_method_14_code 165 = .ok (.imul, 1) := by decide +kernel
theorem smd_M_stage_166 : decode prog_7_method_14_code 166 = .ok (.iadd, 1) := by decide +kernel
theorem smd_M_stage_167 : decode prog_7_method_14_code 167 = .ok (.iconst 1, 1) := by decide +kernel
theorem smd_M_stage_168 : decode prog_7_method_14_code 168 = .ok (.iadd, 1) := by decide +kernel
theorem smd_M_stage_169 : decode prog_7_method_14_code 169 = .ok (.iaload, 1) := by decide +kernel
theorem smd_M_stage_170 : decode prog_7_method_14_code 170 = .ok (.aload_n 0, 1) := by decide +kernel
theorem smd_M_stage_171 : decode prog_7_method_14_code 171 = .ok (.getfield 16, 3) := by decide +kernel
theorem smd_M_stage_174 : decode prog_7_method_14_code 174 = .ok (.iload_n 1, 1) := by decide +kernel
theorem smd_M_stage_175 : decode prog_7_method_14_code 175 = .ok (.iaload, 1) := by decide +kernel
theorem smd_M_stage_176 : decode prog_7_method_14_code 176 = .ok (.if_icmp .lt 13, 3) := by decide +kernel
theorem smd_M_stage_179 : decode prog_7_method_14_code 179 = .ok (.sipush (-200), 3) := by decide +kernel
theorem smd_M_stage_182 : decode prog_7_method_14_code 182 = .ok (.iconst 4, 1) := by decide +kernel
theorem smd_M_stage_183 : decode prog_7_method_14_code 183 = .ok (.iload_n 1, 1) := by decide +kernel
theorem smd_M_stage_184 : decode prog_7_method_14_code 184 = .ok (.imul, 1) := by decide +kernel
theorem smd_M_stage_185 : decode prog_7_method_14_code 185 = .ok (.iload_n 2, 1) := by decide +kernel
theorem smd_M_stage_186 : decode prog_7_method_14_code 186 = .ok (.iadd, 1) := by decide +kernel
theorem smd_M_stage_187 : decode prog_7_method_14_code 187 = .ok (.isub, 1) := by decide +kernel
theorem smd_M_stage_188 : decode prog_7_method_14_code 188 = .ok (.ireturn, 1) := by decide +kernel
theorem smd_M_stage_189 : decode prog_7_method_14_code 189 = .ok (.iinc 2 1, 3) := by decide +kernel
theorem smd_M_stage_192 : decode prog_7_method_14_code 192 = .ok (.goto (-74), 3) := by decide +kernel
theorem smd_M_stage_195 : decode prog_7_method_14_code 195 = .ok (.iinc 1 1, 3) := by decide +kernel
theorem smd_M_stage_198 : decode prog_7_method_14_code 198 = .ok (.goto (-87), 3) := by decide +kernel
theorem smd_M_stage_201 : decode prog_7_method_14_code 201 = .ok (.aload_n 0, 1) := by decide +kernel
theorem smd_M_stage_202 : decode prog_7_method_14_code 202 = .ok (.iconst 1, 1) := by decide +kernel
theorem smd_M_stage_203 : decode prog_7_method_14_code 203 = .ok (.putfield 63, 3) := by decide +kernel
theorem smd_M_stage_206 : decode prog_7_method_14_code 206 = .ok (.iconst 0, 1) := by decide +kernel
theorem smd_M_stage_207 : decode prog_7_method_14_code 207 = .ok (.ireturn, 1) := by decide +kernel
theorem smd_M_withdraw_0 : decode prog_7_method_15_code 0 = .ok (.aload_n 0, 1) := by decide +kernel
theorem smd_M_withdraw_1 : decode prog_7_method_15_code 1 = .ok (.getfield 63, 3) := by decide +kernel
theorem smd_M_withdraw_4 : decode prog_7_method_15_code 4 = .ok (.istore_n 1, 1) := by decide +kernel
theorem smd_M_withdraw_5 : decode prog_7_method_15_code 5 = .ok (.aload_n 0, 1) := by decide +kernel
theorem smd_M_withdraw_6 : decode prog_7_method_15_code 6 = .ok (.iconst 0, 1) := by decide +kernel
theorem smd_M_withdraw_7 : decode prog_7_method_15_code 7 = .ok (.putfield 63, 3) := by decide +kernel
theorem smd_M_withdraw_10 : decode prog_7_method_15_code 10 = .ok (.iload_n 1, 1) := by decide +kernel
theorem smd_M_withdraw_11 : decode prog_7_method_15_code 11 = .ok (.ireturn, 1) := by decide +kernel
theorem smd_M_isOther_0 : decode prog_7_method_16_code 0 = .ok (.aload_n 0, 1) := by decide +kernel
theorem smd_M_isOther_1 : decode prog_7_method_16_code 1 = .ok (.getfield 13, 3) := by decide +kernel
theorem smd_M_isOther_4 : decode prog_7_method_16_code 4 = .ok (.iload_n 1, 1) := by decide +kernel
theorem smd_M_isOther_5 : decode prog_7_method_16_code 5 = .ok (.iaload, 1) := by decide +kernel
theorem smd_M_isOther_6 : decode prog_7_method_16_code 6 = .ok (.aload_n 0, 1) := by decide +kernel
theorem smd_M_isOther_7 : decode prog_7_method_16_code 7 = .ok (.getfield 13, 3) := by decide +kernel
theorem smd_M_isOther_10 : decode prog_7_method_16_code 10 = .ok (.bipush 6, 2) := by decide +kernel
theorem smd_M_isOther_12 : decode prog_7_method_16_code 12 = .ok (.iload_n 1, 1) := by decide +kernel
theorem smd_M_isOther_13 : decode prog_7_method_16_code 13 = .ok (.iadd, 1) := by decide +kernel
theorem smd_M_isOther_14 : decode prog_7_method_16_code 14 = .ok (.iaload, 1) := by decide +kernel
theorem smd_M_isOther_15 : decode prog_7_method_16_code 15 = .ok (.if_icmp .eq 5, 3) := by decide +kernel
theorem smd_M_isOther_18 : decode prog_7_method_16_code 18 = .ok (.iconst 1, 1) := by decide +kernel
theorem smd_M_isOther_19 : decode prog_7_method_16_code 19 = .ok (.ireturn, 1) := by decide +kernel
theorem smd_M_isOther_20 : decode prog_7_method_16_code 20 = .ok (.iconst 0, 1) := by decide +kernel
theorem smd_M_isOther_21 : decode prog_7_method_16_code 21 = .ok (.istore_n 2, 1) := by decide +kernel
theorem smd_M_isOther_22 : decode prog_7_method_16_code 22 = .ok (.bipush 48, 2) := by decide +kernel
theorem smd_M_isOther_24 : decode prog_7_method_16_code 24 = .ok (.iload_n 1, 1) := by decide +kernel
theorem smd_M_isOther_25 : decode prog_7_method_16_code 25 = .ok (.imul, 1) := by decide +kernel
theorem smd_M_isOther_26 : decode prog_7_method_16_code 26 = .ok (.istore_n 3, 1) := by decide +kernel
theorem smd_M_isOther_27 : decode prog_7_method_16_code 27 = .ok (.iload_n 3, 1) := by decide +kernel
theorem smd_M_isOther_28 : decode prog_7_method_16_code 28 = .ok (.bipush 48, 2) := by decide +kernel
theorem smd_M_isOther_30 : decode prog_7_method_16_code 30 = .ok (.iload_n 1, 1) := by decide +kernel
theorem smd_M_isOther_31 : decode prog_7_method_16_code 31 = .ok (.imul, 1) := by decide +kernel
theorem smd_M_isOther_32 : decode prog_7_method_16_code 32 = .ok (.iconst 4, 1) := by decide +kernel
theorem smd_M_isOther_33 : decode prog_7_method_16_code 33 = .ok (.aload_n 0, 1) := by decide +kernel
theorem smd_M_isOther_34 : decode prog_7_method_16_code 34 = .ok (.getfield 13, 3) := by decide +kernel
theorem smd_M_isOther_37 : decode prog_7_method_16_code 37 = .ok (.iload_n 1, 1) := by decide +kernel
theorem smd_M_isOther_38 : decode prog_7_method_16_code 38 = .ok (.iaload, 1) := by decide +kernel
theorem smd_M_isOther_39 : decode prog_7_method_16_code 39 = .ok (.imul, 1) := by decide +kernel
theorem smd_M_isOther_40 : decode prog_7_method_16_code 40 = .ok (.iadd, 1) := by decide +kernel
theorem smd_M_isOther_41 : decode prog_7_method_16_code 41 = .ok (.if_icmp .ge 38, 3) := by decide +kernel
theorem smd_M_isOther_44 : decode prog_7_method_16_code 44 = .ok (.iload_n 2, 1) := by decide +kernel
theorem smd_M_isOther_45 : decode prog_7_method_16_code 45 = .ok (.ifCond .ne 22, 3) := by decide +kernel
theorem smd_M_isOther_48 : decode prog_7_method_16_code 48 = .ok (.aload_n 0, 1) := by decide +kernel
theorem smd_M_isOther_49 : decode prog_7_method_16_code 49 = .ok (.getfield 7, 3) := by decide +kernel
theorem smd_M_isOther_52 : decode prog_7_method_16_code 52 = .ok (.iload_n 3, 1) := by decide +kernel
theorem smd_M_isOther_53 : decode prog_7_method_16_code 53 = .ok (.iaload, 1) := by decide +kernel
theorem smd_M_isOther_54 : decode prog_7_method_16_code 54 = .ok (.aload_n 0, 1) := by decide +kernel
theorem smd_M_isOther_55 : decode prog_7_method_16_code 55 = .ok (.getfield 7, 3) := by decide +kernel
theorem smd_M_isOther_58 : decode prog_7_method_16_code 58 = .ok (.sipush 288, 3) := by decide +kernel
theorem smd_M_isOther_61 : decode prog_7_method_16_code 61 = .ok (.iload_n 3, 1) := by decide +kernel
theorem smd_M_isOther_62 : decode prog_7_method_16_code 62 = .ok (.iadd, 1) := by decide +kernel
theorem smd_M_isOther_63 : decode prog_7_method_16_code 63 = .ok (.iaload, 1) := by decide +kernel
theorem smd_M_isOther_64 : decode prog_7_method_16_code 64 = .ok (.if_icmp .eq 7, 3) := by decide +kernel
theorem smd_M_isOther_67 : decode prog_7_method_16_code 67 = .ok (.iconst 1, 1) := by decide +kernel
theorem smd_M_isOther_68 : decode prog_7_method_16_code 68 = .ok (.goto 4, 3) := by decide +kernel
theorem smd_M_isOther_71 : decode prog_7_method_16_code 71 = .ok (.iconst 0, 1) := by decide +kernel
theorem smd_M_isOther_72 : decode prog_7_method_16_code 72 = .ok (.istore_n 2, 1) := by decide +kernel
theorem smd_M_isOther_73 : decode prog_7_method_16_code 73 = .ok (.iinc 3 1, 3) := by decide +kernel
theorem smd_M_isOther_76 : decode prog_7_method_16_code 76 = .ok (.goto (-49), 3) := by decide +kernel
theorem smd_M_isOther_79 : decode prog_7_method_16_code 79 = .ok (.iload_n 2, 1) := by decide +kernel
theorem smd_M_isOther_80 : decode prog_7_method_16_code 80 = .ok (.ireturn, 1) := by decide +kernel
theorem smd_M_usesTouched_0 : decode prog_7_method_17_code 0 = .ok (.iconst 0, 1) := by decide +kernel
theorem smd_M_usesTouched_1 : decode prog_7_method_17_code 1 = .ok (.istore_n 2, 1) := by decide +kernel
theorem smd_M_usesTouched_2 : decode prog_7_method_17_code 2 = .ok (.iconst 0, 1) := by decide +kernel
theorem smd_M_usesTouched_3 : decode prog_7_method_17_code 3 = .ok (.istore_n 3, 1) := by decide +kernel
theorem smd_M_usesTouched_4 : decode prog_7_method_17_code 4 = .ok (.iload_n 3, 1) := by decide +kernel
theorem smd_M_usesTouched_5 : decode prog_7_method_17_code 5 = .ok (.aload_n 0, 1) := by decide +kernel
theorem smd_M_usesTouched_6 : decode prog_7_method_17_code 6 = .ok (.getfield 13, 3) := by decide +kernel
theorem smd_M_usesTouched_9 : decode prog_7_method_17_code 9 = .ok (.iload_n 1, 1) := by decide +kernel
theorem smd_M_usesTouched_10 : decode prog_7_method_17_code 10 = .ok (.iaload, 1) := by decide +kernel
theorem smd_M_usesTouched_11 : decode prog_7_method_17_code 11 = .ok (.if_icmp .ge 109, 3) := by decide +kernel
theorem smd_M_usesTouched_14 : decode prog_7_method_17_code 14 = .ok (.bipush 48, 2) := by decide +kernel
theorem smd_M_usesTouched_16 : decode prog_7_method_17_code 16 = .ok (.iload_n 1, 1) := by decide +kernel
theorem smd_M_usesTouched_17 : decode prog_7_method_17_code 17 = .ok (.imul, 1) := by decide +kernel
theorem smd_M_usesTouched_18 : decode prog_7_method_17_code 18 = .ok (.iconst 4, 1) := by decide +kernel
theorem smd_M_usesTouched_19 : decode prog_7_method_17_code 19 = .ok (.iload_n 3, 1) := by decide +kernel
theorem smd_M_usesTouched_20 : decode prog_7_method_17_code 20 = .ok (.imul, 1) := by decide +kernel
theorem smd_M_usesTouched_21 : decode prog_7_method_17_code 21 = .ok (.iadd, 1) := by decide +kernel
theorem smd_M_usesTouched_22 : decode prog_7_method_17_code 22 = .ok (.istore 4, 2) := by decide +kernel
theorem smd_M_usesTouched_24 : decode prog_7_method_17_code 24 = .ok (.aload_n 0, 1) := by decide +kernel
theorem smd_M_usesTouched_25 : decode prog_7_method_17_code 25 = .ok (.getfield 7, 3) := by decide +kernel
theorem smd_M_usesTouched_28 : decode prog_7_method_17_code 28 = .ok (.iload 4, 2) := by decide +kernel
theorem smd_M_usesTouched_30 : decode prog_7_method_17_code 30 = .ok (.iaload, 1) := by decide +kernel
theorem smd_M_usesTouched_31 : decode prog_7_method_17_code 31 = .ok (.bipush 6, 2) := by decide +kernel
theorem smd_M_usesTouched_33 : decode prog_7_method_17_code 33 = .ok (.if_icmp .ne 15, 3) := by decide +kernel
theorem smd_M_usesTouched_36 : decode prog_7_method_17_code 36 = .ok (.aload_n 0, 1) := by decide +kernel
theorem smd_M_usesTouched_37 : decode prog_7_method_17_code 37 = .ok (.getfield 7, 3) := by decide +kernel
theorem smd_M_usesTouched_40 : decode prog_7_method_17_code 40 = .ok (.iload 4, 2) := by decide +kernel
theorem smd_M_usesTouched_42 : decode prog_7_method_17_code 42 = .ok (.iconst 2, 1) := by decide +kernel
theorem smd_M_usesTouched_43 : decode prog_7_method_17_code 43 = .ok (.iadd, 1) := by decide +kernel
theorem smd_M_usesTouched_44 : decode prog_7_method_17_code 44 = .ok (.iaload, 1) := by decide +kernel
theorem smd_M_usesTouched_45 : decode prog_7_method_17_code 45 = .ok (.goto 42, 3) := by decide +kernel
theorem smd_M_usesTouched_48 : decode prog_7_method_17_code 48 = .ok (.aload_n 0, 1) := by decide +kernel
theorem smd_M_usesTouched_49 : decode prog_7_method_17_code 49 = .ok (.getfield 7, 3) := by decide +kernel
theorem smd_M_usesTouched_52 : decode prog_7_method_17_code 52 = .ok (.iload 4, 2) := by decide +kernel
theorem smd_M_usesTouched_54 : decode prog_7_method_17_code 54 = .ok (.iaload, 1) := by decide +kernel
theorem smd_M_usesTouched_55 : decode prog_7_method_17_code 55 = .ok (.bipush 7, 2) := by decide +kernel
theorem smd_M_usesTouched_57 : decode prog_7_method_17_code 57 = .ok (.if_icmp .eq 15, 3) := by decide +kernel
theorem smd_M_usesTouched_60 : decode prog_7_method_17_code 60 = .ok (.aload_n 0, 1) := by decide +kernel
theorem smd_M_usesTouched_61 : decode prog_7_method_17_code 61 = .ok (.getfield 7, 3) := by decide +kernel
theorem smd_M_usesTouched_64 : decode prog_7_method_17_code 64 = .ok (.iload 4, 2) := by decide +kernel
theorem smd_M_usesTouched_66 : decode prog_7_method_17_code 66 = .ok (.iaload, 1) := by decide +kernel
theorem smd_M_usesTouched_67 : decode prog_7_method_17_code 67 = .ok (.bipush 8, 2) := by decide +kernel
theorem smd_M_usesTouched_69 : decode prog_7_method_17_code 69 = .ok (.if_icmp .ne 17, 3) := by decide +kernel
theorem smd_M_usesTouched_72 : decode prog_7_method_17_code 72 = .ok (.aload_n 0, 1) := by decide +kernel
theorem smd_M_usesTouched_73 : decode prog_7_method_17_code 73 = .ok (.getfield 7, 3) := by decide +kernel
theorem smd_M_usesTouched_76 : decode prog_7_method_17_code 76 = .ok (.iload 4, 2) := by decide +kernel
theorem smd_M_usesTouched_78 : decode prog_7_method_17_code 78 = .ok (.iconst 3, 1) := by decide +kernel
theorem smd_M_usesTouched_79 : decode prog_7_method_17_code 79 = .ok (.iadd, 1) := by decide +kernel
theorem smd_M_usesTouched_80 : decode prog_7_method_17_code 80 = .ok (.iaload, 1) := by decide +kernel
theorem smd_M_usesTouched_81 : decode prog_7_method_17_code 81 = .ok (.iconst 4, 1) := by decide +kernel
theorem smd_M_usesTouched_82 : decode prog_7_method_17_code 82 = .ok (.idiv, 1) := by decide +kernel
theorem smd_M_usesTouched_83 : decode prog_7_method_17_code 83 = .ok (.goto 4, 3) := by decide +kernel
theorem smd_M_usesTouched_86 : decode prog_7_method_17_code 86 = .ok (.iconst (-1), 1) := by decide +kernel
theorem smd_M_usesTouched_87 : decode prog_7_method_17_code 87 = .ok (.istore 5, 2) := by decide +kernel
theorem smd_M_usesTouched_89 : decode prog_7_method_17_code 89 = .ok (.iload_n 2, 1) := by decide +kernel
theorem smd_M_usesTouched_90 : decode prog_7_method_17_code 90 = .ok (.ifCond .ne 18, 3) := by decide +kernel
theorem smd_M_usesTouched_93 : decode prog_7_method_17_code 93 = .ok (.iload 5, 2) := by decide +kernel
theorem smd_M_usesTouched_95 : decode prog_7_method_17_code 95 = .ok (.ifCond .lt 17, 3) := by decide +kernel
theorem smd_M_usesTouched_98 : decode prog_7_method_17_code 98 = .ok (.aload_n 0, 1) := by decide +kernel
theorem smd_M_usesTouched_99 : decode prog_7_method_17_code 99 = .ok (.getfield 22, 3) := by decide +kernel
theorem smd_M_usesTouched_102 : decode prog_7_method_17_code 102 = .ok (.iload 5, 2) := by decide +kernel
theorem smd_M_usesTouched_104 : decode prog_7_method_17_code 104 = .ok (.baload, 1) := by decide +kernel
theorem smd_M_usesTouched_105 : decode prog_7_method_17_code 105 = .ok (.ifCond .eq 7, 3) := by decide +kernel
theorem smd_M_usesTouched_108 : decode prog_7_method_17_code 108 = .ok (.iconst 1, 1) := by decide +kernel
theorem smd_M_usesTouched_109 : decode prog_7_method_17_code 109 = .ok (.goto 4, 3) := by decide +kernel
theorem smd_M_usesTouched_112 : decode prog_7_method_17_code 112 = .ok (.iconst 0, 1) := by decide +kernel
theorem smd_M_usesTouched_113 : decode prog_7_method_17_code 113 = .ok (.istore_n 2, 1) := by decide +kernel
theorem smd_M_usesTouched_114 : decode prog_7_method_17_code 114 = .ok (.iinc 3 1, 3) := by decide +kernel
theorem smd_M_usesTouched_117 : decode prog_7_method_17_code 117 = .ok (.goto (-113), 3) := by decide +kernel
theorem smd_M_usesTouched_120 : decode prog_7_method_17_code 120 = .ok (.iload_n 2, 1) := by decide +kernel
theorem smd_M_usesTouched_121 : decode prog_7_method_17_code 121 = .ok (.ireturn, 1) := by decide +kernel
theorem smd_M_isChanged_0 : decode prog_7_method_18_code 0 = .ok (.aload_n 0, 1) := by decide +kernel
theorem smd_M_isChanged_1 : decode prog_7_method_18_code 1 = .ok (.iload_n 1, 1) := by decide +kernel
theorem smd_M_isChanged_2 : decode prog_7_method_18_code 2 = .ok (.invokevirtual 87, 3) := by decide +kernel
theorem smd_M_isChanged_5 : decode prog_7_method_18_code 5 = .ok (.ifCond .ne 11, 3) := by decide +kernel
theorem smd_M_isChanged_8 : decode prog_7_method_18_code 8 = .ok (.aload_n 0, 1) := by decide +kernel
theorem smd_M_isChanged_9 : decode prog_7_method_18_code 9 = .ok (.iload_n 1, 1) := by decide +kernel
theorem smd_M_isChanged_10 : decode prog_7_method_18_code 10 = .ok (.invokevirtual 90, 3) := by decide +kernel
theorem smd_M_isChanged_13 : decode prog_7_method_18_code 13 = .ok (.ifCond .eq 7, 3) := by decide +kernel
theorem smd_M_isChanged_16 : decode prog_7_method_18_code 16 = .ok (.iconst 1, 1) := by decide +kernel
theorem smd_M_isChanged_17 : decode prog_7_method_18_code 17 = .ok (.goto 4, 3) := by decide +kernel
theorem smd_M_isChanged_20 : decode prog_7_method_18_code 20 = .ok (.iconst 0, 1) := by decide +kernel
theorem smd_M_isChanged_21 : decode prog_7_method_18_code 21 = .ok (.ireturn, 1) := by decide +kernel
theorem smd_M_changed_0 : decode prog_7_method_19_code 0 = .ok (.aload_n 0, 1) := by decide +kernel
theorem smd_M_changed_1 : decode prog_7_method_19_code 1 = .ok (.getfield 63, 3) := by decide +kernel
theorem smd_M_changed_4 : decode prog_7_method_19_code 4 = .ok (.ifCond .eq 22, 3) := by decide +kernel
theorem smd_M_changed_7 : decode prog_7_method_19_code 7 = .ok (.iload_n 1, 1) := by decide +kernel
theorem smd_M_changed_8 : decode prog_7_method_19_code 8 = .ok (.invokestatic 59, 3) := by decide +kernel
theorem smd_M_changed_11 : decode prog_7_method_19_code 11 = .ok (.ifCond .eq 15, 3) := by decide +kernel
theorem smd_M_changed_14 : decode prog_7_method_19_code 14 = .ok (.aload_n 0, 1) := by decide +kernel
theorem smd_M_changed_15 : decode prog_7_method_19_code 15 = .ok (.iload_n 1, 1) := by decide +kernel
theorem smd_M_changed_16 : decode prog_7_method_19_code 16 = .ok (.invokevirtual 93, 3) := by decide +kernel
theorem smd_M_changed_19 : decode prog_7_method_19_code 19 = .ok (.ifCond .eq 7, 3) := by decide +kernel
theorem smd_M_changed_22 : decode prog_7_method_19_code 22 = .ok (.iconst 1, 1) := by decide +kernel
theorem smd_M_changed_23 : decode prog_7_method_19_code 23 = .ok (.goto 4, 3) := by decide +kernel
theorem smd_M_changed_26 : decode prog_7_method_19_code 26 = .ok (.iconst 0, 1) := by decide +kernel
theorem smd_M_changed_27 : decode prog_7_method_19_code 27 = .ok (.ireturn, 1) := by decide +kernel
theorem smd_M_pointOf_0 : decode prog_7_method_20_code 0 = .ok (.iconst (-1), 1) := by decide +kernel
theorem smd_M_pointOf_1 : decode prog_7_method_20_code 1 = .ok (.istore_n 3, 1) := by decide +kernel
theorem smd_M_pointOf_2 : decode prog_7_method_20_code 2 = .ok (.aload_n 0, 1) := by decide +kernel
theorem smd_M_pointOf_3 : decode prog_7_method_20_code 3 = .ok (.getfield 13, 3) := by decide +kernel
theorem smd_M_pointOf_6 : decode prog_7_method_20_code 6 = .ok (.bipush 6, 2) := by decide +kernel
theorem smd_M_pointOf_8 : decode prog_7_method_20_code 8 = .ok (.iload_n 1, 1) := by decide +kernel
theorem smd_M_pointOf_9 : decode prog_7_method_20_code 9 = .ok (.iadd, 1) := by decide +kernel
theorem smd_M_pointOf_10 : decode prog_7_method_20_code 10 = .ok (.iaload, 1) := by decide +kernel
theorem smd_M_pointOf_11 : decode prog_7_method_20_code 11 = .ok (.iconst 1, 1) := by decide +kernel
theorem smd_M_pointOf_12 : decode prog_7_method_20_code 12 = .ok (.isub, 1) := by decide +kernel
theorem smd_M_pointOf_13 : decode prog_7_method_20_code 13 = .ok (.istore 4, 2) := by decide +kernel
theorem smd_M_pointOf_15 : decode prog_7_method_20_code 15 = .ok (.iload 4, 2) := by decide +kernel
theorem smd_M_pointOf_17 : decode prog_7_method_20_code 17 = .ok (.ifCond .lt 56, 3) := by decide +kernel
theorem smd_M_pointOf_20 : decode prog_7_method_20_code 20 = .ok (.sipush 288, 3) := by decide +kernel
theorem smd_M_pointOf_23 : decode prog_7_method_20_code 23 = .ok (.bipush 48, 2) := by decide +kernel
theorem smd_M_pointOf_25 : decode prog_7_method_20_code 25 = .ok (.iload_n 1, 1) := by decide +kernel
theorem smd_M_pointOf_26 : decode prog_7_method_20_code 26 = .ok (.imul, 1) := by decide +kernel
theorem smd_M_pointOf_27 : decode prog_7_method_20_code 27 = .ok (.iadd, 1) := by decide +kernel
theorem smd_M_pointOf_28 : decode prog_7_method_20_code 28 = .ok (.iconst 4, 1) := by decide +kernel
theorem smd_M_pointOf_29 : decode prog_7_method_20_code 29 = .ok (.iload 4, 2) := by decide +kernel
theorem smd_M_pointOf_31 : decode prog_7_method_20_code 31 = .ok (.imul, 1) := by decide +kernel
theorem smd_M_pointOf_32 : decode prog_7_method_20_code 32 = .ok (.iadd, 1) := by decide +kernel
theorem smd_M_pointOf_33 : decode prog_7_method_20_code 33 = .ok (.istore 5, 2) := by decide +kernel
theorem smd_M_pointOf_35 : decode prog_7_method_20_code 35 = .ok (.aload_n 0, 1) := by decide +kernel
theorem smd_M_pointOf_36 : decode prog_7_method_20_code 36 = .ok (.getfield 7, 3) := by decide +kernel
theorem smd_M_pointOf_39 : decode prog_7_method_20_code 39 = .ok (.iload 5, 2) := by decide +kernel
theorem smd_M_pointOf_41 : decode prog_7_method_20_code 41 = .ok (.iaload, 1) := by decide +kernel
theorem smd_M_pointOf_42 : decode prog_7_method_20_code 42 = .ok (.bipush 12, 2) := by decide +kernel
theorem smd_M_pointOf_44 : decode prog_7_method_20_code 44 = .ok (.if_icmp .ne 21, 3) := by decide +kernel
theorem smd_M_pointOf_47 : decode prog_7_method_20_code 47 = .ok (.aload_n 0, 1) := by decide +kernel
theorem smd_M_pointOf_48 : decode prog_7_method_20_code 48 = .ok (.getfield 7, 3) := by decide +kernel
theorem smd_M_pointOf_51 : decode prog_7_method_20_code 51 = .ok (.iload 5, 2) := by decide +kernel
theorem smd_M_pointOf_53 : decode prog_7_method_20_code 53 = .ok (.iconst 1, 1) := by decide +kernel
theorem smd_M_pointOf_54 : decode prog_7_method_20_code 54 = .ok (.iadd, 1) := by decide +kernel
theorem smd_M_pointOf_55 : decode prog_7_method_20_code 55 = .ok (.iaload, 1) := by decide +kernel
theorem smd_M_pointOf_56 : decode prog_7_method_20_code 56 = .ok (.iload_n 2, 1) := by decide +kernel
theorem smd_M_pointOf_57 : decode prog_7_method_20_code 57 = .ok (.if_icmp .ne 8, 3) := by decide +kernel
theorem smd_M_pointOf_60 : decode prog_7_method_20_code 60 = .ok (.iload 4, 2) := by decide +kernel
theorem smd_M_pointOf_62 : decode prog_7_method_20_code 62 = .ok (.goto 4, 3) := by decide +kernel
theorem smd_M_pointOf_65 : decode prog_7_method_20_code 65 = .ok (.iload_n 3, 1) := by decide +kernel
theorem smd_M_pointOf_66 : decode prog_7_method_20_code 66 = .ok (.istore_n 3, 1) := by decide +kernel
theorem smd_M_pointOf_67 : decode prog_7_method_20_code 67 = .ok (.iinc 4 (-1), 3) := by decide +kernel
theorem smd_M_pointOf_70 : decode prog_7_method_20_code 70 = .ok (.goto (-55), 3) := by decide +kernel
theorem smd_M_pointOf_73 : decode prog_7_method_20_code 73 = .ok (.iload_n 3, 1) := by decide +kernel
theorem smd_M_pointOf_74 : decode prog_7_method_20_code 74 = .ok (.ireturn, 1) := by decide +kernel
theorem smd_M_frameAt_0 : decode prog_7_method_21_code 0 = .ok (.bipush 36, 2) := by decide +kernel
theorem smd_M_frameAt_2 : decode prog_7_method_21_code 2 = .ok (.iload_n 0, 1) := by decide +kernel
theorem smd_M_frameAt_3 : decode prog_7_method_21_code 3 = .ok (.imul, 1) := by decide +kernel
theorem smd_M_frameAt_4 : decode prog_7_method_21_code 4 = .ok (.bipush 6, 2) := by decide +kernel
theorem smd_M_frameAt_6 : decode prog_7_method_21_code 6 = .ok (.iload_n 1, 1) := by decide +kernel
theorem smd_M_frameAt_7 : decode prog_7_method_21_code 7 = .ok (.imul, 1) := by decide +kernel
theorem smd_M_frameAt_8 : decode prog_7_method_21_code 8 = .ok (.iadd, 1) := by decide +kernel
theorem smd_M_frameAt_9 : decode prog_7_method_21_code 9 = .ok (.ireturn, 1) := by decide +kernel
theorem smd_M_isInTheWay_0 : decode prog_7_method_22_code 0 = .ok (.aload_n 0, 1) := by decide +kernel
theorem smd_M_isInTheWay_1 : decode prog_7_method_22_code 1 = .ok (.getfield 50, 3) := by decide +kernel
theorem smd_M_isInTheWay_4 : decode prog_7_method_22_code 4 = .ok (.iload_n 1, 1) := by decide +kernel
theorem smd_M_isInTheWay_5 : decode prog_7_method_22_code 5 = .ok (.iload_n 2, 1) := by decide +kernel
theorem smd_M_isInTheWay_6 : decode prog_7_method_22_code 6 = .ok (.invokestatic 96, 3) := by decide +kernel
theorem smd_M_isInTheWay_9 : decode prog_7_method_22_code 9 = .ok (.iaload, 1) := by decide +kernel
theorem smd_M_isInTheWay_10 : decode prog_7_method_22_code 10 = .ok (.istore_n 3, 1) := by decide +kernel
theorem smd_M_isInTheWay_11 : decode prog_7_method_22_code 11 = .ok (.aload_n 0, 1) := by decide +kernel
theorem smd_M_isInTheWay_12 : decode prog_7_method_22_code 12 = .ok (.iload_n 3, 1) := by decide +kernel
theorem smd_M_isInTheWay_13 : decode prog_7_method_22_code 13 = .ok (.invokevirtual 93, 3) := by decide +kernel
theorem smd_M_isInTheWay_16 : decode prog_7_method_22_code 16 = .ok (.ifCond .ne 5, 3) := by decide +kernel
theorem smd_M_isInTheWay_19 : decode prog_7_method_22_code 19 = .ok (.iconst 0, 1) := by decide +kernel
theorem smd_M_isInTheWay_20 : decode prog_7_method_22_code 20 = .ok (.ireturn, 1) := by decide +kernel
theorem smd_M_isInTheWay_21 : decode prog_7_method_22_code 21 = .ok (.bipush 48, 2) := by decide +kernel
theorem smd_M_isInTheWay_23 : decode prog_7_method_22_code 23 = .ok (.iload_n 3, 1) := by decide +kernel
theorem smd_M_isInTheWay_24 : decode prog_7_method_22_code 24 = .ok (.imul, 1) := by decide +kernel
theorem smd_M_isInTheWay_25 : decode prog_7_method_22_code 25 = .ok (.iconst 4, 1) := by decide +kernel
theorem smd_M_isInTheWay_26 : decode prog_7_method_22_code 26 = .ok (.aload_n 0, 1) := by decide +kernel
theorem smd_M_isInTheWay_27 : decode prog_7_method_22_code 27 = .ok (.getfield 50, 3) := by decide +kernel
theorem smd_M_isInTheWay_30 : decode prog_7_method_22_code 30 = .ok (.iload_n 1, 1) := by decide +kernel
theorem smd_M_isInTheWay_31 : decode prog_7_method_22_code 31 = .ok (.iload_n 2, 1) := by decide +kernel
theorem smd_M_isInTheWay_32 : decode prog_7_method_22_code 32 = .ok (.invokestatic 96, 3) := by decide +kernel
theorem smd_M_isInTheWay_35 : decode prog_7_method_22_code 35 = .ok (.iconst 1, 1) := by decide +kernel
theorem smd_M_isInTheWay_36 : decode prog_7_method_22_code 36 = .ok (.iadd, 1) := by decide +kernel
theorem smd_M_isInTheWay_37 : decode prog_7_method_22_code 37 = .ok (.iaload, 1) := by decide +kernel
theorem smd_M_isInTheWay_38 : decode prog_7_method_22_code 38 = .ok (.imul, 1) := by decide +kernel
theorem smd_M_isInTheWay_39 : decode prog_7_method_22_code 39 = .ok (.iadd, 1) := by decide +kernel
theorem smd_M_isInTheWay_40 : decode prog_7_method_22_code 40 = .ok (.istore 4, 2) := by decide +kernel
theorem smd_M_isInTheWay_42 : decode prog_7_method_22_code 42 = .ok (.iload_n 2, 1) := by decide +kernel
theorem smd_M_isInTheWay_43 : decode prog_7_method_22_code 43 = .ok (.iconst 1, 1) := by decide +kernel
theorem smd_M_isInTheWay_44 : decode prog_7_method_22_code 44 = .ok (.iadd, 1) := by decide +kernel
theorem smd_M_isInTheWay_45 : decode prog_7_method_22_code 45 = .ok (.aload_n 0, 1) := by decide +kernel
theorem smd_M_isInTheWay_46 : decode prog_7_method_22_code 46 = .ok (.getfield 47, 3) := by decide +kernel
theorem smd_M_isInTheWay_49 : decode prog_7_method_22_code 49 = .ok (.iload_n 1, 1) := by decide +kernel
theorem smd_M_isInTheWay_50 : decode prog_7_method_22_code 50 = .ok (.iaload, 1) := by decide +kernel
theorem smd_M_isInTheWay_51 : decode prog_7_method_22_code 51 = .ok (.if_icmp .lt 32, 3) := by decide +kernel
theorem smd_M_isInTheWay_54 : decode prog_7_method_22_code 54 = .ok (.aload_n 0, 1) := by decide +kernel
theorem smd_M_isInTheWay_55 : decode prog_7_method_22_code 55 = .ok (.getfield 7, 3) := by decide +kernel
theorem smd_M_isInTheWay_58 : decode prog_7_method_22_code 58 = .ok (.iload 4, 2) := by decide +kernel
theorem smd_M_isInTheWay_60 : decode prog_7_method_22_code 60 = .ok (.iaload, 1) := by decide +kernel
theorem smd_M_isInTheWay_61 : decode prog_7_method_22_code 61 = .ok (.bipush 12, 2) := by decide +kernel
theorem smd_M_isInTheWay_63 : decode prog_7_method_22_code 63 = .ok (.if_icmp .ne 20, 3) := by decide +kernel
theorem smd_M_isInTheWay_66 : decode prog_7_method_22_code 66 = .ok (.aload_n 0, 1) := by decide +kernel
theorem smd_M_isInTheWay_67 : decode prog_7_method_22_code 67 = .ok (.iload_n 3, 1) := by decide +kernel
theorem smd_M_isInTheWay_68 : decode prog_7_method_22_code 68 = .ok (.aload_n 0, 1) := by decide +kernel
theorem smd_M_isInTheWay_69 : decode prog_7_method_22_code 69 = .ok (.getfield 7, 3) := by decide +kernel
theorem smd_M_isInTheWay_72 : decode prog_7_method_22_code 72 = .ok (.iload 4, 2) := by decide +kernel
theorem smd_M_isInTheWay_74 : decode prog_7_method_22_code 74 = .ok (.iconst 1, 1) := by decide +kernel
theorem smd_M_isInTheWay_75 : decode prog_7_method_22_code 75 = .ok (.iadd, 1) := by decide +kernel
theorem smd_M_isInTheWay_76 : decode prog_7_method_22_code 76 = .ok (.iaload, 1) := by decide +kernel
theorem smd_M_isInTheWay_77 : decode prog_7_method_22_code 77 = .ok (.invokevirtual 100, 3) := by decide +kernel
theorem smd_M_isInTheWay_80 : decode prog_7_method_22_code 80 = .ok (.ifCond .ge 7, 3) := by decide +kernel
theorem smd_M_isInTheWay_83 : decode prog_7_method_22_code 83 = .ok (.iconst 1, 1) := by decide +kernel
theorem smd_M_isInTheWay_84 : decode prog_7_method_22_code 84 = .ok (.goto 4, 3) := by decide +kernel
theorem smd_M_isInTheWay_87 : decode prog_7_method_22_code 87 = .ok (.iconst 0, 1) := by decide +kernel
theorem smd_M_isInTheWay_88 : decode prog_7_method_22_code 88 = .ok (.ireturn, 1) := by decide +kernel
theorem smd_M_blocker_0 : decode prog_7_method_23_code 0 = .ok (.aload_n 0, 1) := by decide +kernel
theorem smd_M_blocker_1 : decode prog_7_method_23_code 1 = .ok (.getfield 63, 3) := by decide +kernel
theorem smd_M_blocker_4 : decode prog_7_method_23_code 4 = .ok (.ifCond .ne 5, 3) := by decide +kernel
theorem smd_M_blocker_7 : decode prog_7_method_23_code 7 = .ok (.iconst 0, 1) := by decide +kernel
theorem smd_M_blocker_8 : decode prog_7_method_23_code 8 = .ok (.ireturn, 1) := by decide +kernel
theorem smd_M_blocker_9 : decode prog_7_method_23_code 9 = .ok (.iconst 1, 1) := by decide +kernel
theorem smd_M_blocker_10 : decode prog_7_method_23_code 10 = .ok (.istore_n 2, 1) := by decide +kernel
theorem smd_M_blocker_11 : decode prog_7_method_23_code 11 = .ok (.iload_n 2, 1) := by decide +kernel
theorem smd_M_blocker_12 : decode prog_7_method_23_code 12 = .ok (.aload_n 0, 1) := by decide +kernel
theorem smd_M_blocker_13 : decode prog_7_method_23_code 13 = .ok (.getfield 103, 3) := by decide +kernel
theorem smd_M_blocker_16 : decode prog_7_method_23_code 16 = .ok (.if_icmp .gt 43, 3) := by decide +kernel
theorem smd_M_blocker_19 : decode prog_7_method_23_code 19 = .ok (.iconst 0, 1) := by decide +kernel
theorem smd_M_blocker_20 : decode prog_7_method_23_code 20 = .ok (.istore_n 3, 1) := by decide +kernel
theorem smd_M_blocker_21 : decode prog_7_method_23_code 21 = .ok (.iload_n 3, 1) := by decide +kernel
theorem smd_M_blocker_22 : decode prog_7_method_23_code 22 = .ok (.aload_n 0, 1) := by decide +kernel
theorem smd_M_blocker_23 : decode prog_7_method_23_code 23 = .ok (.getfield 47, 3) := by decide +kernel
theorem smd_M_blocker_26 : decode prog_7_method_23_code 26 = .ok (.iload_n 2, 1) := by decide +kernel
theorem smd_M_blocker_27 : decode prog_7_method_23_code 27 = .ok (.iaload, 1) := by decide +kernel
theorem smd_M_blocker_28 : decode prog_7_method_23_code 28 = .ok (.if_icmp .ge 25, 3) := by decide +kernel
theorem smd_M_blocker_31 : decode prog_7_method_23_code 31 = .ok (.iload_n 2, 1) := by decide +kernel
theorem smd_M_blocker_32 : decode prog_7_method_23_code 32 = .ok (.iload_n 1, 1) := by decide +kernel
theorem smd_M_blocker_33 : decode prog_7_method_23_code 33 = .ok (.if_icmp .lt 14, 3) := by decide +kernel
theorem smd_M_blocker_36 : decode prog_7_method_23_code 36 = .ok (.aload_n 0, 1) := by decide +kernel
theorem smd_M_blocker_37 : decode prog_7_method_23_code 37 = .ok (.iload_n 2, 1) := by decide +kernel
theorem smd_M_blocker_38 : decode prog_7_method_23_code 38 = .ok (.iload_n 3, 1) := by decide +kernel
theorem smd_M_blocker_39 : decode prog_7_method_23_code 39 = .ok (.invokevirtual 107, 3) := by decide +kernel
theorem smd_M_blocker_42 : decode prog_7_method_23_code 42 = .ok (.ifCond .eq 5, 3) := by decide +kernel
theorem smd_M_blocker_45 : decode prog_7_method_23_code 45 = .ok (.iload_n 2, 1) := by decide +kernel
theorem smd_M_blocker_46 : decode prog_7_method_23_code 46 = .ok (.ireturn, 1) := by decide +kernel
theorem smd_M_blocker_47 : decode prog_7_method_23_code 47 = .ok (.iinc 3 1, 3) := by decide +kernel
theorem smd_M_blocker_50 : decode prog_7_method_23_code 50 = .ok (.goto (-29), 3) := by decide +kernel
theorem smd_M_blocker_53 : decode prog_7_method_23_code 53 = .ok (.iinc 2 1, 3) := by decide +kernel
theorem smd_M_blocker_56 : decode prog_7_method_23_code 56 = .ok (.goto (-45), 3) := by decide +kernel
theorem smd_M_blocker_59 : decode prog_7_method_23_code 59 = .ok (.iconst 0, 1) := by decide +kernel
theorem smd_M_blocker_60 : decode prog_7_method_23_code 60 = .ok (.ireturn, 1) := by decide +kernel
theorem smd_M_isObject_0 : decode prog_7_method_24_code 0 = .ok (.iload_n 1, 1) := by decide +kernel
theorem smd_M_isObject_1 : decode prog_7_method_24_code 1 = .ok (.iconst 1, 1) := by decide +kernel
theorem smd_M_isObject_2 : decode prog_7_method_24_code 2 = .ok (.if_icmp .lt 22, 3) := by decide +kernel
theorem smd_M_isObject_5 : decode prog_7_method_24_code 5 = .ok (.iload_n 1, 1) := by decide +kernel
theorem smd_M_isObject_6 : decode prog_7_method_24_code 6 = .ok (.bipush 16, 2) := by decide +kernel
theorem smd_M_isObject_8 : decode prog_7_method_24_code 8 = .ok (.if_icmp .gt 16, 3) := by decide +kernel
theorem smd_M_isObject_11 : decode prog_7_method_24_code 11 = .ok (.aload_n 0, 1) := by decide +kernel
theorem smd_M_isObject_12 : decode prog_7_method_24_code 12 = .ok (.getfield 29, 3) := by decide +kernel
theorem smd_M_isObject_15 : decode prog_7_method_24_code 15 = .ok (.iload_n 1, 1) := by decide +kernel
theorem smd_M_isObject_16 : decode prog_7_method_24_code 16 = .ok (.iaload, 1) := by decide +kernel
theorem smd_M_isObject_17 : decode prog_7_method_24_code 17 = .ok (.ifCond .lt 7, 3) := by decide +kernel
theorem smd_M_isObject_20 : decode prog_7_method_24_code 20 = .ok (.iconst 1, 1) := by decide +kernel
theorem smd_M_isObject_21 : decode prog_7_method_24_code 21 = .ok (.goto 4, 3) := by decide +kernel
theorem smd_M_isObject_24 : decode prog_7_method_24_code 24 = .ok (.iconst 0, 1) := by decide +kernel
theorem smd_M_isObject_25 : decode prog_7_method_24_code 25 = .ok (.ireturn, 1) := by decide +kernel
theorem smd_M_mark_0 : decode prog_7_method_25_code 0 = .ok (.aload_n 0, 1) := by decide +kernel
theorem smd_M_mark_1 : decode prog_7_method_25_code 1 = .ok (.iload_n 1, 1) := by decide +kernel
theorem smd_M_mark_2 : decode prog_7_method_25_code 2 = .ok (.invokevirtual 110, 3) := by decide +kernel
theorem smd_M_mark_5 : decode prog_7_method_25_code 5 = .ok (.ifCond .eq 10, 3) := by decide +kernel
theorem smd_M_mark_8 : decode prog_7_method_25_code 8 = .ok (.aload_n 0, 1) := by decide +kernel
theorem smd_M_mark_9 : decode prog_7_method_25_code 9 = .ok (.getfield 38, 3) := by decide +kernel
theorem smd_M_mark_12 : decode prog_7_method_25_code 12 = .ok (.iload_n 1, 1) := by decide +kernel
theorem smd_M_mark_13 : decode prog_7_method_25_code 13 = .ok (.iconst 1, 1) := by decide +kernel
theorem smd_M_mark_14 : decode prog_7_method_25_code 14 = .ok (.bastore, 1) := by decide +kernel
theorem smd_M_mark_15 : decode prog_7_method_25_code 15 = .ok (.return_, 1) := by decide +kernel
theorem smd_M_countMarked_0 : decode prog_7_method_26_code 0 = .ok (.iconst 0, 1) := by decide +kernel
theorem smd_M_countMarked_1 : decode prog_7_method_26_code 1 = .ok (.istore_n 1, 1) := by decide +kernel
theorem smd_M_countMarked_2 : decode prog_7_method_26_code 2 = .ok (.iconst 1, 1) := by decide +kernel
theorem smd_M_countMarked_3 : decode prog_7_method_26_code 3 = .ok (.istore_n 2, 1) := by decide +kernel
theorem smd_M_countMarked_4 : decode prog_7_method_26_code 4 = .ok (.iload_n 2, 1) := by decide +kernel
theorem smd_M_countMarked_5 : decode prog_7_method_26_code 5 = .ok (.bipush 17, 2) := by decide +kernel
theorem smd_M_countMarked_7 : decode prog_7_method_26_code 7 = .ok (.if_icmp .ge 26, 3) := by decide +kernel
theorem smd_M_countMarked_10 : decode prog_7_method_26_code 10 = .ok (.iload_n 1, 1) := by decide +kernel
theorem smd_M_countMarked_11 : decode prog_7_method_26_code 11 = .ok (.aload_n 0, 1) := by decide +kernel
theorem smd_M_countMarked_12 : decode prog_7_method_26_code 12 = .ok (.getfield 38, 3) := by decide +kernel
theorem smd_M_countMarked_15 : decode prog_7_method_26_code 15 = .ok (.iload_n 2, 1) := by decide +kernel
theorem smd_M_countMarked_16 : decode prog_7_method_26_code 16 = .ok (.baload, 1) := by decide +kernel
theorem smd_M_countMarked_17 : decode prog_7_method_26_code 17 = .ok (.ifCond .eq 7, 3) := by decide +kernel
theorem smd_M_countMarked_20 : decode prog_7_method_26_code 20 = .ok (.iconst 1, 1) := by decide +kernel
theorem smd_M_countMarked_21 : decode prog_7_method_26_code 21 = .ok (.goto 4, 3) := by decide +kernel
theorem smd_M_countMarked_24 : decode prog_7_method_26_code 24 = .ok (.iconst 0, 1) := by decide +kernel
theorem smd_M_countMarked_25 : decode prog_7_method_26_code 25 = .ok (.iadd, 1) := by decide +kernel
theorem smd_M_countMarked_26 : decode prog_7_method_26_code 26 = .ok (.istore_n 1, 1) := by decide +kernel
theorem smd_M_countMarked_27 : decode prog_7_method_26_code 27 = .ok (.iinc 2 1, 3) := by decide +kernel
theorem smd_M_countMarked_30 : decode prog_7_method_26_code 30 = .ok (.goto (-26), 3) := by decide +kernel
theorem smd_M_countMarked_33 : decode prog_7_method_26_code 33 = .ok (.iload_n 1, 1) := by decide +kernel
theorem smd_M_countMarked_34 : decode prog_7_method_26_code 34 = .ok (.ireturn, 1) := by decide +kernel
theorem smd_M_sweep_0 : decode prog_7_method_27_code 0 = .ok (.iconst 0, 1) := by decide +kernel
theorem smd_M_sweep_1 : decode prog_7_method_27_code 1 = .ok (.istore_n 1, 1) := by decide +kernel
theorem smd_M_sweep_2 : decode prog_7_method_27_code 2 = .ok (.iload_n 1, 1) := by decide +kernel
theorem smd_M_sweep_3 : decode prog_7_method_27_code 3 = .ok (.bipush 17, 2) := by decide +kernel
theorem smd_M_sweep_5 : decode prog_7_method_27_code 5 = .ok (.if_icmp .ge 16, 3) := by decide +kernel
theorem smd_M_sweep_8 : decode prog_7_method_27_code 8 = .ok (.aload_n 0, 1) := by decide +kernel
theorem smd_M_sweep_9 : decode prog_7_method_27_code 9 = .ok (.getfield 38, 3) := by decide +kernel
theorem smd_M_sweep_12 : decode prog_7_method_27_code 12 = .ok (.iload_n 1, 1) := by decide +kernel
theorem smd_M_sweep_13 : decode prog_7_method_27_code 13 = .ok (.iconst 0, 1) := by decide +kernel
theorem smd_M_sweep_14 : decode prog_7_method_27_code 14 = .ok (.bastore, 1) := by decide +kernel
theorem smd_M_sweep_15 : decode prog_7_method_27_code 15 = .ok (.iinc 1 1, 3) := by decide +kernel
theorem smd_M_sweep_18 : decode prog_7_method_27_code 18 = .ok (.goto (-16), 3) := by decide +kernel
theorem smd_M_sweep_21 : decode prog_7_method_27_code 21 = .ok (.iconst 0, 1) := by decide +kernel
theorem smd_M_sweep_22 : decode prog_7_method_27_code 22 = .ok (.istore_n 1, 1) := by decide +kernel
theorem smd_M_sweep_23 : decode prog_7_method_27_code 23 = .ok (.iload_n 1, 1) := by decide +kernel
theorem smd_M_sweep_24 : decode prog_7_method_27_code 24 = .ok (.iconst 4, 1) := by decide +kernel
theorem smd_M_sweep_25 : decode prog_7_method_27_code 25 = .ok (.if_icmp .ge 19, 3) := by decide +kernel
theorem smd_M_sweep_28 : decode prog_7_method_27_code 28 = .ok (.aload_n 0, 1) := by decide +kernel
theorem smd_M_sweep_29 : decode prog_7_method_27_code 29 = .ok (.aload_n 0, 1) := by decide +kernel
theorem smd_M_sweep_30 : decode prog_7_method_27_code 30 = .ok (.getfield 26, 3) := by decide +kernel
theorem smd_M_sweep_33 : decode prog_7_method_27_code 33 = .ok (.iload_n 1, 1) := by decide +kernel
theorem smd_M_sweep_34 : decode prog_7_method_27_code 34 = .ok (.iaload, 1) := by decide +kernel
theorem smd_M_sweep_35 : decode prog_7_method_27_code 35 = .ok (.invokevirtual 113, 3) := by decide +kernel
theorem smd_M_sweep_38 : decode prog_7_method_27_code 38 = .ok (.iinc 1 1, 3) := by decide +kernel
theorem smd_M_sweep_41 : decode prog_7_method_27_code 41 = .ok (.goto (-18), 3) := by decide +kernel
theorem smd_M_sweep_44 : decode prog_7_method_27_code 44 = .ok (.iconst 1, 1) := by decide +kernel
theorem smd_M_sweep_45 : decode prog_7_method_27_code 45 = .ok (.istore_n 1, 1) := by decide +kernel
theorem smd_M_sweep_46 : decode prog_7_method_27_code 46 = .ok (.iload_n 1, 1) := by decide +kernel
theorem smd_M_sweep_47 : decode prog_7_method_27_code 47 = .ok (.aload_n 0, 1) := by decide +kernel
theorem smd_M_sweep_48 : decode prog_7_method_27_code 48 = .ok (.getfield 103, 3) := by decide +kernel
theorem smd_M_sweep_51 : decode prog_7_method_27_code 51 = .ok (.if_icmp .gt 58, 3) := by decide +kernel
theorem smd_M_sweep_54 : decode prog_7_method_27_code 54 = .ok (.iconst 0, 1) := by decide +kernel
theorem smd_M_sweep_55 : decode prog_7_method_27_code 55 = .ok (.istore_n 2, 1) := by decide +kernel
theorem smd_M_sweep_56 : decode prog_7_method_27_code 56 = .ok (.iload_n 2, 1) := by decide +kernel
theorem smd_M_sweep_57 : decode prog_7_method_27_code 57 = .ok (.aload_n 0, 1) := by decide +kernel
theorem smd_M_sweep_58 : decode prog_7_method_27_code 58 = .ok (.getfield 47, 3) := by decide +kernel
theorem smd_M_sweep_61 : decode prog_7_method_27_code 61 = .ok (.iload_n 1, 1) := by decide +kernel
theorem smd_M_sweep_62 : decode prog_7_method_27_code 62 = .ok (.iaload, 1) := by decide +kernel
theorem smd_M_sweep_63 : decode prog_7_method_27_code 63 = .ok (.if_icmp .ge 40, 3) := by decide +kernel
theorem smd_M_sweep_66 : decode prog_7_method_27_code 66 = .ok (.iconst 0, 1) := by decide +kernel
theorem smd_M_sweep_67 : decode prog_7_method_27_code 67 = .ok (.istore_n 3, 1) := by decide +kernel
theorem smd_M_sweep_68 : decode prog_7_method_27_code 68 = .ok (.iload_n 3, 1) := by decide +kernel
theorem smd_M_sweep_69 : decode prog_7_method_27_code 69 = .ok (.iconst 3, 1) := by decide +kernel
theorem smd_M_sweep_70 : decode prog_7_method_27_code 70 = .ok (.if_icmp .ge 27, 3) := by decide +kernel
theorem smd_M_sweep_73 : decode prog_7_method_27_code 73 = .ok (.aload_n 0, 1) := by decide +kernel
theorem smd_M_sweep_74 : decode prog_7_method_27_code 74 = .ok (.aload_n 0, 1) := by decide +kernel
theorem smd_M_sweep_75 : decode prog_7_method_27_code 75 = .ok (.getfield 50, 3) := by decide +kernel
theorem smd_M_sweep_78 : decode prog_7_method_27_code 78 = .ok (.iload_n 1, 1) := by decide +kernel
theorem smd_M_sweep_79 : decode prog_7_method_27_code 79 = .ok (.iload_n 2, 1) := by decide +kernel
theorem smd_M_sweep_80 : decode prog_7_method_27_code 80 = .ok (.invokestatic 96, 3) := by decide +kernel
theorem smd_M_sweep_83 : decode prog_7_method_27_code 83 = .ok (.iconst 2, 1) := by decide +kernel
theorem smd_M_sweep_84 : decode prog_7_method_27_code 84 = .ok (.iadd, 1) := by decide +kernel
theorem smd_M_sweep_85 : decode prog_7_method_27_code 85 = .ok (.iload_n 3, 1) := by decide +kernel
theorem smd_M_sweep_86 : decode prog_7_method_27_code 86 = .ok (.iadd, 1) := by decide +kernel
theorem smd_M_sweep_87 : decode prog_7_method_27_code 87 = .ok (.iaload, 1) := by decide +kernel
theorem smd_M_sweep_88 : decode prog_7_method_27_code 88 = .ok (.invokevirtual 113, 3) := by decide +kernel
theorem smd_M_sweep_91 : decode prog_7_method_27_code 91 = .ok (.iinc 3 1, 3) := by decide +kernel
theorem smd_M_sweep_94 : decode prog_7_method_27_code 94 = .ok (.goto (-26), 3) := by decide +kernel
theorem smd_M_sweep_97 : decode prog_7_method_27_code 97 = .ok (.iinc 2 1, 3) := by decide +kernel
theorem smd_M_sweep_100 : decode prog_7_method_27_code 100 = .ok (.goto (-44), 3) := by decide +kernel
theorem smd_M_sweep_103 : decode prog_7_method_27_code 103 = .ok (.iinc 1 1, 3) := by decide +kernel
theorem smd_M_sweep_106 : decode prog_7_method_27_code 106 = .ok (.goto (-60), 3) := by decide +kernel
theorem smd_M_sweep_109 : decode prog_7_method_27_code 109 = .ok (.iconst (-1), 1) := by decide +kernel
theorem smd_M_sweep_110 : decode prog_7_method_27_code 110 = .ok (.istore_n 1, 1) := by decide +kernel
theorem smd_M_sweep_111 : decode prog_7_method_27_code 111 = .ok (.iload_n 1, 1) := by decide +kernel
theorem smd_M_sweep_112 : decode prog_7_method_27_code 112 = .ok (.aload_n 0, 1) := by decide +kernel
theorem smd_M_sweep_113 : decode prog_7_method_27_code 113 = .ok (.invokevirtual 116, 3) := by decide +kernel
theorem smd_M_sweep_116 : decode prog_7_method_27_code 116 = .ok (.if_icmp .eq 71, 3) := by decide +kernel
theorem smd_M_sweep_119 : decode prog_7_method_27_code 119 = .ok (.aload_n 0, 1) := by decide +kernel
theorem smd_M_sweep_120 : decode prog_7_method_27_code 120 = .ok (.invokevirtual 116, 3) := by decide +kernel
theorem smd_M_sweep_123 : decode prog_7_method_27_code 123 = .ok (.istore_n 1, 1) := by decide +kernel
theorem smd_M_sweep_124 : decode prog_7_method_27_code 124 = .ok (.iconst 1, 1) := by decide +kernel
theorem smd_M_sweep_125 : decode prog_7_method_27_code 125 = .ok (.istore_n 2, 1) := by decide +kernel
theorem smd_M_sweep_126 : decode prog_7_method_27_code 126 = .ok (.iload_n 2, 1) := by decide +kernel
theorem smd_M_sweep_127 : decode prog_7_method_27_code 127 = .ok (.bipush 17, 2) := by decide +kernel
theorem smd_M_sweep_129 : decode prog_7_method_27_code 129 = .ok (.if_icmp .ge 55, 3) := by decide +kernel
theorem smd_M_sweep_132 : decode prog_7_method_27_code 132 = .ok (.iconst 0, 1) := by decide +kernel
theorem smd_M_sweep_133 : decode prog_7_method_27_code 133 = .ok (.istore_n 3, 1) := by decide +kernel
theorem smd_M_sweep_134 : decode prog_7_method_27_code 134 = .ok (.aload_n 0, 1) := by decide +kernel
theorem smd_M_sweep_135 : decode prog_7_method_27_code 135 = .ok (.getfield 38, 3) := by decide +kernel
theorem smd_M_sweep_138 : decode prog_7_method_27_code 138 = .ok (.iload_n 2, 1) := by decide +kernel
theorem smd_M_sweep_139 : decode prog_7_method_27_code 139 = .ok (.baload, 1) := by decide +kernel
theorem smd_M_sweep_140 : decode prog_7_method_27_code 140 = .ok (.ifCond .eq 38, 3) := by decide +kernel
theorem smd_M_sweep_143 : decode prog_7_method_27_code 143 = .ok (.iload_n 3, 1) := by decide +kernel
theorem smd_M_sweep_144 : decode prog_7_method_27_code 144 = .ok (.aload_n 0, 1) := by decide +kernel
theorem smd_M_sweep_145 : decode prog_7_method_27_code 145 = .ok (.getfield 16, 3) := by decide +kernel
theorem smd_M_sweep_148 : decode prog_7_method_27_code 148 = .ok (.aload_n 0, 1) := by decide +kernel
theorem smd_M_sweep_149 : decode prog_7_method_27_code 149 = .ok (.getfield 29, 3) := by decide +kernel
theorem smd_M_sweep_152 : decode prog_7_method_27_code 152 = .ok (.iload_n 2, 1) := by decide +kernel
theorem smd_M_sweep_153 : decode prog_7_method_27_code 153 = .ok (.iaload, 1) := by decide +kernel
theorem smd_M_sweep_154 : decode prog_7_method_27_code 154 = .ok (.iaload, 1) := by decide +kernel
theorem smd_M_sweep_155 : decode prog_7_method_27_code 155 = .ok (.if_icmp .ge 23, 3) := by decide +kernel
theorem smd_M_sweep_158 : decode prog_7_method_27_code 158 = .ok (.aload_n 0, 1) := by decide +kernel
theorem smd_M_sweep_159 : decode prog_7_method_27_code 159 = .ok (.aload_n 0, 1) := by decide +kernel
theorem smd_M_sweep_160 : decode prog_7_method_27_code 160 = .ok (.getfield 32, 3) := by decide +kernel
theorem smd_M_sweep_163 : decode prog_7_method_27_code 163 = .ok (.iconst 4, 1) := by decide +kernel
theorem smd_M_sweep_164 : decode prog_7_method_27_code 164 = .ok (.iload_n 2, 1) := by decide +kernel
theorem smd_M_sweep_165 : decode prog_7_method_27_code 165 = .ok (.imul, 1) := by decide +kernel
theorem smd_M_sweep_166 : decode prog_7_method_27_code 166 = .ok (.iload_n 3, 1) := by decide +kernel
theorem smd_M_sweep_167 : decode prog_7_method_27_code 167 = .ok (.iadd, 1) := by decide +kernel
theorem smd_M_sweep_168 : decode prog_7_method_27_code 168 = .ok (.iaload, 1) := by decide +kernel
theorem smd_M_sweep_169 : decode prog_7_method_27_code 169 = .ok (.invokevirtual 113, 3) := by decide +kernel
theorem smd_M_sweep_172 : decode prog_7_method_27_code 172 = .ok (.iinc 3 1, 3) := by decide +kernel
theorem smd_M_sweep_175 : decode prog_7_method_27_code 175 = .ok (.goto (-41), 3) := by decide +kernel
theorem smd_M_sweep_178 : decode prog_7_method_27_code 178 = .ok (.iinc 2 1, 3) := by decide +kernel
theorem smd_M_sweep_181 : decode prog_7_method_27_code 181 = .ok (.goto (-55), 3) := by decide +kernel
theorem smd_M_sweep_184 : decode prog_7_method_27_code 184 = .ok (.goto (-73), 3) := by decide +kernel
theorem smd_M_sweep_187 : decode prog_7_method_27_code 187 = .ok (.iconst 0, 1) := by decide +kernel
theorem smd_M_sweep_188 : decode prog_7_method_27_code 188 = .ok (.istore_n 2, 1) := by decide +kernel
theorem smd_M_sweep_189 : decode prog_7_method_27_code 189 = .ok (.iconst 1, 1) := by decide +kernel
theorem smd_M_sweep_190 : decode prog_7_method_27_code 190 = .ok (.istore_n 3, 1) := by decide +kernel
theorem smd_M_sweep_191 : decode prog_7_method_27_code 191 = .ok (.iload_n 3, 1) := by decide +kernel
theorem smd_M_sweep_192 : decode prog_7_method_27_code 192 = .ok (.bipush 17, 2) := by decide +kernel
theorem smd_M_sweep_194 : decode prog_7_method_27_code 194 = .ok (.if_icmp .ge 37, 3) := by decide +kernel
theorem smd_M_sweep_197 : decode prog_7_method_27_code 197 = .ok (.aload_n 0, 1) := by decide +kernel
theorem smd_M_sweep_198 : decode prog_7_method_27_code 198 = .ok (.getfield 29, 3) := by decide +kernel
theorem smd_M_sweep_201 : decode prog_7_method_27_code 201 = .ok (.iload_n 3, 1) := by decide +kernel
theorem smd_M_sweep_202 : decode prog_7_method_27_code 202 = .ok (.iaload, 1) := by decide +kernel
theorem smd_M_sweep_203 : decode prog_7_method_27_code 203 = .ok (.ifCond .lt 22, 3) := by decide +kernel
theorem smd_M_sweep_206 : decode prog_7_method_27_code 206 = .ok (.aload_n 0, 1) := by decide +kernel
theorem smd_M_sweep_207 : decode prog_7_method_27_code 207 = .ok (.getfield 38, 3) := by decide +kernel
theorem smd_M_sweep_210 : decode prog_7_method_27_code 210 = .ok (.iload_n 3, 1) := by decide +kernel
theorem smd_M_sweep_211 : decode prog_7_method_27_code 211 = .ok (.baload, 1) := by decide +kernel
theorem smd_M_sweep_212 : decode prog_7_method_27_code 212 = .ok (.ifCond .ne 13, 3) := by decide +kernel
theorem smd_M_sweep_215 : decode prog_7_method_27_code 215 = .ok (.aload_n 0, 1) := by decide +kernel
theorem smd_M_sweep_216 : decode prog_7_method_27_code 216 = .ok (.getfield 29, 3) := by decide +kernel
theorem smd_M_sweep_219 : decode prog_7_method_27_code 219 = .ok (.iload_n 3, 1) := by decide +kernel
theorem smd_M_sweep_220 : decode prog_7_method_27_code 220 = .ok (.iconst (-1), 1) := by decide +kernel
theorem smd_M_sweep_221 : decode prog_7_method_27_code 221 = .ok (.iastore, 1) := by decide +kernel
theorem smd_M_sweep_222 : decode prog_7_method_27_code 222 = .ok (.iinc 2 1, 3) := by decide +kernel
theorem smd_M_sweep_225 : decode prog_7_method_27_code 225 = .ok (.iinc 3 1, 3) := by decide +kernel
theorem smd_M_sweep_228 : decode prog_7_method_27_code 228 = .ok (.goto (-37), 3) := by decide +kernel
theorem smd_M_sweep_231 : decode prog_7_method_27_code 231 = .ok (.iload_n 2, 1) := by decide +kernel
theorem smd_M_sweep_232 : decode prog_7_method_27_code 232 = .ok (.ireturn, 1) := by decide +kernel
theorem smd_M_collect_0 : decode prog_7_method_28_code 0 = .ok (.aload_n 0, 1) := by decide +kernel
theorem smd_M_collect_1 : decode prog_7_method_28_code 1 = .ok (.invokevirtual 120, 3) := by decide +kernel
theorem smd_M_collect_4 : decode prog_7_method_28_code 4 = .ok (.ireturn, 1) := by decide +kernel
theorem smd_M_free_0 : decode prog_7_method_29_code 0 = .ok (.iconst 1, 1) := by decide +kernel
theorem smd_M_free_1 : decode prog_7_method_29_code 1 = .ok (.istore_n 1, 1) := by decide +kernel
theorem smd_M_free_2 : decode prog_7_method_29_code 2 = .ok (.iload_n 1, 1) := by decide +kernel
theorem smd_M_free_3 : decode prog_7_method_29_code 3 = .ok (.bipush 17, 2) := by decide +kernel
theorem smd_M_free_5 : decode prog_7_method_29_code 5 = .ok (.if_icmp .ge 18, 3) := by decide +kernel
theorem smd_M_free_8 : decode prog_7_method_29_code 8 = .ok (.aload_n 0, 1) := by decide +kernel
theorem smd_M_free_9 : decode prog_7_method_29_code 9 = .ok (.getfield 29, 3) := by decide +kernel
theorem smd_M_free_12 : decode prog_7_method_29_code 12 = .ok (.iload_n 1, 1) := by decide +kernel
theorem smd_M_free_13 : decode prog_7_method_29_code 13 = .ok (.iaload, 1) := by decide +kernel
theorem smd_M_free_14 : decode prog_7_method_29_code 14 = .ok (.ifCond .lt 9, 3) := by decide +kernel
theorem smd_M_free_17 : decode prog_7_method_29_code 17 = .ok (.iinc 1 1, 3) := by decide +kernel
theorem smd_M_free_20 : decode prog_7_method_29_code 20 = .ok (.goto (-18), 3) := by decide +kernel
theorem smd_M_free_23 : decode prog_7_method_29_code 23 = .ok (.iload_n 1, 1) := by decide +kernel
theorem smd_M_free_24 : decode prog_7_method_29_code 24 = .ok (.ireturn, 1) := by decide +kernel
theorem smd_M_make_0 : decode prog_7_method_30_code 0 = .ok (.aload_n 0, 1) := by decide +kernel
theorem smd_M_make_1 : decode prog_7_method_30_code 1 = .ok (.invokevirtual 123, 3) := by decide +kernel
theorem smd_M_make_4 : decode prog_7_method_30_code 4 = .ok (.bipush 16, 2) := by decide +kernel
theorem smd_M_make_6 : decode prog_7_method_30_code 6 = .ok (.if_icmp .le 8, 3) := by decide +kernel
theorem smd_M_make_9 : decode prog_7_method_30_code 9 = .ok (.aload_n 0, 1) := by decide +kernel
theorem smd_M_make_10 : decode prog_7_method_30_code 10 = .ok (.invokevirtual 120, 3) := by decide +kernel
theorem smd_M_make_13 : decode prog_7_method_30_code 13 = .ok (.pop, 1) := by decide +kernel
theorem smd_M_make_14 : decode prog_7_method_30_code 14 = .ok (.aload_n 0, 1) := by decide +kernel
theorem smd_M_make_15 : decode prog_7_method_30_code 15 = .ok (.invokevirtual 123, 3) := by decide +kernel
theorem smd_M_make_18 : decode prog_7_method_30_code 18 = .ok (.istore_n 2, 1) := by decide +kernel
theorem smd_M_make_19 : decode prog_7_method_30_code 19 = .ok (.iload_n 2, 1) := by decide +kernel
theorem smd_M_make_20 : decode prog_7_method_30_code 20 = .ok (.bipush 16, 2) := by decide +kernel
theorem smd_M_make_22 : decode prog_7_method_30_code 22 = .ok (.if_icmp .le 5, 3) := by decide +kernel
theorem smd_M_make_25 : decode prog_7_method_30_code 25 = .ok (.iconst 0, 1) := by decide +kernel
theorem smd_M_make_26 : decode prog_7_method_30_code 26 = .ok (.ireturn, 1) := by decide +kernel
theorem smd_M_make_27 : decode prog_7_method_30_code 27 = .ok (.aload_n 0, 1) := by decide +kernel
theorem smd_M_make_28 : decode prog_7_method_30_code 28 = .ok (.getfield 29, 3) := by decide +kernel
theorem smd_M_make_31 : decode prog_7_method_30_code 31 = .ok (.iload_n 2, 1) := by decide +kernel
theorem smd_M_make_32 : decode prog_7_method_30_code 32 = .ok (.iload_n 1, 1) := by decide +kernel
theorem smd_M_make_33 : decode prog_7_method_30_code 33 = .ok (.iastore, 1) := by decide +kernel
theorem smd_M_make_34 : decode prog_7_method_30_code 34 = .ok (.iconst 0, 1) := by decide +kernel
theorem smd_M_make_35 : decode prog_7_method_30_code 35 = .ok (.istore_n 3, 1) := by decide +kernel
theorem smd_M_make_36 : decode prog_7_method_30_code 36 = .ok (.iload_n 3, 1) := by decide +kernel
theorem smd_M_make_37 : decode prog_7_method_30_code 37 = .ok (.iconst 4, 1) := by decide +kernel
theorem smd_M_make_38 : decode prog_7_method_30_code 38 = .ok (.if_icmp .ge 20, 3) := by decide +kernel
theorem smd_M_make_41 : decode prog_7_method_30_code 41 = .ok (.aload_n 0, 1) := by decide +kernel
theorem smd_M_make_42 : decode prog_7_method_30_code 42 = .ok (.getfield 32, 3) := by decide +kernel
theorem smd_M_make_45 : decode prog_7_method_30_code 45 = .ok (.iconst 4, 1) := by decide +kernel
theorem smd_M_make_46 : decode prog_7_method_30_code 46 = .ok (.iload_n 2, 1) := by decide +kernel
theorem smd_M_make_47 : decode prog_7_method_30_code 47 = .ok (.imul, 1) := by decide +kernel
theorem smd_M_make_48 : decode prog_7_method_30_code 48 = .ok (.iload_n 3, 1) := by decide +kernel
theorem smd_M_make_49 : decode prog_7_method_30_code 49 = .ok (.iadd, 1) := by decide +kernel
theorem smd_M_make_50 : decode prog_7_method_30_code 50 = .ok (.iconst 0, 1) := by decide +kernel
theorem smd_M_make_51 : decode prog_7_method_30_code 51 = .ok (.iastore, 1) := by decide +kernel
theorem smd_M_make_52 : decode prog_7_method_30_code 52 = .ok (.iinc 3 1, 3) := by decide +kernel
theorem smd_M_make_55 : decode prog_7_method_30_code 55 = .ok (.goto (-19), 3) := by decide +kernel
theorem smd_M_make_58 : decode prog_7_method_30_code 58 = .ok (.iload_n 2, 1) := by decide +kernel
theorem smd_M_make_59 : decode prog_7_method_30_code 59 = .ok (.ireturn, 1) := by decide +kernel
theorem smd_M_typeOf_0 : decode prog_7_method_31_code 0 = .ok (.aload_n 0, 1) := by decide +kernel
theorem smd_M_typeOf_1 : decode prog_7_method_31_code 1 = .ok (.iload_n 1, 1) := by decide +kernel
theorem smd_M_typeOf_2 : decode prog_7_method_31_code 2 = .ok (.invokevirtual 110, 3) := by decide +kernel
theorem smd_M_typeOf_5 : decode prog_7_method_31_code 5 = .ok (.ifCond .eq 12, 3) := by decide +kernel
theorem smd_M_typeOf_8 : decode prog_7_method_31_code 8 = .ok (.aload_n 0, 1) := by decide +kernel
theorem smd_M_typeOf_9 : decode prog_7_method_31_code 9 = .ok (.getfield 29, 3) := by decide +kernel
theorem smd_M_typeOf_12 : decode prog_7_method_31_code 12 = .ok (.iload_n 1, 1) := by decide +kernel
theorem smd_M_typeOf_13 : decode prog_7_method_31_code 13 = .ok (.iaload, 1) := by decide +kernel
theorem smd_M_typeOf_14 : decode prog_7_method_31_code 14 = .ok (.goto 4, 3) := by decide +kernel
theorem smd_M_typeOf_17 : decode prog_7_method_31_code 17 = .ok (.iconst (-1), 1) := by decide +kernel
theorem smd_M_typeOf_18 : decode prog_7_method_31_code 18 = .ok (.ireturn, 1) := by decide +kernel
theorem smd_M_field_0 : decode prog_7_method_32_code 0 = .ok (.aload_n 0, 1) := by decide +kernel
theorem smd_M_field_1 : decode prog_7_method_32_code 1 = .ok (.iload_n 1, 1) := by decide +kernel
theorem smd_M_field_2 : decode prog_7_method_32_code 2 = .ok (.invokevirtual 110, 3) := by decide +kernel
theorem smd_M_field_5 : decode prog_7_method_32_code 5 = .ok (.ifCond .eq 35, 3) := by decide +kernel
theorem smd_M_field_8 : decode prog_7_method_32_code 8 = .ok (.iload_n 2, 1) := by decide +kernel
theorem smd_M_field_9 : decode prog_7_method_32_code 9 = .ok (.ifCond .lt 31, 3) := by decide +kernel
theorem smd_M_field_12 : decode prog_7_method_32_code 12 = .ok (.iload_n 2, 1) := by decide +kernel
theorem smd_M_field_13 : decode prog_7_method_32_code 13 = .ok (.aload_n 0, 1) := by decide +kernel
theorem smd_M_field_14 : decode prog_7_method_32_code 14 = .ok (.getfield 16, 3) := by decide +kernel
theorem smd_M_field_17 : decode prog_7_method_32_code 17 = .ok (.aload_n 0, 1) := by decide +kernel
theorem smd_M_field_18 : decode prog_7_method_32_code 18 = .ok (.getfield 29, 3) := by decide +kernel
theorem smd_M_field_21 : decode prog_7_method_32_code 21 = .ok (.iload_n 1, 1) := by decide +kernel
theorem smd_M_field_22 : decode prog_7_method_32_code 22 = .ok (.iaload, 1) := by decide +kernel
theorem smd_M_field_23 : decode prog_7_method_32_code 23 = .ok (.iaload, 1) := by decide +kernel
theorem smd_M_field_24 : decode prog_7_method_32_code 24 = .ok (.if_icmp .ge 16, 3) := by decide +kernel
theorem smd_M_field_27 : decode prog_7_method_32_code 27 = .ok (.aload_n 0, 1) := by decide +kernel
theorem smd_M_field_28 : decode prog_7_method_32_code 28 = .ok (.getfield 32, 3) := by decide +kernel
theorem smd_M_field_31 : decode prog_7_method_32_code 31 = .ok (.iconst 4, 1) := by decide +kernel
theorem smd_M_field_32 : decode prog_7_method_32_code 32 = .ok (.iload_n 1, 1) := by decide +kernel
theorem smd_M_field_33 : decode prog_7_method_32_code 33 = .ok (.imul, 1) := by decide +kernel
theorem smd_M_field_34 : decode prog_7_method_32_code 34 = .ok (.iload_n 2, 1) := by decide +kernel
theorem smd_M_field_35 : decode prog_7_method_32_code 35 = .ok (.iadd, 1) := by decide +kernel
theorem smd_M_field_36 : decode prog_7_method_32_code 36 = .ok (.iaload, 1) := by decide +kernel
theorem smd_M_field_37 : decode prog_7_method_32_code 37 = .ok (.goto 4, 3) := by decide +kernel
theorem smd_M_field_40 : decode prog_7_method_32_code 40 = .ok (.iconst 0, 1) := by decide +kernel
theorem smd_M_field_41 : decode prog_7_method_32_code 41 = .ok (.ireturn, 1) := by decide +kernel
theorem smd_M_heap_0 : decode prog_7_method_33_code 0 = .ok (.iconst 0, 1) := by decide +kernel
theorem smd_M_heap_1 : decode prog_7_method_33_code 1 = .ok (.istore_n 1, 1) := by decide +kernel
theorem smd_M_heap_2 : decode prog_7_method_33_code 2 = .ok (.iconst 1, 1) := by decide +kernel
theorem smd_M_heap_3 : decode prog_7_method_33_code 3 = .ok (.istore_n 2, 1) := by decide +kernel
theorem smd_M_heap_4 : decode prog_7_method_33_code 4 = .ok (.iload_n 2, 1) := by decide +kernel
theorem smd_M_heap_5 : decode prog_7_method_33_code 5 = .ok (.bipush 17, 2) := by decide +kernel
theorem smd_M_heap_7 : decode prog_7_method_33_code 7 = .ok (.if_icmp .ge 26, 3) := by decide +kernel
theorem smd_M_heap_10 : decode prog_7_method_33_code 10 = .ok (.iload_n 1, 1) := by decide +kernel
theorem smd_M_heap_11 : decode prog_7_method_33_code 11 = .ok (.aload_n 0, 1) := by decide +kernel
theorem smd_M_heap_12 : decode prog_7_method_33_code 12 = .ok (.getfield 29, 3) := by decide +kernel
theorem smd_M_heap_15 : decode prog_7_method_33_code 15 = .ok (.iload_n 2, 1) := by decide +kernel
theorem smd_M_heap_16 : decode prog_7_method_33_code 16 = .ok (.iaload, 1) := by decide +kernel
theorem smd_M_heap_17 : decode prog_7_method_33_code 17 = .ok (.ifCond .lt 7, 3) := by decide +kernel
theorem smd_M_heap_20 : decode prog_7_method_33_code 20 = .ok (.iconst 1, 1) := by decide +kernel
theorem smd_M_heap_21 : decode prog_7_method_33_code 21 = .ok (.goto 4, 3) := by decide +kernel
theorem smd_M_heap_24 : decode prog_7_method_33_code 24 = .ok (.iconst 0, 1) := by decide +kernel
theorem smd_M_heap_25 : decode prog_7_method_33_code 25 = .ok (.iadd, 1) := by decide +kernel
theorem smd_M_heap_26 : decode prog_7_method_33_code 26 = .ok (.istore_n 1, 1) := by decide +kernel
theorem smd_M_heap_27 : decode prog_7_method_33_code 27 = .ok (.iinc 2 1, 3) := by decide +kernel
theorem smd_M_heap_30 : decode prog_7_method_33_code 30 = .ok (.goto (-26), 3) := by decide +kernel
theorem smd_M_heap_33 : decode prog_7_method_33_code 33 = .ok (.iload_n 1, 1) := by decide +kernel
theorem smd_M_heap_34 : decode prog_7_method_33_code 34 = .ok (.ireturn, 1) := by decide +kernel
theorem smd_M_isMadeOver_0 : decode prog_7_method_34_code 0 = .ok (.aload_n 0, 1) := by decide +kernel
theorem smd_M_isMadeOver_1 : decode prog_7_method_34_code 1 = .ok (.getfield 29, 3) := by decide +kernel
theorem smd_M_isMadeOver_4 : decode prog_7_method_34_code 4 = .ok (.iload_n 1, 1) := by decide +kernel
theorem smd_M_isMadeOver_5 : decode prog_7_method_34_code 5 = .ok (.iaload, 1) := by decide +kernel
theorem smd_M_isMadeOver_6 : decode prog_7_method_34_code 6 = .ok (.istore_n 2, 1) := by decide +kernel
theorem smd_M_isMadeOver_7 : decode prog_7_method_34_code 7 = .ok (.iconst 0, 1) := by decide +kernel
theorem smd_M_isMadeOver_8 : decode prog_7_method_34_code 8 = .ok (.istore_n 3, 1) := by decide +kernel
theorem smd_M_isMadeOver_9 : decode prog_7_method_34_code 9 = .ok (.iload_n 3, 1) := by decide +kernel
theorem smd_M_isMadeOver_10 : decode prog_7_method_34_code 10 = .ok (.aload_n 0, 1) := by decide +kernel
theorem smd_M_isMadeOver_11 : decode prog_7_method_34_code 11 = .ok (.getfield 16, 3) := by decide +kernel
theorem smd_M_isMadeOver_14 : decode prog_7_method_34_code 14 = .ok (.iconst 3, 1) := by decide +kernel
theorem smd_M_isMadeOver_15 : decode prog_7_method_34_code 15 = .ok (.iload_n 2, 1) := by decide +kernel
theorem smd_M_isMadeOver_16 : decode prog_7_method_34_code 16 = .ok (.iadd, 1) := by decide +kernel
theorem smd_M_isMadeOver_17 : decode prog_7_method_34_code 17 = .ok (.iaload, 1) := by decide +kernel
theorem smd_M_isMadeOver_18 : decode prog_7_method_34_code 18 = .ok (.if_icmp .ge 117, 3) := by decide +kernel
theorem smd_M_isMadeOver_21 : decode prog_7_method_34_code 21 = .ok (.bipush 12, 2) := by decide +kernel
theorem smd_M_isMadeOver_23 : decode prog_7_method_34_code 23 = .ok (.iload_n 2, 1) := by decide +kernel
theorem smd_M_isMadeOver_24 : decode prog_7_method_34_code 24 = .ok (.imul, 1) := by decide +kernel
theorem smd_M_isMadeOver_25 : decode prog_7_method_34_code 25 = .ok (.iconst 3, 1) := by decide +kernel
theorem smd_M_isMadeOver_26 : decode prog_7_method_34_code 26 = .ok (.iload_n 3, 1) := by decide +kernel
theorem smd_M_isMadeOver_27 : decode prog_7_method_34_code 27 = .ok (.imul, 1) := by decide +kernel
theorem smd_M_isMadeOver_28 : decode prog_7_method_34_code 28 = .ok (.iadd, 1) := by decide +kernel
theorem smd_M_isMadeOver_29 : decode prog_7_method_34_code 29 = .ok (.istore 4, 2) := by decide +kernel
theorem smd_M_isMadeOver_31 : decode prog_7_method_34_code 31 = .ok (.aload_n 0, 1) := by decide +kernel
theorem smd_M_isMadeOver_32 : decode prog_7_method_34_code 32 = .ok (.getfield 35, 3) := by decide +kernel
theorem smd_M_isMadeOver_35 : decode prog_7_method_34_code 35 = .ok (.iconst 4, 1) := by decide +kernel
theorem smd_M_isMadeOver_36 : decode prog_7_method_34_code 36 = .ok (.iload_n 1, 1) := by decide +kernel
theorem smd_M_isMadeOver_37 : decode prog_7_method_34_code 37 = .ok (.imul, 1) := by decide +kernel
theorem smd_M_isMadeOver_38 : decode prog_7_method_34_code 38 = .ok (.aload_n 0, 1) := by decide +kernel
theorem smd_M_isMadeOver_39 : decode prog_7_method_34_code 39 = .ok (.getfield 19, 3) := by decide +kernel
theorem smd_M_isMadeOver_42 : decode prog_7_method_34_code 42 = .ok (.iload 4, 2) := by decide +kernel
theorem smd_M_isMadeOver_44 : decode prog_7_method_34_code 44 = .ok (.iconst 1, 1) := by decide +kernel
theorem smd_M_isMadeOver_45 : decode prog_7_method_34_code 45 = .ok (.iadd, 1) := by decide +kernel
theorem smd_M_isMadeOver_46 : decode prog_7_method_34_code 46 = .ok (.iaload, 1) := by decide +kernel
theorem smd_M_isMadeOver_47 : decode prog_7_method_34_code 47 = .ok (.iadd, 1) := by decide +kernel
theorem smd_M_isMadeOver_48 : decode prog_7_method_34_code 48 = .ok (.iaload, 1) := by decide +kernel
theorem smd_M_isMadeOver_49 : decode prog_7_method_34_code 49 = .ok (.istore 5, 2) := by decide +kernel
theorem smd_M_isMadeOver_51 : decode prog_7_method_34_code 51 = .ok (.aload_n 0, 1) := by decide +kernel
theorem smd_M_isMadeOver_52 : decode prog_7_method_34_code 52 = .ok (.getfield 19, 3) := by decide +kernel
theorem smd_M_isMadeOver_55 : decode prog_7_method_34_code 55 = .ok (.iload 4, 2) := by decide +kernel
theorem smd_M_isMadeOver_57 : decode prog_7_method_34_code 57 = .ok (.iconst 2, 1) := by decide +kernel
theorem smd_M_isMadeOver_58 : decode prog_7_method_34_code 58 = .ok (.iadd, 1) := by decide +kernel
theorem smd_M_isMadeOver_59 : decode prog_7_method_34_code 59 = .ok (.iaload, 1) := by decide +kernel
theorem smd_M_isMadeOver_60 : decode prog_7_method_34_code 60 = .ok (.istore 6, 2) := by decide +kernel
theorem smd_M_isMadeOver_62 : decode prog_7_method_34_code 62 = .ok (.aload_n 0, 1) := by decide +kernel
theorem smd_M_isMadeOver_63 : decode prog_7_method_34_code 63 = .ok (.getfield 19, 3) := by decide +kernel
theorem smd_M_isMadeOver_66 : decode prog_7_method_34_code 66 = .ok (.iload 4, 2) := by decide +kernel
theorem smd_M_isMadeOver_68 : decode prog_7_method_34_code 68 = .ok (.iaload, 1) := by decide +kernel
theorem smd_M_isMadeOver_69 : decode prog_7_method_34_code 69 = .ok (.iconst 2, 1) := by decide +kernel
theorem smd_M_isMadeOver_70 : decode prog_7_method_34_code 70 = .ok (.if_icmp .ne 10, 3) := by decide +kernel
theorem smd_M_isMadeOver_73 : decode prog_7_method_34_code 73 = .ok (.iload 5, 2) := by decide +kernel
theorem smd_M_isMadeOver_75 : decode prog_7_method_34_code 75 = .ok (.ifCond .ne 5, 3) := by decide +kernel
theorem smd_M_isMadeOver_78 : decode prog_7_method_34_code 78 = .ok (.iconst 0, 1) := by decide +kernel
theorem smd_M_isMadeOver_79 : decode prog_7_method_34_code 79 = .ok (.ireturn, 1) := by decide +kernel
theorem smd_M_isMadeOver_80 : decode prog_7_method_34_code 80 = .ok (.aload_n 0, 1) := by decide +kernel
theorem smd_M_isMadeOver_81 : decode prog_7_method_34_code 81 = .ok (.getfield 32, 3) := by decide +kernel
theorem smd_M_isMadeOver_84 : decode prog_7_method_34_code 84 = .ok (.iconst 4, 1) := by decide +kernel
theorem smd_M_isMadeOver_85 : decode prog_7_method_34_code 85 = .ok (.iload_n 1, 1) := by decide +kernel
theorem smd_M_isMadeOver_86 : decode prog_7_method_34_code 86 = .ok (.imul, 1) := by decide +kernel
theorem smd_M_isMadeOver_87 : decode prog_7_method_34_code 87 = .ok (.iload_n 3, 1) := by decide +kernel
theorem smd_M_isMadeOver_88 : decode prog_7_method_34_code 88 = .ok (.iadd, 1) := by decide +kernel
theorem smd_M_isMadeOver_89 : decode prog_7_method_34_code 89 = .ok (.aload_n 0, 1) := by decide +kernel
theorem smd_M_isMadeOver_90 : decode prog_7_method_34_code 90 = .ok (.getfield 19, 3) := by decide +kernel
theorem smd_M_isMadeOver_93 : decode prog_7_method_34_code 93 = .ok (.iload 4, 2) := by decide +kernel
theorem smd_M_isMadeOver_95 : decode prog_7_method_34_code 95 = .ok (.iaload, 1) := by decide +kernel
theorem smd_M_isMadeOver_96 : decode prog_7_method_34_code 96 = .ok (.ifCond .ne 8, 3) := by decide +kernel
theorem smd_M_isMadeOver_99 : decode prog_7_method_34_code 99 = .ok (.iload 6, 2) := by decide +kernel
theorem smd_M_isMadeOver_101 : decode prog_7_method_34_code 101 = .ok (.goto 27, 3) := by decide +kernel
theorem smd_M_isMadeOver_104 : decode prog_7_method_34_code 104 = .ok (.aload_n 0, 1) := by decide +kernel
theorem smd_M_isMadeOver_105 : decode prog_7_method_34_code 105 = .ok (.getfield 19, 3) := by decide +kernel
theorem smd_M_isMadeOver_108 : decode prog_7_method_34_code 108 = .ok (.iload 4, 2) := by decide +kernel
theorem smd_M_isMadeOver_110 : decode prog_7_method_34_code 110 = .ok (.iaload, 1) := by decide +kernel
theorem smd_M_isMadeOver_111 : decode prog_7_method_34_code 111 = .ok (.iconst 1, 1) := by decide +kernel
theorem smd_M_isMadeOver_112 : decode prog_7_method_34_code 112 = .ok (.if_icmp .ne 11, 3) := by decide +kernel
theorem smd_M_isMadeOver_115 : decode prog_7_method_34_code 115 = .ok (.iload 5, 2) := by decide +kernel
theorem smd_M_isMadeOver_117 : decode prog_7_method_34_code 117 = .ok (.iload 6, 2) := by decide +kernel
theorem smd_M_isMadeOver_119 : decode prog_7_method_34_code 119 = .ok (.iadd, 1) := by decide +kernel
theorem smd_M_isMadeOver_120 : decode prog_7_method_34_code 120 = .ok (.goto 8, 3) := by decide +kernel
theorem smd_M_isMadeOver_123 : decode prog_7_method_34_code 123 = .ok (.iload 6, 2) := by decide +kernel
theorem smd_M_isMadeOver_125 : decode prog_7_method_34_code 125 = .ok (.iload 5, 2) := by decide +kernel
theorem smd_M_isMadeOver_127 : decode prog_7_method_34_code 127 = .ok (.idiv, 1) := by decide +kernel
theorem smd_M_isMadeOver_128 : decode prog_7_method_34_code 128 = .ok (.iastore, 1) := by decide +kernel
theorem smd_M_isMadeOver_129 : decode prog_7_method_34_code 129 = .ok (.iinc 3 1, 3) := by decide +kernel
theorem smd_M_isMadeOver_132 : decode prog_7_method_34_code 132 = .ok (.goto (-123), 3) := by decide +kernel
theorem smd_M_isMadeOver_135 : decode prog_7_method_34_code 135 = .ok (.iconst 1, 1) := by decide +kernel
theorem smd_M_isMadeOver_136 : decode prog_7_method_34_code 136 = .ok (.ireturn, 1) := by decide +kernel
theorem smd_M_areMadeOver_0 : decode prog_7_method_35_code 0 = .ok (.iconst 0, 1) := by decide +kernel
theorem smd_M_areMadeOver_1 : decode prog_7_method_35_code 1 = .ok (.istore_n 2, 1) := by decide +kernel
theorem smd_M_areMadeOver_2 : decode prog_7_method_35_code 2 = .ok (.iload_n 2, 1) := by decide +kernel
theorem smd_M_areMadeOver_3 : decode prog_7_method_35_code 3 = .ok (.bipush 68, 2) := by decide +kernel
theorem smd_M_areMadeOver_5 : decode prog_7_method_35_code 5 = .ok (.if_icmp .ge 21, 3) := by decide +kernel
theorem smd_M_areMadeOver_8 : decode prog_7_method_35_code 8 = .ok (.aload_n 0, 1) := by decide +kernel
theorem smd_M_areMadeOver_9 : decode prog_7_method_35_code 9 = .ok (.getfield 35, 3) := by decide +kernel
theorem smd_M_areMadeOver_12 : decode prog_7_method_35_code 12 = .ok (.iload_n 2, 1) := by decide +kernel
theorem smd_M_areMadeOver_13 : decode prog_7_method_35_code 13 = .ok (.aload_n 0, 1) := by decide +kernel
theorem smd_M_areMadeOver_14 : decode prog_7_method_35_code 14 = .ok (.getfield 32, 3) := by decide +kernel
theorem smd_M_areMadeOver_17 : decode prog_7_method_35_code 17 = .ok (.iload_n 2, 1) := by decide +kernel
theorem smd_M_areMadeOver_18 : decode prog_7_method_35_code 18 = .ok (.iaload, 1) := by decide +kernel
theorem smd_M_areMadeOver_19 : decode prog_7_method_35_code 19 = .ok (.iastore, 1) := by decide +kernel
theorem smd_M_areMadeOver_20 : decode prog_7_method_35_code 20 = .ok (.iinc 2 1, 3) := by decide +kernel
theorem smd_M_areMadeOver_23 : decode prog_7_method_35_code 23 = .ok (.goto (-21), 3) := by decide +kernel
theorem smd_M_areMadeOver_26 : decode prog_7_method_35_code 26 = .ok (.iload_n 1, 1) := by decide +kernel
theorem smd_M_areMadeOver_27 : decode prog_7_method_35_code 27 = .ok (.istore_n 2, 1) := by decide +kernel
theorem smd_M_areMadeOver_28 : decode prog_7_method_35_code 28 = .ok (.iconst 1, 1) := by decide +kernel
theorem smd_M_areMadeOver_29 : decode prog_7_method_35_code 29 = .ok (.istore_n 3, 1) := by decide +kernel
theorem smd_M_areMadeOver_30 : decode prog_7_method_35_code 30 = .ok (.iconst 1, 1) := by decide +kernel
theorem smd_M_areMadeOver_31 : decode prog_7_method_35_code 31 = .ok (.istore 4, 2) := by decide +kernel
theorem smd_M_areMadeOver_33 : decode prog_7_method_35_code 33 = .ok (.iload 4, 2) := by decide +kernel
theorem smd_M_areMadeOver_35 : decode prog_7_method_35_code 35 = .ok (.bipush 17, 2) := by decide +kernel
theorem smd_M_areMadeOver_37 : decode prog_7_method_35_code 37 = .ok (.if_icmp .ge 74, 3) := by decide +kernel
theorem smd_M_areMadeOver_40 : decode prog_7_method_35_code 40 = .ok (.iload_n 3, 1) := by decide +kernel
theorem smd_M_areMadeOver_41 : decode prog_7_method_35_code 41 = .ok (.ifCond .eq 70, 3) := by decide +kernel
theorem smd_M_areMadeOver_44 : decode prog_7_method_35_code 44 = .ok (.aload_n 0, 1) := by decide +kernel
theorem smd_M_areMadeOver_45 : decode prog_7_method_35_code 45 = .ok (.getfield 29, 3) := by decide +kernel
theorem smd_M_areMadeOver_48 : decode prog_7_method_35_code 48 = .ok (.iload 4, 2) := by decide +kernel
theorem smd_M_areMadeOver_50 : decode prog_7_method_35_code 50 = .ok (.iaload, 1) := by decide +kernel
theorem smd_M_areMadeOver_51 : decode prog_7_method_35_code 51 = .ok (.ifCond .lt 54, 3) := by decide +kernel
theorem smd_M_areMadeOver_54 : decode prog_7_method_35_code 54 = .ok (.aload_n 0, 1) := by decide +kernel
theorem smd_M_areMadeOver_55 : decode prog_7_method_35_code 55 = .ok (.getfield 22, 3) := by decide +kernel
theorem smd_M_areMadeOver_58 : decode prog_7_method_35_code 58 = .ok (.aload_n 0, 1) := by decide +kernel
theorem smd_M_areMadeOver_59 : decode prog_7_method_35_code 59 = .ok (.getfield 29, 3) := by decide +kernel
theorem smd_M_areMadeOver_62 : decode prog_7_method_35_code 62 = .ok (.iload 4, 2) := by decide +kernel
theorem smd_M_areMadeOver_64 : decode prog_7_method_35_code 64 = .ok (.iaload, 1) := by decide +kernel
theorem smd_M_areMadeOver_65 : decode prog_7_method_35_code 65 = .ok (.baload, 1) := by decide +kernel
theorem smd_M_areMadeOver_66 : decode prog_7_method_35_code 66 = .ok (.ifCond .eq 39, 3) := by decide +kernel
theorem smd_M_areMadeOver_69 : decode prog_7_method_35_code 69 = .ok (.iload_n 2, 1) := by decide +kernel
theorem smd_M_areMadeOver_70 : decode prog_7_method_35_code 70 = .ok (.aload_n 0, 1) := by decide +kernel
theorem smd_M_areMadeOver_71 : decode prog_7_method_35_code 71 = .ok (.getfield 16, 3) := by decide +kernel
theorem smd_M_areMadeOver_74 : decode prog_7_method_35_code 74 = .ok (.iconst 3, 1) := by decide +kernel
theorem smd_M_areMadeOver_75 : decode prog_7_method_35_code 75 = .ok (.aload_n 0, 1) := by decide +kernel
theorem smd_M_areMadeOver_76 : decode prog_7_method_35_code 76 = .ok (.getfield 29, 3) := by decide +kernel
theorem smd_M_areMadeOver_79 : decode prog_7_method_35_code 79 = .ok (.iload 4, 2) := by decide +kernel
theorem smd_M_areMadeOver_81 : decode prog_7_method_35_code 81 = .ok (.iaload, 1) := by decide +kernel
theorem smd_M_areMadeOver_82 : decode prog_7_method_35_code 82 = .ok (.iadd, 1) := by decide +kernel
theorem smd_M_areMadeOver_83 : decode prog_7_method_35_code 83 = .ok (.iaload, 1) := by decide +kernel
theorem smd_M_areMadeOver_84 : decode prog_7_method_35_code 84 = .ok (.isub, 1) := by decide +kernel
theorem smd_M_areMadeOver_85 : decode prog_7_method_35_code 85 = .ok (.istore_n 2, 1) := by decide +kernel
theorem smd_M_areMadeOver_86 : decode prog_7_method_35_code 86 = .ok (.iload_n 2, 1) := by decide +kernel
theorem smd_M_areMadeOver_87 : decode prog_7_method_35_code 87 = .ok (.ifCond .lt 16, 3) := by decide +kernel
theorem smd_M_areMadeOver_90 : decode prog_7_method_35_code 90 = .ok (.aload_n 0, 1) := by decide +kernel
theorem smd_M_areMadeOver_91 : decode prog_7_method_35_code 91 = .ok (.iload 4, 2) := by decide +kernel
theorem smd_M_areMadeOver_93 : decode prog_7_method_35_code 93 = .ok (.invokevirtual 126, 3) := by decide +kernel
theorem smd_M_areMadeOver_96 : decode prog_7_method_35_code 96 = .ok (.ifCond .eq 7, 3) := by decide +kernel
theorem smd_M_areMadeOver_99 : decode prog_7_method_35_code 99 = .ok (.iconst 1, 1) := by decide +kernel
theorem smd_M_areMadeOver_100 : decode prog_7_method_35_code 100 = .ok (.goto 4, 3) := by decide +kernel
theorem smd_M_areMadeOver_103 : decode prog_7_method_35_code 103 = .ok (.iconst 0, 1) := by decide +kernel
theorem smd_M_areMadeOver_104 : decode prog_7_method_35_code 104 = .ok (.istore_n 3, 1) := by decide +kernel
theorem smd_M_areMadeOver_105 : decode prog_7_method_35_code 105 = .ok (.iinc 4 1, 3) := by decide +kernel
theorem smd_M_areMadeOver_108 : decode prog_7_method_35_code 108 = .ok (.goto (-75), 3) := by decide +kernel
theorem smd_M_areMadeOver_111 : decode prog_7_method_35_code 111 = .ok (.iconst 0, 1) := by decide +kernel
theorem smd_M_areMadeOver_112 : decode prog_7_method_35_code 112 = .ok (.istore 4, 2) := by decide +kernel
theorem smd_M_areMadeOver_114 : decode prog_7_method_35_code 114 = .ok (.iload 4, 2) := by decide +kernel
theorem smd_M_areMadeOver_116 : decode prog_7_method_35_code 116 = .ok (.bipush 68, 2) := by decide +kernel
theorem smd_M_areMadeOver_118 : decode prog_7_method_35_code 118 = .ok (.if_icmp .ge 27, 3) := by decide +kernel
theorem smd_M_areMadeOver_121 : decode prog_7_method_35_code 121 = .ok (.iload_n 3, 1) := by decide +kernel
theorem smd_M_areMadeOver_122 : decode prog_7_method_35_code 122 = .ok (.ifCond .ne 23, 3) := by decide +kernel
theorem smd_M_areMadeOver_125 : decode prog_7_method_35_code 125 = .ok (.aload_n 0, 1) := by decide +kernel
theorem smd_M_areMadeOver_126 : decode prog_7_method_35_code 126 = .ok (.getfield 32, 3) := by decide +kernel
theorem smd_M_areMadeOver_129 : decode prog_7_method_35_code 129 = .ok (.iload 4, 2) := by decide +kernel
theorem smd_M_areMadeOver_131 : decode prog_7_method_35_code 131 = .ok (.aload_n 0, 1) := by decide +kernel
theorem smd_M_areMadeOver_132 : decode prog_7_method_35_code 132 = .ok (.getfield 35, 3) := by decide +kernel
theorem smd_M_areMadeOver_135 : decode prog_7_method_35_code 135 = .ok (.iload 4, 2) := by decide +kernel
theorem smd_M_areMadeOver_137 : decode prog_7_method_35_code 137 = .ok (.iaload, 1) := by decide +kernel
theorem smd_M_areMadeOver_138 : decode prog_7_method_35_code 138 = .ok (.iastore, 1) := by decide +kernel
theorem smd_M_areMadeOver_139 : decode prog_7_method_35_code 139 = .ok (.iinc 4 1, 3) := by decide +kernel
theorem smd_M_areMadeOver_142 : decode prog_7_method_35_code 142 = .ok (.goto (-28), 3) := by decide +kernel
theorem smd_M_areMadeOver_145 : decode prog_7_method_35_code 145 = .ok (.iload_n 3, 1) := by decide +kernel
theorem smd_M_areMadeOver_146 : decode prog_7_method_35_code 146 = .ok (.ireturn, 1) := by decide +kernel
end
section
theorem smd_M_moveFrames_0 : decode prog_7_method_36_code 0 = .ok (.iconst 1, 1) := by decide +kernel
theorem smd_M_moveFrames_1 : decode prog_7_method_36_code 1 = .ok (.istore_n 1, 1) := by decide +kernel
theorem smd_M_moveFrames_2 : decode prog_7_method_36_code 2 = .ok (.iload_n 1, 1) := by decide +kernel
theorem smd_M_moveFrames_3 : decode prog_7_method_36_code 3 = .ok (.aload_n 0, 1) := by decide +kernel
theorem smd_M_moveFrames_4 : decode prog_7_method_36_code 4 = .ok (.getfield 103, 3) := by decide +kernel
theorem smd_M_moveFrames_7 : decode prog_7_method_36_code 7 = .ok (.if_icmp .gt 87, 3) := by decide +kernel
theorem smd_M_moveFrames_10 : decode prog_7_method_36_code 10 = .ok (.iconst 0, 1) := by decide +kernel
theorem smd_M_moveFrames_11 : decode prog_7_method_36_code 11 = .ok (.istore_n 2, 1) := by decide +kernel
theorem smd_M_moveFrames_12 : decode prog_7_method_36_code 12 = .ok (.iload_n 2, 1) := by decide +kernel
theorem smd_M_moveFrames_13 : decode prog_7_method_36_code 13 = .ok (.aload_n 0, 1) := by decide +kernel
theorem smd_M_moveFrames_14 : decode prog_7_method_36_code 14 = .ok (.getfield 47, 3) := by decide +kernel
theorem smd_M_moveFrames_17 : decode prog_7_method_36_code 17 = .ok (.iload_n 1, 1) := by decide +kernel
theorem smd_M_moveFrames_18 : decode prog_7_method_36_code 18 = .ok (.iaload, 1) := by decide +kernel
theorem smd_M_moveFrames_19 : decode prog_7_method_36_code 19 = .ok (.if_icmp .ge 69, 3) := by decide +kernel
theorem smd_M_moveFrames_22 : decode prog_7_method_36_code 22 = .ok (.iload_n 1, 1) := by decide +kernel
theorem smd_M_moveFrames_23 : decode prog_7_method_36_code 23 = .ok (.iload_n 2, 1) := by decide +kernel
theorem smd_M_moveFrames_24 : decode prog_7_method_36_code 24 = .ok (.invokestatic 96, 3) := by decide +kernel
theorem smd_M_moveFrames_27 : decode prog_7_method_36_code 27 = .ok (.istore_n 3, 1) := by decide +kernel
theorem smd_M_moveFrames_28 : decode prog_7_method_36_code 28 = .ok (.aload_n 0, 1) := by decide +kernel
theorem smd_M_moveFrames_29 : decode prog_7_method_36_code 29 = .ok (.getfield 50, 3) := by decide +kernel
theorem smd_M_moveFrames_32 : decode prog_7_method_36_code 32 = .ok (.iload_n 3, 1) := by decide +kernel
theorem smd_M_moveFrames_33 : decode prog_7_method_36_code 33 = .ok (.iaload, 1) := by decide +kernel
theorem smd_M_moveFrames_34 : decode prog_7_method_36_code 34 = .ok (.istore 4, 2) := by decide +kernel
theorem smd_M_moveFrames_36 : decode prog_7_method_36_code 36 = .ok (.aload_n 0, 1) := by decide +kernel
theorem smd_M_moveFrames_37 : decode prog_7_method_36_code 37 = .ok (.iload 4, 2) := by decide +kernel
theorem smd_M_moveFrames_39 : decode prog_7_method_36_code 39 = .ok (.invokevirtual 93, 3) := by decide +kernel
theorem smd_M_moveFrames_42 : decode prog_7_method_36_code 42 = .ok (.ifCond .eq 40, 3) := by decide +kernel
theorem smd_M_moveFrames_45 : decode prog_7_method_36_code 45 = .ok (.aload_n 0, 1) := by decide +kernel
theorem smd_M_moveFrames_46 : decode prog_7_method_36_code 46 = .ok (.getfield 50, 3) := by decide +kernel
theorem smd_M_moveFrames_49 : decode prog_7_method_36_code 49 = .ok (.iload_n 3, 1) := by decide +kernel
theorem smd_M_moveFrames_50 : decode prog_7_method_36_code 50 = .ok (.iconst 1, 1) := by decide +kernel
theorem smd_M_moveFrames_51 : decode prog_7_method_36_code 51 = .ok (.iadd, 1) := by decide +kernel
theorem smd_M_moveFrames_52 : decode prog_7_method_36_code 52 = .ok (.aload_n 0, 1) := by decide +kernel
theorem smd_M_moveFrames_53 : decode prog_7_method_36_code 53 = .ok (.iload 4, 2) := by decide +kernel
theorem smd_M_moveFrames_55 : decode prog_7_method_36_code 55 = .ok (.aload_n 0, 1) := by decide +kernel
theorem smd_M_moveFrames_56 : decode prog_7_method_36_code 56 = .ok (.getfield 7, 3) := by decide +kernel
theorem smd_M_moveFrames_59 : decode prog_7_method_36_code 59 = .ok (.bipush 48, 2) := by decide +kernel
theorem smd_M_moveFrames_61 : decode prog_7_method_36_code 61 = .ok (.iload 4, 2) := by decide +kernel
theorem smd_M_moveFrames_63 : decode prog_7_method_36_code 63 = .ok (.imul, 1) := by decide +kernel
theorem smd_M_moveFrames_64 : decode prog_7_method_36_code 64 = .ok (.iconst 4, 1) := by decide +kernel
theorem smd_M_moveFrames_65 : decode prog_7_method_36_code 65 = .ok (.aload_n 0, 1) := by decide +kernel
theorem smd_M_moveFrames_66 : decode prog_7_method_36_code 66 = .ok (.getfield 50, 3) := by decide +kernel
theorem smd_M_moveFrames_69 : decode prog_7_method_36_code 69 = .ok (.iload_n 3, 1) := by decide +kernel
theorem smd_M_moveFrames_70 : decode prog_7_method_36_code 70 = .ok (.iconst 1, 1) := by decide +kernel
theorem smd_M_moveFrames_71 : decode prog_7_method_36_code 71 = .ok (.iadd, 1) := by decide +kernel
theorem smd_M_moveFrames_72 : decode prog_7_method_36_code 72 = .ok (.iaload, 1) := by decide +kernel
theorem smd_M_moveFrames_73 : decode prog_7_method_36_code 73 = .ok (.imul, 1) := by decide +kernel
theorem smd_M_moveFrames_74 : decode prog_7_method_36_code 74 = .ok (.iadd, 1) := by decide +kernel
theorem smd_M_moveFrames_75 : decode prog_7_method_36_code 75 = .ok (.iconst 1, 1) := by decide +kernel
theorem smd_M_moveFrames_76 : decode prog_7_method_36_code 76 = .ok (.iadd, 1) := by decide +kernel
theorem smd_M_moveFrames_77 : decode prog_7_method_36_code 77 = .ok (.iaload, 1) := by decide +kernel
theorem smd_M_moveFrames_78 : decode prog_7_method_36_code 78 = .ok (.invokevirtual 100, 3) := by decide +kernel
theorem smd_M_moveFrames_81 : decode prog_7_method_36_code 81 = .ok (.iastore, 1) := by decide +kernel
theorem smd_M_moveFrames_82 : decode prog_7_method_36_code 82 = .ok (.iinc 2 1, 3) := by decide +kernel
theorem smd_M_moveFrames_85 : decode prog_7_method_36_code 85 = .ok (.goto (-73), 3) := by decide +kernel
theorem smd_M_moveFrames_88 : decode prog_7_method_36_code 88 = .ok (.iinc 1 1, 3) := by decide +kernel
theorem smd_M_moveFrames_91 : decode prog_7_method_36_code 91 = .ok (.goto (-89), 3) := by decide +kernel
theorem smd_M_moveFrames_94 : decode prog_7_method_36_code 94 = .ok (.return_, 1) := by decide +kernel
theorem smd_M_attempt_0 : decode prog_7_method_37_code 0 = .ok (.iload_n 1, 1) := by decide +kernel
theorem smd_M_attempt_1 : decode prog_7_method_37_code 1 = .ok (.ifCond .ge 5, 3) := by decide +kernel
theorem smd_M_attempt_4 : decode prog_7_method_37_code 4 = .ok (.iconst (-1), 1) := by decide +kernel
theorem smd_M_attempt_5 : decode prog_7_method_37_code 5 = .ok (.ireturn, 1) := by decide +kernel
theorem smd_M_attempt_6 : decode prog_7_method_37_code 6 = .ok (.aload_n 0, 1) := by decide +kernel
theorem smd_M_attempt_7 : decode prog_7_method_37_code 7 = .ok (.getfield 63, 3) := by decide +kernel
theorem smd_M_attempt_10 : decode prog_7_method_37_code 10 = .ok (.ifCond .ne 5, 3) := by decide +kernel
theorem smd_M_attempt_13 : decode prog_7_method_37_code 13 = .ok (.iconst 3, 1) := by decide +kernel
theorem smd_M_attempt_14 : decode prog_7_method_37_code 14 = .ok (.ireturn, 1) := by decide +kernel
theorem smd_M_attempt_15 : decode prog_7_method_37_code 15 = .ok (.aload_n 0, 1) := by decide +kernel
theorem smd_M_attempt_16 : decode prog_7_method_37_code 16 = .ok (.iconst 0, 1) := by decide +kernel
theorem smd_M_attempt_17 : decode prog_7_method_37_code 17 = .ok (.invokevirtual 129, 3) := by decide +kernel
theorem smd_M_attempt_20 : decode prog_7_method_37_code 20 = .ok (.ifCond .le 5, 3) := by decide +kernel
theorem smd_M_attempt_23 : decode prog_7_method_37_code 23 = .ok (.iconst 0, 1) := by decide +kernel
theorem smd_M_attempt_24 : decode prog_7_method_37_code 24 = .ok (.ireturn, 1) := by decide +kernel
theorem smd_M_attempt_25 : decode prog_7_method_37_code 25 = .ok (.aload_n 0, 1) := by decide +kernel
theorem smd_M_attempt_26 : decode prog_7_method_37_code 26 = .ok (.invokevirtual 120, 3) := by decide +kernel
theorem smd_M_attempt_29 : decode prog_7_method_37_code 29 = .ok (.pop, 1) := by decide +kernel
theorem smd_M_attempt_30 : decode prog_7_method_37_code 30 = .ok (.aload_n 0, 1) := by decide +kernel
theorem smd_M_attempt_31 : decode prog_7_method_37_code 31 = .ok (.iload_n 1, 1) := by decide +kernel
theorem smd_M_attempt_32 : decode prog_7_method_37_code 32 = .ok (.invokevirtual 133, 3) := by decide +kernel
theorem smd_M_attempt_35 : decode prog_7_method_37_code 35 = .ok (.ifCond .ne 5, 3) := by decide +kernel
theorem smd_M_attempt_38 : decode prog_7_method_37_code 38 = .ok (.iconst 2, 1) := by decide +kernel
theorem smd_M_attempt_39 : decode prog_7_method_37_code 39 = .ok (.ireturn, 1) := by decide +kernel
theorem smd_M_attempt_40 : decode prog_7_method_37_code 40 = .ok (.aload_n 0, 1) := by decide +kernel
theorem smd_M_attempt_41 : decode prog_7_method_37_code 41 = .ok (.invokevirtual 136, 3) := by decide +kernel
theorem smd_M_attempt_44 : decode prog_7_method_37_code 44 = .ok (.iconst 0, 1) := by decide +kernel
theorem smd_M_attempt_45 : decode prog_7_method_37_code 45 = .ok (.istore_n 2, 1) := by decide +kernel
theorem smd_M_attempt_46 : decode prog_7_method_37_code 46 = .ok (.iload_n 2, 1) := by decide +kernel
theorem smd_M_attempt_47 : decode prog_7_method_37_code 47 = .ok (.sipush 288, 3) := by decide +kernel
theorem smd_M_attempt_50 : decode prog_7_method_37_code 50 = .ok (.if_icmp .ge 25, 3) := by decide +kernel
theorem smd_M_attempt_53 : decode prog_7_method_37_code 53 = .ok (.aload_n 0, 1) := by decide +kernel
theorem smd_M_attempt_54 : decode prog_7_method_37_code 54 = .ok (.getfield 7, 3) := by decide +kernel
theorem smd_M_attempt_57 : decode prog_7_method_37_code 57 = .ok (.iload_n 2, 1) := by decide +kernel
theorem smd_M_attempt_58 : decode prog_7_method_37_code 58 = .ok (.aload_n 0, 1) := by decide +kernel
theorem smd_M_attempt_59 : decode prog_7_method_37_code 59 = .ok (.getfield 7, 3) := by decide +kernel
theorem smd_M_attempt_62 : decode prog_7_method_37_code 62 = .ok (.sipush 288, 3) := by decide +kernel
theorem smd_M_attempt_65 : decode prog_7_method_37_code 65 = .ok (.iload_n 2, 1) := by decide +kernel
theorem smd_M_attempt_66 : decode prog_7_method_37_code 66 = .ok (.iadd, 1) := by decide +kernel
theorem smd_M_attempt_67 : decode prog_7_method_37_code 67 = .ok (.iaload, 1) := by decide +kernel
theorem smd_M_attempt_68 : decode prog_7_method_37_code 68 = .ok (.iastore, 1) := by decide +kernel
theorem smd_M_attempt_69 : decode prog_7_method_37_code 69 = .ok (.iinc 2 1, 3) := by decide +kernel
theorem smd_M_attempt_72 : decode prog_7_method_37_code 72 = .ok (.goto (-26), 3) := by decide +kernel
theorem smd_M_attempt_75 : decode prog_7_method_37_code 75 = .ok (.iconst 0, 1) := by decide +kernel
theorem smd_M_attempt_76 : decode prog_7_method_37_code 76 = .ok (.istore_n 2, 1) := by decide +kernel
theorem smd_M_attempt_77 : decode prog_7_method_37_code 77 = .ok (.iload_n 2, 1) := by decide +kernel
theorem smd_M_attempt_78 : decode prog_7_method_37_code 78 = .ok (.bipush 6, 2) := by decide +kernel
theorem smd_M_attempt_80 : decode prog_7_method_37_code 80 = .ok (.if_icmp .ge 24, 3) := by decide +kernel
theorem smd_M_attempt_83 : decode prog_7_method_37_code 83 = .ok (.aload_n 0, 1) := by decide +kernel
theorem smd_M_attempt_84 : decode prog_7_method_37_code 84 = .ok (.getfield 13, 3) := by decide +kernel
theorem smd_M_attempt_87 : decode prog_7_method_37_code 87 = .ok (.iload_n 2, 1) := by decide +kernel
theorem smd_M_attempt_88 : decode prog_7_method_37_code 88 = .ok (.aload_n 0, 1) := by decide +kernel
theorem smd_M_attempt_89 : decode prog_7_method_37_code 89 = .ok (.getfield 13, 3) := by decide +kernel
theorem smd_M_attempt_92 : decode prog_7_method_37_code 92 = .ok (.bipush 6, 2) := by decide +kernel
theorem smd_M_attempt_94 : decode prog_7_method_37_code 94 = .ok (.iload_n 2, 1) := by decide +kernel
theorem smd_M_attempt_95 : decode prog_7_method_37_code 95 = .ok (.iadd, 1) := by decide +kernel
theorem smd_M_attempt_96 : decode prog_7_method_37_code 96 = .ok (.iaload, 1) := by decide +kernel
theorem smd_M_attempt_97 : decode prog_7_method_37_code 97 = .ok (.iastore, 1) := by decide +kernel
theorem smd_M_attempt_98 : decode prog_7_method_37_code 98 = .ok (.iinc 2 1, 3) := by decide +kernel
theorem smd_M_attempt_101 : decode prog_7_method_37_code 101 = .ok (.goto (-24), 3) := by decide +kernel
theorem smd_M_attempt_104 : decode prog_7_method_37_code 104 = .ok (.iconst 0, 1) := by decide +kernel
theorem smd_M_attempt_105 : decode prog_7_method_37_code 105 = .ok (.istore_n 2, 1) := by decide +kernel
theorem smd_M_attempt_106 : decode prog_7_method_37_code 106 = .ok (.iload_n 2, 1) := by decide +kernel
theorem smd_M_attempt_107 : decode prog_7_method_37_code 107 = .ok (.iconst 3, 1) := by decide +kernel
theorem smd_M_attempt_108 : decode prog_7_method_37_code 108 = .ok (.if_icmp .ge 23, 3) := by decide +kernel
theorem smd_M_attempt_111 : decode prog_7_method_37_code 111 = .ok (.aload_n 0, 1) := by decide +kernel
theorem smd_M_attempt_112 : decode prog_7_method_37_code 112 = .ok (.getfield 16, 3) := by decide +kernel
theorem smd_M_attempt_115 : decode prog_7_method_37_code 115 = .ok (.iload_n 2, 1) := by decide +kernel
theorem smd_M_attempt_116 : decode prog_7_method_37_code 116 = .ok (.aload_n 0, 1) := by decide +kernel
theorem smd_M_attempt_117 : decode prog_7_method_37_code 117 = .ok (.getfield 16, 3) := by decide +kernel
theorem smd_M_attempt_120 : decode prog_7_method_37_code 120 = .ok (.iconst 3, 1) := by decide +kernel
theorem smd_M_attempt_121 : decode prog_7_method_37_code 121 = .ok (.iload_n 2, 1) := by decide +kernel
theorem smd_M_attempt_122 : decode prog_7_method_37_code 122 = .ok (.iadd, 1) := by decide +kernel
theorem smd_M_attempt_123 : decode prog_7_method_37_code 123 = .ok (.iaload, 1) := by decide +kernel
theorem smd_M_attempt_124 : decode prog_7_method_37_code 124 = .ok (.iastore, 1) := by decide +kernel
theorem smd_M_attempt_125 : decode prog_7_method_37_code 125 = .ok (.iinc 2 1, 3) := by decide +kernel
theorem smd_M_attempt_128 : decode prog_7_method_37_code 128 = .ok (.goto (-22), 3) := by decide +kernel
theorem smd_M_attempt_131 : decode prog_7_method_37_code 131 = .ok (.aload_n 0, 1) := by decide +kernel
theorem smd_M_attempt_132 : decode prog_7_method_37_code 132 = .ok (.invokevirtual 74, 3) := by decide +kernel
theorem smd_M_attempt_135 : decode prog_7_method_37_code 135 = .ok (.aload_n 0, 1) := by decide +kernel
theorem smd_M_attempt_136 : decode prog_7_method_37_code 136 = .ok (.iconst 0, 1) := by decide +kernel
theorem smd_M_attempt_137 : decode prog_7_method_37_code 137 = .ok (.putfield 63, 3) := by decide +kernel
theorem smd_M_attempt_140 : decode prog_7_method_37_code 140 = .ok (.aload_n 0, 1) := by decide +kernel
theorem smd_M_attempt_141 : decode prog_7_method_37_code 141 = .ok (.dup, 1) := by decide +kernel
theorem smd_M_attempt_142 : decode prog_7_method_37_code 142 = .ok (.getfield 139, 3) := by decide +kernel
theorem smd_M_attempt_145 : decode prog_7_method_37_code 145 = .ok (.iconst 1, 1) := by decide +kernel
theorem smd_M_attempt_146 : decode prog_7_method_37_code 146 = .ok (.iadd, 1) := by decide +kernel
theorem smd_M_attempt_147 : decode prog_7_method_37_code 147 = .ok (.putfield 139, 3) := by decide +kernel
theorem smd_M_attempt_150 : decode prog_7_method_37_code 150 = .ok (.iconst 1, 1) := by decide +kernel
theorem smd_M_attempt_151 : decode prog_7_method_37_code 151 = .ok (.ireturn, 1) := by decide +kernel
theorem smd_M_version_0 : decode prog_7_method_38_code 0 = .ok (.aload_n 0, 1) := by decide +kernel
theorem smd_M_version_1 : decode prog_7_method_38_code 1 = .ok (.getfield 139, 3) := by decide +kernel
theorem smd_M_version_4 : decode prog_7_method_38_code 4 = .ok (.ireturn, 1) := by decide +kernel
theorem smd_M_isTask_0 : decode prog_7_method_39_code 0 = .ok (.iload_n 1, 1) := by decide +kernel
theorem smd_M_isTask_1 : decode prog_7_method_39_code 1 = .ok (.iconst 1, 1) := by decide +kernel
theorem smd_M_isTask_2 : decode prog_7_method_39_code 2 = .ok (.if_icmp .lt 15, 3) := by decide +kernel
theorem smd_M_isTask_5 : decode prog_7_method_39_code 5 = .ok (.iload_n 1, 1) := by decide +kernel
theorem smd_M_isTask_6 : decode prog_7_method_39_code 6 = .ok (.aload_n 0, 1) := by decide +kernel
theorem smd_M_isTask_7 : decode prog_7_method_39_code 7 = .ok (.getfield 103, 3) := by decide +kernel
theorem smd_M_isTask_10 : decode prog_7_method_39_code 10 = .ok (.if_icmp .gt 7, 3) := by decide +kernel
theorem smd_M_isTask_13 : decode prog_7_method_39_code 13 = .ok (.iconst 1, 1) := by decide +kernel
theorem smd_M_isTask_14 : decode prog_7_method_39_code 14 = .ok (.goto 4, 3) := by decide +kernel
theorem smd_M_isTask_17 : decode prog_7_method_39_code 17 = .ok (.iconst 0, 1) := by decide +kernel
theorem smd_M_isTask_18 : decode prog_7_method_39_code 18 = .ok (.ireturn, 1) := by decide +kernel
theorem smd_M_push_0 : decode prog_7_method_40_code 0 = .ok (.iload_n 1, 1) := by decide +kernel
theorem smd_M_push_1 : decode prog_7_method_40_code 1 = .ok (.aload_n 0, 1) := by decide +kernel
theorem smd_M_push_2 : decode prog_7_method_40_code 2 = .ok (.getfield 47, 3) := by decide +kernel
theorem smd_M_push_5 : decode prog_7_method_40_code 5 = .ok (.iload_n 1, 1) := by decide +kernel
theorem smd_M_push_6 : decode prog_7_method_40_code 6 = .ok (.iaload, 1) := by decide +kernel
theorem smd_M_push_7 : decode prog_7_method_40_code 7 = .ok (.invokestatic 96, 3) := by decide +kernel
theorem smd_M_push_10 : decode prog_7_method_40_code 10 = .ok (.istore 5, 2) := by decide +kernel
theorem smd_M_push_12 : decode prog_7_method_40_code 12 = .ok (.aload_n 0, 1) := by decide +kernel
theorem smd_M_push_13 : decode prog_7_method_40_code 13 = .ok (.getfield 50, 3) := by decide +kernel
theorem smd_M_push_16 : decode prog_7_method_40_code 16 = .ok (.iload 5, 2) := by decide +kernel
theorem smd_M_push_18 : decode prog_7_method_40_code 18 = .ok (.iload_n 2, 1) := by decide +kernel
theorem smd_M_push_19 : decode prog_7_method_40_code 19 = .ok (.iastore, 1) := by decide +kernel
theorem smd_M_push_20 : decode prog_7_method_40_code 20 = .ok (.aload_n 0, 1) := by decide +kernel
theorem smd_M_push_21 : decode prog_7_method_40_code 21 = .ok (.getfield 50, 3) := by decide +kernel
theorem smd_M_push_24 : decode prog_7_method_40_code 24 = .ok (.iload 5, 2) := by decide +kernel
theorem smd_M_push_26 : decode prog_7_method_40_code 26 = .ok (.iconst 1, 1) := by decide +kernel
theorem smd_M_push_27 : decode prog_7_method_40_code 27 = .ok (.iadd, 1) := by decide +kernel
theorem smd_M_push_28 : decode prog_7_method_40_code 28 = .ok (.iconst 0, 1) := by decide +kernel
theorem smd_M_push_29 : decode prog_7_method_40_code 29 = .ok (.iastore, 1) := by decide +kernel
theorem smd_M_push_30 : decode prog_7_method_40_code 30 = .ok (.aload_n 0, 1) := by decide +kernel
theorem smd_M_push_31 : decode prog_7_method_40_code 31 = .ok (.getfield 50, 3) := by decide +kernel
theorem smd_M_push_34 : decode prog_7_method_40_code 34 = .ok (.iload 5, 2) := by decide +kernel
theorem smd_M_push_36 : decode prog_7_method_40_code 36 = .ok (.iconst 2, 1) := by decide +kernel
theorem smd_M_push_37 : decode prog_7_method_40_code 37 = .ok (.iadd, 1) := by decide +kernel
theorem smd_M_push_38 : decode prog_7_method_40_code 38 = .ok (.iload_n 3, 1) := by decide +kernel
theorem smd_M_push_39 : decode prog_7_method_40_code 39 = .ok (.iastore, 1) := by decide +kernel
theorem smd_M_push_40 : decode prog_7_method_40_code 40 = .ok (.aload_n 0, 1) := by decide +kernel
theorem smd_M_push_41 : decode prog_7_method_40_code 41 = .ok (.getfield 50, 3) := by decide +kernel
theorem smd_M_push_44 : decode prog_7_method_40_code 44 = .ok (.iload 5, 2) := by decide +kernel
theorem smd_M_push_46 : decode prog_7_method_40_code 46 = .ok (.iconst 3, 1) := by decide +kernel
theorem smd_M_push_47 : decode prog_7_method_40_code 47 = .ok (.iadd, 1) := by decide +kernel
theorem smd_M_push_48 : decode prog_7_method_40_code 48 = .ok (.iconst 0, 1) := by decide +kernel
theorem smd_M_push_49 : decode prog_7_method_40_code 49 = .ok (.iastore, 1) := by decide +kernel
theorem smd_M_push_50 : decode prog_7_method_40_code 50 = .ok (.aload_n 0, 1) := by decide +kernel
theorem smd_M_push_51 : decode prog_7_method_40_code 51 = .ok (.getfield 50, 3) := by decide +kernel
theorem smd_M_push_54 : decode prog_7_method_40_code 54 = .ok (.iload 5, 2) := by decide +kernel
theorem smd_M_push_56 : decode prog_7_method_40_code 56 = .ok (.iconst 4, 1) := by decide +kernel
theorem smd_M_push_57 : decode prog_7_method_40_code 57 = .ok (.iadd, 1) := by decide +kernel
theorem smd_M_push_58 : decode prog_7_method_40_code 58 = .ok (.iconst 0, 1) := by decide +kernel
theorem smd_M_push_59 : decode prog_7_method_40_code 59 = .ok (.iastore, 1) := by decide +kernel
theorem smd_M_push_60 : decode prog_7_method_40_code 60 = .ok (.aload_n 0, 1) := by decide +kernel
theorem smd_M_push_61 : decode prog_7_method_40_code 61 = .ok (.getfield 50, 3) := by decide +kernel
theorem smd_M_push_64 : decode prog_7_method_40_code 64 = .ok (.iload 5, 2) := by decide +kernel
theorem smd_M_push_66 : decode prog_7_method_40_code 66 = .ok (.iconst 5, 1) := by decide +kernel
theorem smd_M_push_67 : decode prog_7_method_40_code 67 = .ok (.iadd, 1) := by decide +kernel
theorem smd_M_push_68 : decode prog_7_method_40_code 68 = .ok (.iload 4, 2) := by decide +kernel
theorem smd_M_push_70 : decode prog_7_method_40_code 70 = .ok (.iastore, 1) := by decide +kernel
theorem smd_M_push_71 : decode prog_7_method_40_code 71 = .ok (.aload_n 0, 1) := by decide +kernel
theorem smd_M_push_72 : decode prog_7_method_40_code 72 = .ok (.getfield 47, 3) := by decide +kernel
theorem smd_M_push_75 : decode prog_7_method_40_code 75 = .ok (.iload_n 1, 1) := by decide +kernel
theorem smd_M_push_76 : decode prog_7_method_40_code 76 = .ok (.dup2, 1) := by decide +kernel
theorem smd_M_push_77 : decode prog_7_method_40_code 77 = .ok (.iaload, 1) := by decide +kernel
theorem smd_M_push_78 : decode prog_7_method_40_code 78 = .ok (.iconst 1, 1) := by decide +kernel
theorem smd_M_push_79 : decode prog_7_method_40_code 79 = .ok (.iadd, 1) := by decide +kernel
theorem smd_M_push_80 : decode prog_7_method_40_code 80 = .ok (.iastore, 1) := by decide +kernel
theorem smd_M_push_81 : decode prog_7_method_40_code 81 = .ok (.return_, 1) := by decide +kernel
theorem smd_M_spawn_0 : decode prog_7_method_41_code 0 = .ok (.iload_n 1, 1) := by decide +kernel
theorem smd_M_spawn_1 : decode prog_7_method_41_code 1 = .ok (.invokestatic 59, 3) := by decide +kernel
theorem smd_M_spawn_4 : decode prog_7_method_41_code 4 = .ok (.ifCond .eq 12, 3) := by decide +kernel
theorem smd_M_spawn_7 : decode prog_7_method_41_code 7 = .ok (.aload_n 0, 1) := by decide +kernel
theorem smd_M_spawn_8 : decode prog_7_method_41_code 8 = .ok (.getfield 13, 3) := by decide +kernel
theorem smd_M_spawn_11 : decode prog_7_method_41_code 11 = .ok (.iload_n 1, 1) := by decide +kernel
theorem smd_M_spawn_12 : decode prog_7_method_41_code 12 = .ok (.iaload, 1) := by decide +kernel
theorem smd_M_spawn_13 : decode prog_7_method_41_code 13 = .ok (.ifCond .ne 5, 3) := by decide +kernel
theorem smd_M_spawn_16 : decode prog_7_method_41_code 16 = .ok (.iconst (-1), 1) := by decide +kernel
theorem smd_M_spawn_17 : decode prog_7_method_41_code 17 = .ok (.ireturn, 1) := by decide +kernel
theorem smd_M_spawn_18 : decode prog_7_method_41_code 18 = .ok (.aload_n 0, 1) := by decide +kernel
theorem smd_M_spawn_19 : decode prog_7_method_41_code 19 = .ok (.getfield 103, 3) := by decide +kernel
theorem smd_M_spawn_22 : decode prog_7_method_41_code 22 = .ok (.bipush 6, 2) := by decide +kernel
theorem smd_M_spawn_24 : decode prog_7_method_41_code 24 = .ok (.if_icmp .ne 6, 3) := by decide +kernel
theorem smd_M_spawn_27 : decode prog_7_method_41_code 27 = .ok (.bipush (-3), 2) := by decide +kernel
theorem smd_M_spawn_29 : decode prog_7_method_41_code 29 = .ok (.ireturn, 1) := by decide +kernel
theorem smd_M_spawn_30 : decode prog_7_method_41_code 30 = .ok (.aload_n 0, 1) := by decide +kernel
theorem smd_M_spawn_31 : decode prog_7_method_41_code 31 = .ok (.dup, 1) := by decide +kernel
theorem smd_M_spawn_32 : decode prog_7_method_41_code 32 = .ok (.getfield 103, 3) := by decide +kernel
theorem smd_M_spawn_35 : decode prog_7_method_41_code 35 = .ok (.iconst 1, 1) := by decide +kernel
theorem smd_M_spawn_36 : decode prog_7_method_41_code 36 = .ok (.iadd, 1) := by decide +kernel
theorem smd_M_spawn_37 : decode prog_7_method_41_code 37 = .ok (.putfield 103, 3) := by decide +kernel
theorem smd_M_spawn_40 : decode prog_7_method_41_code 40 = .ok (.aload_n 0, 1) := by decide +kernel
theorem smd_M_spawn_41 : decode prog_7_method_41_code 41 = .ok (.aload_n 0, 1) := by decide +kernel
theorem smd_M_spawn_42 : decode prog_7_method_41_code 42 = .ok (.getfield 103, 3) := by decide +kernel
theorem smd_M_spawn_45 : decode prog_7_method_41_code 45 = .ok (.iload_n 1, 1) := by decide +kernel
theorem smd_M_spawn_46 : decode prog_7_method_41_code 46 = .ok (.iload_n 2, 1) := by decide +kernel
theorem smd_M_spawn_47 : decode prog_7_method_41_code 47 = .ok (.iconst 0, 1) := by decide +kernel
theorem smd_M_spawn_48 : decode prog_7_method_41_code 48 = .ok (.invokevirtual 142, 3) := by decide +kernel
theorem smd_M_spawn_51 : decode prog_7_method_41_code 51 = .ok (.aload_n 0, 1) := by decide +kernel
theorem smd_M_spawn_52 : decode prog_7_method_41_code 52 = .ok (.getfield 103, 3) := by decide +kernel
theorem smd_M_spawn_55 : decode prog_7_method_41_code 55 = .ok (.ireturn, 1) := by decide +kernel
theorem smd_M_fault_0 : decode prog_7_method_42_code 0 = .ok (.aload_n 0, 1) := by decide +kernel
theorem smd_M_fault_1 : decode prog_7_method_42_code 1 = .ok (.getfield 47, 3) := by decide +kernel
theorem smd_M_fault_4 : decode prog_7_method_42_code 4 = .ok (.iload_n 1, 1) := by decide +kernel
theorem smd_M_fault_5 : decode prog_7_method_42_code 5 = .ok (.iconst 0, 1) := by decide +kernel
theorem smd_M_fault_6 : decode prog_7_method_42_code 6 = .ok (.iastore, 1) := by decide +kernel
theorem smd_M_fault_7 : decode prog_7_method_42_code 7 = .ok (.iconst 3, 1) := by decide +kernel
theorem smd_M_fault_8 : decode prog_7_method_42_code 8 = .ok (.ireturn, 1) := by decide +kernel
theorem smd_M_giveBack_0 : decode prog_7_method_43_code 0 = .ok (.aload_n 0, 1) := by decide +kernel
theorem smd_M_giveBack_1 : decode prog_7_method_43_code 1 = .ok (.getfield 47, 3) := by decide +kernel
theorem smd_M_giveBack_4 : decode prog_7_method_43_code 4 = .ok (.iload_n 1, 1) := by decide +kernel
theorem smd_M_giveBack_5 : decode prog_7_method_43_code 5 = .ok (.dup2, 1) := by decide +kernel
theorem smd_M_giveBack_6 : decode prog_7_method_43_code 6 = .ok (.iaload, 1) := by decide +kernel
theorem smd_M_giveBack_7 : decode prog_7_method_43_code 7 = .ok (.iconst 1, 1) := by decide +kernel
theorem smd_M_giveBack_8 : decode prog_7_method_43_code 8 = .ok (.isub, 1) := by decide +kernel
theorem smd_M_giveBack_9 : decode prog_7_method_43_code 9 = .ok (.iastore, 1) := by decide +kernel
theorem smd_M_giveBack_10 : decode prog_7_method_43_code 10 = .ok (.aload_n 0, 1) := by decide +kernel
theorem smd_M_giveBack_11 : decode prog_7_method_43_code 11 = .ok (.getfield 47, 3) := by decide +kernel
theorem smd_M_giveBack_14 : decode prog_7_method_43_code 14 = .ok (.iload_n 1, 1) := by decide +kernel
theorem smd_M_giveBack_15 : decode prog_7_method_43_code 15 = .ok (.iaload, 1) := by decide +kernel
theorem smd_M_giveBack_16 : decode prog_7_method_43_code 16 = .ok (.ifCond .ne 12, 3) := by decide +kernel
theorem smd_M_giveBack_19 : decode prog_7_method_43_code 19 = .ok (.aload_n 0, 1) := by decide +kernel
theorem smd_M_giveBack_20 : decode prog_7_method_43_code 20 = .ok (.getfield 44, 3) := by decide +kernel
theorem smd_M_giveBack_23 : decode prog_7_method_43_code 23 = .ok (.iload_n 1, 1) := by decide +kernel
theorem smd_M_giveBack_24 : decode prog_7_method_43_code 24 = .ok (.iload_n 2, 1) := by decide +kernel
theorem smd_M_giveBack_25 : decode prog_7_method_43_code 25 = .ok (.iastore, 1) := by decide +kernel
theorem smd_M_giveBack_26 : decode prog_7_method_43_code 26 = .ok (.iconst 2, 1) := by decide +kernel
theorem smd_M_giveBack_27 : decode prog_7_method_43_code 27 = .ok (.ireturn, 1) := by decide +kernel
theorem smd_M_giveBack_28 : decode prog_7_method_43_code 28 = .ok (.aload_n 0, 1) := by decide +kernel
theorem smd_M_giveBack_29 : decode prog_7_method_43_code 29 = .ok (.getfield 50, 3) := by decide +kernel
theorem smd_M_giveBack_32 : decode prog_7_method_43_code 32 = .ok (.iload_n 1, 1) := by decide +kernel
theorem smd_M_giveBack_33 : decode prog_7_method_43_code 33 = .ok (.aload_n 0, 1) := by decide +kernel
theorem smd_M_giveBack_34 : decode prog_7_method_43_code 34 = .ok (.getfield 47, 3) := by decide +kernel
theorem smd_M_giveBack_37 : decode prog_7_method_43_code 37 = .ok (.iload_n 1, 1) := by decide +kernel
theorem smd_M_giveBack_38 : decode prog_7_method_43_code 38 = .ok (.iaload, 1) := by decide +kernel
theorem smd_M_giveBack_39 : decode prog_7_method_43_code 39 = .ok (.invokestatic 96, 3) := by decide +kernel
theorem smd_M_giveBack_42 : decode prog_7_method_43_code 42 = .ok (.iconst 5, 1) := by decide +kernel
theorem smd_M_giveBack_43 : decode prog_7_method_43_code 43 = .ok (.iadd, 1) := by decide +kernel
theorem smd_M_giveBack_44 : decode prog_7_method_43_code 44 = .ok (.iaload, 1) := by decide +kernel
theorem smd_M_giveBack_45 : decode prog_7_method_43_code 45 = .ok (.istore_n 3, 1) := by decide +kernel
theorem smd_M_giveBack_46 : decode prog_7_method_43_code 46 = .ok (.aload_n 0, 1) := by decide +kernel
theorem smd_M_giveBack_47 : decode prog_7_method_43_code 47 = .ok (.getfield 50, 3) := by decide +kernel
theorem smd_M_giveBack_50 : decode prog_7_method_43_code 50 = .ok (.iload_n 1, 1) := by decide +kernel
theorem smd_M_giveBack_51 : decode prog_7_method_43_code 51 = .ok (.aload_n 0, 1) := by decide +kernel
theorem smd_M_giveBack_52 : decode prog_7_method_43_code 52 = .ok (.getfield 47, 3) := by decide +kernel
theorem smd_M_giveBack_55 : decode prog_7_method_43_code 55 = .ok (.iload_n 1, 1) := by decide +kernel
theorem smd_M_giveBack_56 : decode prog_7_method_43_code 56 = .ok (.iaload, 1) := by decide +kernel
theorem smd_M_giveBack_57 : decode prog_7_method_43_code 57 = .ok (.iconst 1, 1) := by decide +kernel
theorem smd_M_giveBack_58 : decode prog_7_method_43_code 58 = .ok (.isub, 1) := by decide +kernel
theorem smd_M_giveBack_59 : decode prog_7_method_43_code 59 = .ok (.invokestatic 96, 3) := by decide +kernel
theorem smd_M_giveBack_62 : decode prog_7_method_43_code 62 = .ok (.iconst 2, 1) := by decide +kernel
theorem smd_M_giveBack_63 : decode prog_7_method_43_code 63 = .ok (.iadd, 1) := by decide +kernel
theorem smd_M_giveBack_64 : decode prog_7_method_43_code 64 = .ok (.iload_n 3, 1) := by decide +kernel
theorem smd_M_giveBack_65 : decode prog_7_method_43_code 65 = .ok (.iadd, 1) := by decide +kernel
theorem smd_M_giveBack_66 : decode prog_7_method_43_code 66 = .ok (.iload_n 2, 1) := by decide +kernel
theorem smd_M_giveBack_67 : decode prog_7_method_43_code 67 = .ok (.iastore, 1) := by decide +kernel
theorem smd_M_giveBack_68 : decode prog_7_method_43_code 68 = .ok (.iconst 0, 1) := by decide +kernel
theorem smd_M_giveBack_69 : decode prog_7_method_43_code 69 = .ok (.ireturn, 1) := by decide +kernel
theorem smd_M_take_0 : decode prog_7_method_44_code 0 = .ok (.aload_n 0, 1) := by decide +kernel
theorem smd_M_take_1 : decode prog_7_method_44_code 1 = .ok (.getfield 56, 3) := by decide +kernel
theorem smd_M_take_4 : decode prog_7_method_44_code 4 = .ok (.bipush 8, 2) := by decide +kernel
theorem smd_M_take_6 : decode prog_7_method_44_code 6 = .ok (.iload_n 1, 1) := by decide +kernel
theorem smd_M_take_7 : decode prog_7_method_44_code 7 = .ok (.imul, 1) := by decide +kernel
theorem smd_M_take_8 : decode prog_7_method_44_code 8 = .ok (.iaload, 1) := by decide +kernel
theorem smd_M_take_9 : decode prog_7_method_44_code 9 = .ok (.istore_n 2, 1) := by decide +kernel
theorem smd_M_take_10 : decode prog_7_method_44_code 10 = .ok (.aload_n 0, 1) := by decide +kernel
theorem smd_M_take_11 : decode prog_7_method_44_code 11 = .ok (.getfield 53, 3) := by decide +kernel
theorem smd_M_take_14 : decode prog_7_method_44_code 14 = .ok (.iload_n 1, 1) := by decide +kernel
theorem smd_M_take_15 : decode prog_7_method_44_code 15 = .ok (.dup2, 1) := by decide +kernel
theorem smd_M_take_16 : decode prog_7_method_44_code 16 = .ok (.iaload, 1) := by decide +kernel
theorem smd_M_take_17 : decode prog_7_method_44_code 17 = .ok (.iconst 1, 1) := by decide +kernel
theorem smd_M_take_18 : decode prog_7_method_44_code 18 = .ok (.isub, 1) := by decide +kernel
theorem smd_M_take_19 : decode prog_7_method_44_code 19 = .ok (.iastore, 1) := by decide +kernel
theorem smd_M_take_20 : decode prog_7_method_44_code 20 = .ok (.iconst 0, 1) := by decide +kernel
theorem smd_M_take_21 : decode prog_7_method_44_code 21 = .ok (.istore_n 3, 1) := by decide +kernel
theorem smd_M_take_22 : decode prog_7_method_44_code 22 = .ok (.iload_n 3, 1) := by decide +kernel
theorem smd_M_take_23 : decode prog_7_method_44_code 23 = .ok (.aload_n 0, 1) := by decide +kernel
theorem smd_M_take_24 : decode prog_7_method_44_code 24 = .ok (.getfield 53, 3) := by decide +kernel
theorem smd_M_take_27 : decode prog_7_method_44_code 27 = .ok (.iload_n 1, 1) := by decide +kernel
theorem smd_M_take_28 : decode prog_7_method_44_code 28 = .ok (.iaload, 1) := by decide +kernel
theorem smd_M_take_29 : decode prog_7_method_44_code 29 = .ok (.if_icmp .ge 33, 3) := by decide +kernel
theorem smd_M_take_32 : decode prog_7_method_44_code 32 = .ok (.aload_n 0, 1) := by decide +kernel
theorem smd_M_take_33 : decode prog_7_method_44_code 33 = .ok (.getfield 56, 3) := by decide +kernel
theorem smd_M_take_36 : decode prog_7_method_44_code 36 = .ok (.bipush 8, 2) := by decide +kernel
theorem smd_M_take_38 : decode prog_7_method_44_code 38 = .ok (.iload_n 1, 1) := by decide +kernel
theorem smd_M_take_39 : decode prog_7_method_44_code 39 = .ok (.imul, 1) := by decide +kernel
theorem smd_M_take_40 : decode prog_7_method_44_code 40 = .ok (.iload_n 3, 1) := by decide +kernel
theorem smd_M_take_41 : decode prog_7_method_44_code 41 = .ok (.iadd, 1) := by decide +kernel
theorem smd_M_take_42 : decode prog_7_method_44_code 42 = .ok (.aload_n 0, 1) := by decide +kernel
theorem smd_M_take_43 : decode prog_7_method_44_code 43 = .ok (.getfield 56, 3) := by decide +kernel
theorem smd_M_take_46 : decode prog_7_method_44_code 46 = .ok (.bipush 8, 2) := by decide +kernel
theorem smd_M_take_48 : decode prog_7_method_44_code 48 = .ok (.iload_n 1, 1) := by decide +kernel
theorem smd_M_take_49 : decode prog_7_method_44_code 49 = .ok (.imul, 1) := by decide +kernel
theorem smd_M_take_50 : decode prog_7_method_44_code 50 = .ok (.iload_n 3, 1) := by decide +kernel
theorem smd_M_take_51 : decode prog_7_method_44_code 51 = .ok (.iadd, 1) := by decide +kernel
theorem smd_M_take_52 : decode prog_7_method_44_code 52 = .ok (.iconst 1, 1) := by decide +kernel
theorem smd_M_take_53 : decode prog_7_method_44_code 53 = .ok (.iadd, 1) := by decide +kernel
theorem smd_M_take_54 : decode prog_7_method_44_code 54 = .ok (.iaload, 1) := by decide +kernel
theorem smd_M_take_55 : decode prog_7_method_44_code 55 = .ok (.iastore, 1) := by decide +kernel
theorem smd_M_take_56 : decode prog_7_method_44_code 56 = .ok (.iinc 3 1, 3) := by decide +kernel
theorem smd_M_take_59 : decode prog_7_method_44_code 59 = .ok (.goto (-37), 3) := by decide +kernel
theorem smd_M_take_62 : decode prog_7_method_44_code 62 = .ok (.iload_n 2, 1) := by decide +kernel
theorem smd_M_take_63 : decode prog_7_method_44_code 63 = .ok (.ireturn, 1) := by decide +kernel
theorem smd_M_act_0 : decode prog_7_method_45_code 0 = .ok (.iload_n 1, 1) := by decide +kernel
theorem smd_M_act_1 : decode prog_7_method_45_code 1 = .ok (.aload_n 0, 1) := by decide +kernel
theorem smd_M_act_2 : decode prog_7_method_45_code 2 = .ok (.getfield 47, 3) := by decide +kernel
theorem smd_M_act_5 : decode prog_7_method_45_code 5 = .ok (.iload_n 1, 1) := by decide +kernel
theorem smd_M_act_6 : decode prog_7_method_45_code 6 = .ok (.iaload, 1) := by decide +kernel
theorem smd_M_act_7 : decode prog_7_method_45_code 7 = .ok (.iconst 1, 1) := by decide +kernel
theorem smd_M_act_8 : decode prog_7_method_45_code 8 = .ok (.isub, 1) := by decide +kernel
theorem smd_M_act_9 : decode prog_7_method_45_code 9 = .ok (.invokestatic 96, 3) := by decide +kernel
theorem smd_M_act_12 : decode prog_7_method_45_code 12 = .ok (.istore_n 2, 1) := by decide +kernel
theorem smd_M_act_13 : decode prog_7_method_45_code 13 = .ok (.bipush 48, 2) := by decide +kernel
theorem smd_M_act_15 : decode prog_7_method_45_code 15 = .ok (.aload_n 0, 1) := by decide +kernel
theorem smd_M_act_16 : decode prog_7_method_45_code 16 = .ok (.getfield 50, 3) := by decide +kernel
theorem smd_M_act_19 : decode prog_7_method_45_code 19 = .ok (.iload_n 2, 1) := by decide +kernel
theorem smd_M_act_20 : decode prog_7_method_45_code 20 = .ok (.iaload, 1) := by decide +kernel
theorem smd_M_act_21 : decode prog_7_method_45_code 21 = .ok (.imul, 1) := by decide +kernel
theorem smd_M_act_22 : decode prog_7_method_45_code 22 = .ok (.iconst 4, 1) := by decide +kernel
theorem smd_M_act_23 : decode prog_7_method_45_code 23 = .ok (.aload_n 0, 1) := by decide +kernel
theorem smd_M_act_24 : decode prog_7_method_45_code 24 = .ok (.getfield 50, 3) := by decide +kernel
theorem smd_M_act_27 : decode prog_7_method_45_code 27 = .ok (.iload_n 2, 1) := by decide +kernel
theorem smd_M_act_28 : decode prog_7_method_45_code 28 = .ok (.iconst 1, 1) := by decide +kernel
theorem smd_M_act_29 : decode prog_7_method_45_code 29 = .ok (.iadd, 1) := by decide +kernel
theorem smd_M_act_30 : decode prog_7_method_45_code 30 = .ok (.iaload, 1) := by decide +kernel
theorem smd_M_act_31 : decode prog_7_method_45_code 31 = .ok (.imul, 1) := by decide +kernel
theorem smd_M_act_32 : decode prog_7_method_45_code 32 = .ok (.iadd, 1) := by decide +kernel
theorem smd_M_act_33 : decode prog_7_method_45_code 33 = .ok (.istore_n 3, 1) := by decide +kernel
theorem smd_M_act_34 : decode prog_7_method_45_code 34 = .ok (.aload_n 0, 1) := by decide +kernel
theorem smd_M_act_35 : decode prog_7_method_45_code 35 = .ok (.getfield 7, 3) := by decide +kernel
theorem smd_M_act_38 : decode prog_7_method_45_code 38 = .ok (.iload_n 3, 1) := by decide +kernel
theorem smd_M_act_39 : decode prog_7_method_45_code 39 = .ok (.iaload, 1) := by decide +kernel
theorem smd_M_act_40 : decode prog_7_method_45_code 40 = .ok (.istore 4, 2) := by decide +kernel
theorem smd_M_act_42 : decode prog_7_method_45_code 42 = .ok (.aload_n 0, 1) := by decide +kernel
theorem smd_M_act_43 : decode prog_7_method_45_code 43 = .ok (.getfield 7, 3) := by decide +kernel
theorem smd_M_act_46 : decode prog_7_method_45_code 46 = .ok (.iload_n 3, 1) := by decide +kernel
theorem smd_M_act_47 : decode prog_7_method_45_code 47 = .ok (.iconst 1, 1) := by decide +kernel
theorem smd_M_act_48 : decode prog_7_method_45_code 48 = .ok (.iadd, 1) := by decide +kernel
theorem smd_M_act_49 : decode prog_7_method_45_code 49 = .ok (.iaload, 1) := by decide +kernel
theorem smd_M_act_50 : decode prog_7_method_45_code 50 = .ok (.istore 5, 2) := by decide +kernel
theorem smd_M_act_52 : decode prog_7_method_45_code 52 = .ok (.aload_n 0, 1) := by decide +kernel
theorem smd_M_act_53 : decode prog_7_method_45_code 53 = .ok (.getfield 7, 3) := by decide +kernel
theorem smd_M_act_56 : decode prog_7_method_45_code 56 = .ok (.iload_n 3, 1) := by decide +kernel
theorem smd_M_act_57 : decode prog_7_method_45_code 57 = .ok (.iconst 2, 1) := by decide +kernel
theorem smd_M_act_58 : decode prog_7_method_45_code 58 = .ok (.iadd, 1) := by decide +kernel
theorem smd_M_act_59 : decode prog_7_method_45_code 59 = .ok (.iaload, 1) := by decide +kernel
theorem smd_M_act_60 : decode prog_7_method_45_code 60 = .ok (.istore 6, 2) := by decide +kernel
theorem smd_M_act_62 : decode prog_7_method_45_code 62 = .ok (.aload_n 0, 1) := by decide +kernel
theorem smd_M_act_63 : decode prog_7_method_45_code 63 = .ok (.getfield 7, 3) := by decide +kernel
theorem smd_M_act_66 : decode prog_7_method_45_code 66 = .ok (.iload_n 3, 1) := by decide +kernel
theorem smd_M_act_67 : decode prog_7_method_45_code 67 = .ok (.iconst 3, 1) := by decide +kernel
theorem smd_M_act_68 : decode prog_7_method_45_code 68 = .ok (.iadd, 1) := by decide +kernel
theorem smd_M_act_69 : decode prog_7_method_45_code 69 = .ok (.iaload, 1) := by decide +kernel
theorem smd_M_act_70 : decode prog_7_method_45_code 70 = .ok (.istore 7, 2) := by decide +kernel
theorem smd_M_act_72 : decode prog_7_method_45_code 72 = .ok (.iload_n 2, 1) := by decide +kernel
theorem smd_M_act_73 : decode prog_7_method_45_code 73 = .ok (.iconst 2, 1) := by decide +kernel
theorem smd_M_act_74 : decode prog_7_method_45_code 74 = .ok (.iadd, 1) := by decide +kernel
theorem smd_M_act_75 : decode prog_7_method_45_code 75 = .ok (.istore 8, 2) := by decide +kernel
theorem smd_M_act_77 : decode prog_7_method_45_code 77 = .ok (.iload 4, 2) := by decide +kernel
theorem smd_M_act_79 : decode prog_7_method_45_code 79 = .ok (.bipush 11, 2) := by decide +kernel
theorem smd_M_act_81 : decode prog_7_method_45_code 81 = .ok (.if_icmp .ne 14, 3) := by decide +kernel
theorem smd_M_act_84 : decode prog_7_method_45_code 84 = .ok (.aload_n 0, 1) := by decide +kernel
theorem smd_M_act_85 : decode prog_7_method_45_code 85 = .ok (.getfield 53, 3) := by decide +kernel
theorem smd_M_act_88 : decode prog_7_method_45_code 88 = .ok (.iload_n 1, 1) := by decide +kernel
theorem smd_M_act_89 : decode prog_7_method_45_code 89 = .ok (.iaload, 1) := by decide +kernel
theorem smd_M_act_90 : decode prog_7_method_45_code 90 = .ok (.ifCond .ne 5, 3) := by decide +kernel
theorem smd_M_act_93 : decode prog_7_method_45_code 93 = .ok (.iconst 1, 1) := by decide +kernel
theorem smd_M_act_94 : decode prog_7_method_45_code 94 = .ok (.ireturn, 1) := by decide +kernel
theorem smd_M_act_95 : decode prog_7_method_45_code 95 = .ok (.aload_n 0, 1) := by decide +kernel
theorem smd_M_act_96 : decode prog_7_method_45_code 96 = .ok (.getfield 50, 3) := by decide +kernel
theorem smd_M_act_99 : decode prog_7_method_45_code 99 = .ok (.iload_n 2, 1) := by decide +kernel
theorem smd_M_act_100 : decode prog_7_method_45_code 100 = .ok (.iconst 1, 1) := by decide +kernel
theorem smd_M_act_101 : decode prog_7_method_45_code 101 = .ok (.iadd, 1) := by decide +kernel
theorem smd_M_act_102 : decode prog_7_method_45_code 102 = .ok (.dup2, 1) := by decide +kernel
theorem smd_M_act_103 : decode prog_7_method_45_code 103 = .ok (.iaload, 1) := by decide +kernel
theorem smd_M_act_104 : decode prog_7_method_45_code 104 = .ok (.iconst 1, 1) := by decide +kernel
theorem smd_M_act_105 : decode prog_7_method_45_code 105 = .ok (.iadd, 1) := by decide +kernel
theorem smd_M_act_106 : decode prog_7_method_45_code 106 = .ok (.iastore, 1) := by decide +kernel
theorem smd_M_act_107 : decode prog_7_method_45_code 107 = .ok (.iload 4, 2) := by decide +kernel
theorem smd_M_act_109 : decode prog_7_method_45_code 109 = .ok (.tableswitch 306 0 11 #[63, 79, 93, 126, 159, 184, 222, 235, 235, 251, 270, 289], 63) := by decide +kernel
theorem smd_M_act_172 : decode prog_7_method_45_code 172 = .ok (.aload_n 0, 1) := by decide +kernel
theorem smd_M_act_173 : decode prog_7_method_45_code 173 = .ok (.iload_n 1, 1) := by decide +kernel
theorem smd_M_act_174 : decode prog_7_method_45_code 174 = .ok (.aload_n 0, 1) := by decide +kernel
theorem smd_M_act_175 : decode prog_7_method_45_code 175 = .ok (.getfield 50, 3) := by decide +kernel
theorem smd_M_act_178 : decode prog_7_method_45_code 178 = .ok (.iload 8, 2) := by decide +kernel
theorem smd_M_act_180 : decode prog_7_method_45_code 180 = .ok (.iload 5, 2) := by decide +kernel
theorem smd_M_act_182 : decode prog_7_method_45_code 182 = .ok (.iadd, 1) := by decide +kernel
theorem smd_M_act_183 : decode prog_7_method_45_code 183 = .ok (.iaload, 1) := by decide +kernel
theorem smd_M_act_184 : decode prog_7_method_45_code 184 = .ok (.invokevirtual 146, 3) := by decide +kernel
theorem smd_M_act_187 : decode prog_7_method_45_code 187 = .ok (.ireturn, 1) := by decide +kernel
theorem smd_M_act_188 : decode prog_7_method_45_code 188 = .ok (.aload_n 0, 1) := by decide +kernel
theorem smd_M_act_189 : decode prog_7_method_45_code 189 = .ok (.getfield 50, 3) := by decide +kernel
theorem smd_M_act_192 : decode prog_7_method_45_code 192 = .ok (.iload 8, 2) := by decide +kernel
theorem smd_M_act_194 : decode prog_7_method_45_code 194 = .ok (.iload 5, 2) := by decide +kernel
theorem smd_M_act_196 : decode prog_7_method_45_code 196 = .ok (.iadd, 1) := by decide +kernel
theorem smd_M_act_197 : decode prog_7_method_45_code 197 = .ok (.iload 6, 2) := by decide +kernel
theorem smd_M_act_199 : decode prog_7_method_45_code 199 = .ok (.iastore, 1) := by decide +kernel
theorem smd_M_act_200 : decode prog_7_method_45_code 200 = .ok (.iconst 0, 1) := by decide +kernel
theorem smd_M_act_201 : decode prog_7_method_45_code 201 = .ok (.ireturn, 1) := by decide +kernel
theorem smd_M_act_202 : decode prog_7_method_45_code 202 = .ok (.aload_n 0, 1) := by decide +kernel
theorem smd_M_act_203 : decode prog_7_method_45_code 203 = .ok (.getfield 50, 3) := by decide +kernel
theorem smd_M_act_206 : decode prog_7_method_45_code 206 = .ok (.iload 8, 2) := by decide +kernel
theorem smd_M_act_208 : decode prog_7_method_45_code 208 = .ok (.iload 5, 2) := by decide +kernel
theorem smd_M_act_210 : decode prog_7_method_45_code 210 = .ok (.iadd, 1) := by decide +kernel
theorem smd_M_act_211 : decode prog_7_method_45_code 211 = .ok (.aload_n 0, 1) := by decide +kernel
theorem smd_M_act_212 : decode prog_7_method_45_code 212 = .ok (.getfield 50, 3) := by decide +kernel
theorem smd_M_act_215 : decode prog_7_method_45_code 215 = .ok (.iload 8, 2) := by decide +kernel
theorem smd_M_act_217 : decode prog_7_method_45_code 217 = .ok (.iload 6, 2) := by decide +kernel
theorem smd_M_act_219 : decode prog_7_method_45_code 219 = .ok (.iadd, 1) := by decide +kernel
theorem smd_M_act_220 : decode prog_7_method_45_code 220 = .ok (.iaload, 1) := by decide +kernel
theorem smd_M_act_221 : decode prog_7_method_45_code 221 = .ok (.aload_n 0, 1) := by decide +kernel
theorem smd_M_act_222 : decode prog_7_method_45_code 222 = .ok (.getfield 50, 3) := by decide +kernel
theorem smd_M_act_225 : decode prog_7_method_45_code 225 = .ok (.iload 8, 2) := by decide +kernel
theorem smd_M_act_227 : decode prog_7_method_45_code 227 = .ok (.iload 7, 2) := by decide +kernel
theorem smd_M_act_229 : decode prog_7_method_45_code 229 = .ok (.iadd, 1) := by decide +kernel
theorem smd_M_act_230 : decode prog_7_method_45_code 230 = .ok (.iaload, 1) := by decide +kernel
theorem smd_M_act_231 : decode prog_7_method_45_code 231 = .ok (.iadd, 1) := by decide +kernel
theorem smd_M_act_232 : decode prog_7_method_45_code 232 = .ok (.iastore, 1) := by decide +kernel
theorem smd_M_act_233 : decode prog_7_method_45_code 233 = .ok (.iconst 0, 1) := by decide +kernel
theorem smd_M_act_234 : decode prog_7_method_45_code 234 = .ok (.ireturn, 1) := by decide +kernel
theorem smd_M_act_235 : decode prog_7_method_45_code 235 = .ok (.aload_n 0, 1) := by decide +kernel
theorem smd_M_act_236 : decode prog_7_method_45_code 236 = .ok (.getfield 50, 3) := by decide +kernel
theorem smd_M_act_239 : decode prog_7_method_45_code 239 = .ok (.iload 8, 2) := by decide +kernel
theorem smd_M_act_241 : decode prog_7_method_45_code 241 = .ok (.iload 5, 2) := by decide +kernel
theorem smd_M_act_243 : decode prog_7_method_45_code 243 = .ok (.iadd, 1) := by decide +kernel
theorem smd_M_act_244 : decode prog_7_method_45_code 244 = .ok (.aload_n 0, 1) := by decide +kernel
theorem smd_M_act_245 : decode prog_7_method_45_code 245 = .ok (.getfield 50, 3) := by decide +kernel
theorem smd_M_act_248 : decode prog_7_method_45_code 248 = .ok (.iload 8, 2) := by decide +kernel
theorem smd_M_act_250 : decode prog_7_method_45_code 250 = .ok (.iload 6, 2) := by decide +kernel
theorem smd_M_act_252 : decode prog_7_method_45_code 252 = .ok (.iadd, 1) := by decide +kernel
theorem smd_M_act_253 : decode prog_7_method_45_code 253 = .ok (.iaload, 1) := by decide +kernel
theorem smd_M_act_254 : decode prog_7_method_45_code 254 = .ok (.aload_n 0, 1) := by decide +kernel
theorem smd_M_act_255 : decode prog_7_method_45_code 255 = .ok (.getfield 50, 3) := by decide +kernel
theorem smd_M_act_258 : decode prog_7_method_45_code 258 = .ok (.iload 8, 2) := by decide +kernel
theorem smd_M_act_260 : decode prog_7_method_45_code 260 = .ok (.iload 7, 2) := by decide +kernel
theorem smd_M_act_262 : decode prog_7_method_45_code 262 = .ok (.iadd, 1) := by decide +kernel
theorem smd_M_act_263 : decode prog_7_method_45_code 263 = .ok (.iaload, 1) := by decide +kernel
theorem smd_M_act_264 : decode prog_7_method_45_code 264 = .ok (.isub, 1) := by decide +kernel
theorem smd_M_act_265 : decode prog_7_method_45_code 265 = .ok (.iastore, 1) := by decide +kernel
theorem smd_M_act_266 : decode prog_7_method_45_code 266 = .ok (.iconst 0, 1) := by decide +kernel
theorem smd_M_act_267 : decode prog_7_method_45_code 267 = .ok (.ireturn, 1) := by decide +kernel
theorem smd_M_act_268 : decode prog_7_method_45_code 268 = .ok (.aload_n 0, 1) := by decide +kernel
theorem smd_M_act_269 : decode prog_7_method_45_code 269 = .ok (.getfield 50, 3) := by decide +kernel
theorem smd_M_act_272 : decode prog_7_method_45_code 272 = .ok (.iload 8, 2) := by decide +kernel
theorem smd_M_act_274 : decode prog_7_method_45_code 274 = .ok (.iload 5, 2) := by decide +kernel
theorem smd_M_act_276 : decode prog_7_method_45_code 276 = .ok (.iadd, 1) := by decide +kernel
theorem smd_M_act_277 : decode prog_7_method_45_code 277 = .ok (.iaload, 1) := by decide +kernel
theorem smd_M_act_278 : decode prog_7_method_45_code 278 = .ok (.ifCond .ne 13, 3) := by decide +kernel
theorem smd_M_act_281 : decode prog_7_method_45_code 281 = .ok (.aload_n 0, 1) := by decide +kernel
theorem smd_M_act_282 : decode prog_7_method_45_code 282 = .ok (.getfield 50, 3) := by decide +kernel
theorem smd_M_act_285 : decode prog_7_method_45_code 285 = .ok (.iload_n 2, 1) := by decide +kernel
theorem smd_M_act_286 : decode prog_7_method_45_code 286 = .ok (.iconst 1, 1) := by decide +kernel
theorem smd_M_act_287 : decode prog_7_method_45_code 287 = .ok (.iadd, 1) := by decide +kernel
theorem smd_M_act_288 : decode prog_7_method_45_code 288 = .ok (.iload 6, 2) := by decide +kernel
theorem smd_M_act_290 : decode prog_7_method_45_code 290 = .ok (.iastore, 1) := by decide +kernel
theorem smd_M_act_291 : decode prog_7_method_45_code 291 = .ok (.iconst 0, 1) := by decide +kernel
theorem smd_M_act_292 : decode prog_7_method_45_code 292 = .ok (.ireturn, 1) := by decide +kernel
theorem smd_M_act_293 : decode prog_7_method_45_code 293 = .ok (.aload_n 0, 1) := by decide +kernel
theorem smd_M_act_294 : decode prog_7_method_45_code 294 = .ok (.getfield 47, 3) := by decide +kernel
theorem smd_M_act_297 : decode prog_7_method_45_code 297 = .ok (.iload_n 1, 1) := by decide +kernel
theorem smd_M_act_298 : decode prog_7_method_45_code 298 = .ok (.iaload, 1) := by decide +kernel
theorem smd_M_act_299 : decode prog_7_method_45_code 299 = .ok (.bipush 6, 2) := by decide +kernel
theorem smd_M_act_301 : decode prog_7_method_45_code 301 = .ok (.if_icmp .ne 9, 3) := by decide +kernel
theorem smd_M_act_304 : decode prog_7_method_45_code 304 = .ok (.aload_n 0, 1) := by decide +kernel
theorem smd_M_act_305 : decode prog_7_method_45_code 305 = .ok (.iload_n 1, 1) := by decide +kernel
theorem smd_M_act_306 : decode prog_7_method_45_code 306 = .ok (.invokevirtual 149, 3) := by decide +kernel
theorem smd_M_act_309 : decode prog_7_method_45_code 309 = .ok (.ireturn, 1) := by decide +kernel
theorem smd_M_act_310 : decode prog_7_method_45_code 310 = .ok (.aload_n 0, 1) := by decide +kernel
theorem smd_M_act_311 : decode prog_7_method_45_code 311 = .ok (.iload_n 1, 1) := by decide +kernel
theorem smd_M_act_312 : decode prog_7_method_45_code 312 = .ok (.iload 6, 2) := by decide +kernel
theorem smd_M_act_314 : decode prog_7_method_45_code 314 = .ok (.aload_n 0, 1) := by decide +kernel
theorem smd_M_act_315 : decode prog_7_method_45_code 315 = .ok (.getfield 50, 3) := by decide +kernel
theorem smd_M_act_318 : decode prog_7_method_45_code 318 = .ok (.iload 8, 2) := by decide +kernel
theorem smd_M_act_320 : decode prog_7_method_45_code 320 = .ok (.iload 7, 2) := by decide +kernel
theorem smd_M_act_322 : decode prog_7_method_45_code 322 = .ok (.iadd, 1) := by decide +kernel
theorem smd_M_act_323 : decode prog_7_method_45_code 323 = .ok (.iaload, 1) := by decide +kernel
theorem smd_M_act_324 : decode prog_7_method_45_code 324 = .ok (.iload 5, 2) := by decide +kernel
theorem smd_M_act_326 : decode prog_7_method_45_code 326 = .ok (.invokevirtual 142, 3) := by decide +kernel
theorem smd_M_act_329 : decode prog_7_method_45_code 329 = .ok (.iconst 0, 1) := by decide +kernel
theorem smd_M_act_330 : decode prog_7_method_45_code 330 = .ok (.ireturn, 1) := by decide +kernel
theorem smd_M_act_331 : decode prog_7_method_45_code 331 = .ok (.aload_n 0, 1) := by decide +kernel
theorem smd_M_act_332 : decode prog_7_method_45_code 332 = .ok (.iload_n 1, 1) := by decide +kernel
theorem smd_M_act_333 : decode prog_7_method_45_code 333 = .ok (.iload 8, 2) := by decide +kernel
theorem smd_M_act_335 : decode prog_7_method_45_code 335 = .ok (.iload 5, 2) := by decide +kernel
theorem smd_M_act_337 : decode prog_7_method_45_code 337 = .ok (.iadd, 1) := by decide +kernel
theorem smd_M_act_338 : decode prog_7_method_45_code 338 = .ok (.iload 6, 2) := by decide +kernel
theorem smd_M_act_340 : decode prog_7_method_45_code 340 = .ok (.invokevirtual 152, 3) := by decide +kernel
theorem smd_M_act_343 : decode prog_7_method_45_code 343 = .ok (.ireturn, 1) := by decide +kernel
theorem smd_M_act_344 : decode prog_7_method_45_code 344 = .ok (.aload_n 0, 1) := by decide +kernel
theorem smd_M_act_345 : decode prog_7_method_45_code 345 = .ok (.iload_n 1, 1) := by decide +kernel
theorem smd_M_act_346 : decode prog_7_method_45_code 346 = .ok (.iload 4, 2) := by decide +kernel
theorem smd_M_act_348 : decode prog_7_method_45_code 348 = .ok (.iload 8, 2) := by decide +kernel
theorem smd_M_act_350 : decode prog_7_method_45_code 350 = .ok (.iload 5, 2) := by decide +kernel
theorem smd_M_act_352 : decode prog_7_method_45_code 352 = .ok (.iload 6, 2) := by decide +kernel
theorem smd_M_act_354 : decode prog_7_method_45_code 354 = .ok (.iload 7, 2) := by decide +kernel
theorem smd_M_act_356 : decode prog_7_method_45_code 356 = .ok (.invokevirtual 156, 3) := by decide +kernel
theorem smd_M_act_359 : decode prog_7_method_45_code 359 = .ok (.ireturn, 1) := by decide +kernel
theorem smd_M_act_360 : decode prog_7_method_45_code 360 = .ok (.aload_n 0, 1) := by decide +kernel
theorem smd_M_act_361 : decode prog_7_method_45_code 361 = .ok (.getfield 50, 3) := by decide +kernel
theorem smd_M_act_364 : decode prog_7_method_45_code 364 = .ok (.iload 8, 2) := by decide +kernel
theorem smd_M_act_366 : decode prog_7_method_45_code 366 = .ok (.iload 5, 2) := by decide +kernel
theorem smd_M_act_368 : decode prog_7_method_45_code 368 = .ok (.iadd, 1) := by decide +kernel
theorem smd_M_act_369 : decode prog_7_method_45_code 369 = .ok (.aload_n 0, 1) := by decide +kernel
theorem smd_M_act_370 : decode prog_7_method_45_code 370 = .ok (.getfield 26, 3) := by decide +kernel
theorem smd_M_act_373 : decode prog_7_method_45_code 373 = .ok (.iload 6, 2) := by decide +kernel
theorem smd_M_act_375 : decode prog_7_method_45_code 375 = .ok (.iaload, 1) := by decide +kernel
theorem smd_M_act_376 : decode prog_7_method_45_code 376 = .ok (.iastore, 1) := by decide +kernel
theorem smd_M_act_377 : decode prog_7_method_45_code 377 = .ok (.iconst 0, 1) := by decide +kernel
theorem smd_M_act_378 : decode prog_7_method_45_code 378 = .ok (.ireturn, 1) := by decide +kernel
theorem smd_M_act_379 : decode prog_7_method_45_code 379 = .ok (.aload_n 0, 1) := by decide +kernel
theorem smd_M_act_380 : decode prog_7_method_45_code 380 = .ok (.getfield 26, 3) := by decide +kernel
theorem smd_M_act_383 : decode prog_7_method_45_code 383 = .ok (.iload 6, 2) := by decide +kernel
theorem smd_M_act_385 : decode prog_7_method_45_code 385 = .ok (.aload_n 0, 1) := by decide +kernel
theorem smd_M_act_386 : decode prog_7_method_45_code 386 = .ok (.getfield 50, 3) := by decide +kernel
theorem smd_M_act_389 : decode prog_7_method_45_code 389 = .ok (.iload 8, 2) := by decide +kernel
theorem smd_M_act_391 : decode prog_7_method_45_code 391 = .ok (.iload 5, 2) := by decide +kernel
theorem smd_M_act_393 : decode prog_7_method_45_code 393 = .ok (.iadd, 1) := by decide +kernel
theorem smd_M_act_394 : decode prog_7_method_45_code 394 = .ok (.iaload, 1) := by decide +kernel
theorem smd_M_act_395 : decode prog_7_method_45_code 395 = .ok (.iastore, 1) := by decide +kernel
theorem smd_M_act_396 : decode prog_7_method_45_code 396 = .ok (.iconst 0, 1) := by decide +kernel
theorem smd_M_act_397 : decode prog_7_method_45_code 397 = .ok (.ireturn, 1) := by decide +kernel
theorem smd_M_act_398 : decode prog_7_method_45_code 398 = .ok (.aload_n 0, 1) := by decide +kernel
theorem smd_M_act_399 : decode prog_7_method_45_code 399 = .ok (.getfield 50, 3) := by decide +kernel
theorem smd_M_act_402 : decode prog_7_method_45_code 402 = .ok (.iload 8, 2) := by decide +kernel
theorem smd_M_act_404 : decode prog_7_method_45_code 404 = .ok (.iload 5, 2) := by decide +kernel
theorem smd_M_act_406 : decode prog_7_method_45_code 406 = .ok (.iadd, 1) := by decide +kernel
theorem smd_M_act_407 : decode prog_7_method_45_code 407 = .ok (.aload_n 0, 1) := by decide +kernel
theorem smd_M_act_408 : decode prog_7_method_45_code 408 = .ok (.iload_n 1, 1) := by decide +kernel
theorem smd_M_act_409 : decode prog_7_method_45_code 409 = .ok (.invokevirtual 160, 3) := by decide +kernel
theorem smd_M_act_412 : decode prog_7_method_45_code 412 = .ok (.iastore, 1) := by decide +kernel
theorem smd_M_act_413 : decode prog_7_method_45_code 413 = .ok (.iconst 0, 1) := by decide +kernel
theorem smd_M_act_414 : decode prog_7_method_45_code 414 = .ok (.ireturn, 1) := by decide +kernel
theorem smd_M_act_415 : decode prog_7_method_45_code 415 = .ok (.iconst 0, 1) := by decide +kernel
theorem smd_M_act_416 : decode prog_7_method_45_code 416 = .ok (.ireturn, 1) := by decide +kernel
theorem smd_M_create_0 : decode prog_7_method_46_code 0 = .ok (.aload_n 0, 1) := by decide +kernel
theorem smd_M_create_1 : decode prog_7_method_46_code 1 = .ok (.iload_n 3, 1) := by decide +kernel
theorem smd_M_create_2 : decode prog_7_method_46_code 2 = .ok (.invokevirtual 163, 3) := by decide +kernel
theorem smd_M_create_5 : decode prog_7_method_46_code 5 = .ok (.istore 4, 2) := by decide +kernel
theorem smd_M_create_7 : decode prog_7_method_46_code 7 = .ok (.iload 4, 2) := by decide +kernel
theorem smd_M_create_9 : decode prog_7_method_46_code 9 = .ok (.ifCond .ne 9, 3) := by decide +kernel
theorem smd_M_create_12 : decode prog_7_method_46_code 12 = .ok (.aload_n 0, 1) := by decide +kernel
theorem smd_M_create_13 : decode prog_7_method_46_code 13 = .ok (.iload_n 1, 1) := by decide +kernel
theorem smd_M_create_14 : decode prog_7_method_46_code 14 = .ok (.invokevirtual 149, 3) := by decide +kernel
theorem smd_M_create_17 : decode prog_7_method_46_code 17 = .ok (.ireturn, 1) := by decide +kernel
theorem smd_M_create_18 : decode prog_7_method_46_code 18 = .ok (.aload_n 0, 1) := by decide +kernel
theorem smd_M_create_19 : decode prog_7_method_46_code 19 = .ok (.getfield 50, 3) := by decide +kernel
theorem smd_M_create_22 : decode prog_7_method_46_code 22 = .ok (.iload_n 2, 1) := by decide +kernel
theorem smd_M_create_23 : decode prog_7_method_46_code 23 = .ok (.iload 4, 2) := by decide +kernel
theorem smd_M_create_25 : decode prog_7_method_46_code 25 = .ok (.iastore, 1) := by decide +kernel
theorem smd_M_create_26 : decode prog_7_method_46_code 26 = .ok (.iconst 0, 1) := by decide +kernel
theorem smd_M_create_27 : decode prog_7_method_46_code 27 = .ok (.ireturn, 1) := by decide +kernel
theorem smd_M_access_0 : decode prog_7_method_47_code 0 = .ok (.iload_n 2, 1) := by decide +kernel
theorem smd_M_access_1 : decode prog_7_method_47_code 1 = .ok (.bipush 7, 2) := by decide +kernel
theorem smd_M_access_3 : decode prog_7_method_47_code 3 = .ok (.if_icmp .ne 15, 3) := by decide +kernel
theorem smd_M_access_6 : decode prog_7_method_47_code 6 = .ok (.aload_n 0, 1) := by decide +kernel
theorem smd_M_access_7 : decode prog_7_method_47_code 7 = .ok (.getfield 50, 3) := by decide +kernel
theorem smd_M_access_10 : decode prog_7_method_47_code 10 = .ok (.iload_n 3, 1) := by decide +kernel
theorem smd_M_access_11 : decode prog_7_method_47_code 11 = .ok (.iload 5, 2) := by decide +kernel
theorem smd_M_access_13 : decode prog_7_method_47_code 13 = .ok (.iadd, 1) := by decide +kernel
theorem smd_M_access_14 : decode prog_7_method_47_code 14 = .ok (.iaload, 1) := by decide +kernel
theorem smd_M_access_15 : decode prog_7_method_47_code 15 = .ok (.goto 12, 3) := by decide +kernel
theorem smd_M_access_18 : decode prog_7_method_47_code 18 = .ok (.aload_n 0, 1) := by decide +kernel
theorem smd_M_access_19 : decode prog_7_method_47_code 19 = .ok (.getfield 50, 3) := by decide +kernel
theorem smd_M_access_22 : decode prog_7_method_47_code 22 = .ok (.iload_n 3, 1) := by decide +kernel
theorem smd_M_access_23 : decode prog_7_method_47_code 23 = .ok (.iload 4, 2) := by decide +kernel
theorem smd_M_access_25 : decode prog_7_method_47_code 25 = .ok (.iadd, 1) := by decide +kernel
theorem smd_M_access_26 : decode prog_7_method_47_code 26 = .ok (.iaload, 1) := by decide +kernel
theorem smd_M_access_27 : decode prog_7_method_47_code 27 = .ok (.istore 7, 2) := by decide +kernel
theorem smd_M_access_29 : decode prog_7_method_47_code 29 = .ok (.aload_n 0, 1) := by decide +kernel
theorem smd_M_access_30 : decode prog_7_method_47_code 30 = .ok (.iload 7, 2) := by decide +kernel
theorem smd_M_access_32 : decode prog_7_method_47_code 32 = .ok (.invokevirtual 110, 3) := by decide +kernel
theorem smd_M_access_35 : decode prog_7_method_47_code 35 = .ok (.ifCond .eq 17, 3) := by decide +kernel
theorem smd_M_access_38 : decode prog_7_method_47_code 38 = .ok (.aload_n 0, 1) := by decide +kernel
theorem smd_M_access_39 : decode prog_7_method_47_code 39 = .ok (.getfield 29, 3) := by decide +kernel
theorem smd_M_access_42 : decode prog_7_method_47_code 42 = .ok (.iload 7, 2) := by decide +kernel
theorem smd_M_access_44 : decode prog_7_method_47_code 44 = .ok (.iaload, 1) := by decide +kernel
theorem smd_M_access_45 : decode prog_7_method_47_code 45 = .ok (.iload 6, 2) := by decide +kernel
theorem smd_M_access_47 : decode prog_7_method_47_code 47 = .ok (.iconst 4, 1) := by decide +kernel
theorem smd_M_access_48 : decode prog_7_method_47_code 48 = .ok (.idiv, 1) := by decide +kernel
theorem smd_M_access_49 : decode prog_7_method_47_code 49 = .ok (.if_icmp .eq 9, 3) := by decide +kernel
theorem smd_M_access_52 : decode prog_7_method_47_code 52 = .ok (.aload_n 0, 1) := by decide +kernel
theorem smd_M_access_53 : decode prog_7_method_47_code 53 = .ok (.iload_n 1, 1) := by decide +kernel
theorem smd_M_access_54 : decode prog_7_method_47_code 54 = .ok (.invokevirtual 149, 3) := by decide +kernel
theorem smd_M_access_57 : decode prog_7_method_47_code 57 = .ok (.ireturn, 1) := by decide +kernel
theorem smd_M_access_58 : decode prog_7_method_47_code 58 = .ok (.iload_n 2, 1) := by decide +kernel
theorem smd_M_access_59 : decode prog_7_method_47_code 59 = .ok (.bipush 7, 2) := by decide +kernel
theorem smd_M_access_61 : decode prog_7_method_47_code 61 = .ok (.if_icmp .ne 29, 3) := by decide +kernel
theorem smd_M_access_64 : decode prog_7_method_47_code 64 = .ok (.aload_n 0, 1) := by decide +kernel
theorem smd_M_access_65 : decode prog_7_method_47_code 65 = .ok (.getfield 50, 3) := by decide +kernel
theorem smd_M_access_68 : decode prog_7_method_47_code 68 = .ok (.iload_n 3, 1) := by decide +kernel
theorem smd_M_access_69 : decode prog_7_method_47_code 69 = .ok (.iload 4, 2) := by decide +kernel
theorem smd_M_access_71 : decode prog_7_method_47_code 71 = .ok (.iadd, 1) := by decide +kernel
theorem smd_M_access_72 : decode prog_7_method_47_code 72 = .ok (.aload_n 0, 1) := by decide +kernel
theorem smd_M_access_73 : decode prog_7_method_47_code 73 = .ok (.getfield 32, 3) := by decide +kernel
theorem smd_M_access_76 : decode prog_7_method_47_code 76 = .ok (.iconst 4, 1) := by decide +kernel
theorem smd_M_access_77 : decode prog_7_method_47_code 77 = .ok (.iload 7, 2) := by decide +kernel
theorem smd_M_access_79 : decode prog_7_method_47_code 79 = .ok (.imul, 1) := by decide +kernel
theorem smd_M_access_80 : decode prog_7_method_47_code 80 = .ok (.iload 6, 2) := by decide +kernel
theorem smd_M_access_82 : decode prog_7_method_47_code 82 = .ok (.iconst 4, 1) := by decide +kernel
theorem smd_M_access_83 : decode prog_7_method_47_code 83 = .ok (.irem, 1) := by decide +kernel
theorem smd_M_access_84 : decode prog_7_method_47_code 84 = .ok (.iadd, 1) := by decide +kernel
theorem smd_M_access_85 : decode prog_7_method_47_code 85 = .ok (.iaload, 1) := by decide +kernel
theorem smd_M_access_86 : decode prog_7_method_47_code 86 = .ok (.iastore, 1) := by decide +kernel
theorem smd_M_access_87 : decode prog_7_method_47_code 87 = .ok (.goto 26, 3) := by decide +kernel
theorem smd_M_access_90 : decode prog_7_method_47_code 90 = .ok (.aload_n 0, 1) := by decide +kernel
theorem smd_M_access_91 : decode prog_7_method_47_code 91 = .ok (.getfield 32, 3) := by decide +kernel
theorem smd_M_access_94 : decode prog_7_method_47_code 94 = .ok (.iconst 4, 1) := by decide +kernel
theorem smd_M_access_95 : decode prog_7_method_47_code 95 = .ok (.iload 7, 2) := by decide +kernel
theorem smd_M_access_97 : decode prog_7_method_47_code 97 = .ok (.imul, 1) := by decide +kernel
theorem smd_M_access_98 : decode prog_7_method_47_code 98 = .ok (.iload 6, 2) := by decide +kernel
theorem smd_M_access_100 : decode prog_7_method_47_code 100 = .ok (.iconst 4, 1) := by decide +kernel
theorem smd_M_access_101 : decode prog_7_method_47_code 101 = .ok (.irem, 1) := by decide +kernel
theorem smd_M_access_102 : decode prog_7_method_47_code 102 = .ok (.iadd, 1) := by decide +kernel
theorem smd_M_access_103 : decode prog_7_method_47_code 103 = .ok (.aload_n 0, 1) := by decide +kernel
theorem smd_M_access_104 : decode prog_7_method_47_code 104 = .ok (.getfield 50, 3) := by decide +kernel
theorem smd_M_access_107 : decode prog_7_method_47_code 107 = .ok (.iload_n 3, 1) := by decide +kernel
theorem smd_M_access_108 : decode prog_7_method_47_code 108 = .ok (.iload 5, 2) := by decide +kernel
theorem smd_M_access_110 : decode prog_7_method_47_code 110 = .ok (.iadd, 1) := by decide +kernel
theorem smd_M_access_111 : decode prog_7_method_47_code 111 = .ok (.iaload, 1) := by decide +kernel
theorem smd_M_access_112 : decode prog_7_method_47_code 112 = .ok (.iastore, 1) := by decide +kernel
theorem smd_M_access_113 : decode prog_7_method_47_code 113 = .ok (.iconst 0, 1) := by decide +kernel
theorem smd_M_access_114 : decode prog_7_method_47_code 114 = .ok (.ireturn, 1) := by decide +kernel
theorem smd_M_step_0 : decode prog_7_method_48_code 0 = .ok (.aload_n 0, 1) := by decide +kernel
theorem smd_M_step_1 : decode prog_7_method_48_code 1 = .ok (.iload_n 1, 1) := by decide +kernel
theorem smd_M_step_2 : decode prog_7_method_48_code 2 = .ok (.invokevirtual 166, 3) := by decide +kernel
theorem smd_M_step_5 : decode prog_7_method_48_code 5 = .ok (.ifCond .eq 15, 3) := by decide +kernel
theorem smd_M_step_8 : decode prog_7_method_48_code 8 = .ok (.iload_n 2, 1) := by decide +kernel
theorem smd_M_step_9 : decode prog_7_method_48_code 9 = .ok (.iconst 1, 1) := by decide +kernel
theorem smd_M_step_10 : decode prog_7_method_48_code 10 = .ok (.if_icmp .lt 10, 3) := by decide +kernel
theorem smd_M_step_13 : decode prog_7_method_48_code 13 = .ok (.iload_n 2, 1) := by decide +kernel
theorem smd_M_step_14 : decode prog_7_method_48_code 14 = .ok (.sipush 200, 3) := by decide +kernel
theorem smd_M_step_17 : decode prog_7_method_48_code 17 = .ok (.if_icmp .le 5, 3) := by decide +kernel
theorem smd_M_step_20 : decode prog_7_method_48_code 20 = .ok (.iconst (-1), 1) := by decide +kernel
theorem smd_M_step_21 : decode prog_7_method_48_code 21 = .ok (.ireturn, 1) := by decide +kernel
theorem smd_M_step_22 : decode prog_7_method_48_code 22 = .ok (.aload_n 0, 1) := by decide +kernel
theorem smd_M_step_23 : decode prog_7_method_48_code 23 = .ok (.getfield 41, 3) := by decide +kernel
theorem smd_M_step_26 : decode prog_7_method_48_code 26 = .ok (.iload_n 1, 1) := by decide +kernel
theorem smd_M_step_27 : decode prog_7_method_48_code 27 = .ok (.iaload, 1) := by decide +kernel
theorem smd_M_step_28 : decode prog_7_method_48_code 28 = .ok (.iconst 1, 1) := by decide +kernel
theorem smd_M_step_29 : decode prog_7_method_48_code 29 = .ok (.if_icmp .ne 7, 3) := by decide +kernel
theorem smd_M_step_32 : decode prog_7_method_48_code 32 = .ok (.iconst 0, 1) := by decide +kernel
theorem smd_M_step_33 : decode prog_7_method_48_code 33 = .ok (.goto 9, 3) := by decide +kernel
theorem smd_M_step_36 : decode prog_7_method_48_code 36 = .ok (.aload_n 0, 1) := by decide +kernel
theorem smd_M_step_37 : decode prog_7_method_48_code 37 = .ok (.getfield 41, 3) := by decide +kernel
theorem smd_M_step_40 : decode prog_7_method_48_code 40 = .ok (.iload_n 1, 1) := by decide +kernel
theorem smd_M_step_41 : decode prog_7_method_48_code 41 = .ok (.iaload, 1) := by decide +kernel
theorem smd_M_step_42 : decode prog_7_method_48_code 42 = .ok (.istore_n 3, 1) := by decide +kernel
theorem smd_M_step_43 : decode prog_7_method_48_code 43 = .ok (.iconst 0, 1) := by decide +kernel
theorem smd_M_step_44 : decode prog_7_method_48_code 44 = .ok (.istore 4, 2) := by decide +kernel
theorem smd_M_step_46 : decode prog_7_method_48_code 46 = .ok (.iload 4, 2) := by decide +kernel
theorem smd_M_step_48 : decode prog_7_method_48_code 48 = .ok (.iload_n 2, 1) := by decide +kernel
theorem smd_M_step_49 : decode prog_7_method_48_code 49 = .ok (.if_icmp .ge 19, 3) := by decide +kernel
theorem smd_M_step_52 : decode prog_7_method_48_code 52 = .ok (.iload_n 3, 1) := by decide +kernel
theorem smd_M_step_53 : decode prog_7_method_48_code 53 = .ok (.ifCond .ne 15, 3) := by decide +kernel
theorem smd_M_step_56 : decode prog_7_method_48_code 56 = .ok (.aload_n 0, 1) := by decide +kernel
theorem smd_M_step_57 : decode prog_7_method_48_code 57 = .ok (.iload_n 1, 1) := by decide +kernel
theorem smd_M_step_58 : decode prog_7_method_48_code 58 = .ok (.invokevirtual 169, 3) := by decide +kernel
theorem smd_M_step_61 : decode prog_7_method_48_code 61 = .ok (.istore_n 3, 1) := by decide +kernel
theorem smd_M_step_62 : decode prog_7_method_48_code 62 = .ok (.iinc 4 1, 3) := by decide +kernel
theorem smd_M_step_65 : decode prog_7_method_48_code 65 = .ok (.goto (-19), 3) := by decide +kernel
theorem smd_M_step_68 : decode prog_7_method_48_code 68 = .ok (.aload_n 0, 1) := by decide +kernel
theorem smd_M_step_69 : decode prog_7_method_48_code 69 = .ok (.getfield 41, 3) := by decide +kernel
theorem smd_M_step_72 : decode prog_7_method_48_code 72 = .ok (.iload_n 1, 1) := by decide +kernel
theorem smd_M_step_73 : decode prog_7_method_48_code 73 = .ok (.iload_n 3, 1) := by decide +kernel
theorem smd_M_step_74 : decode prog_7_method_48_code 74 = .ok (.iastore, 1) := by decide +kernel
theorem smd_M_step_75 : decode prog_7_method_48_code 75 = .ok (.iload_n 3, 1) := by decide +kernel
theorem smd_M_step_76 : decode prog_7_method_48_code 76 = .ok (.ireturn, 1) := by decide +kernel
theorem smd_M_send_0 : decode prog_7_method_49_code 0 = .ok (.aload_n 0, 1) := by decide +kernel
theorem smd_M_send_1 : decode prog_7_method_49_code 1 = .ok (.iload_n 1, 1) := by decide +kernel
theorem smd_M_send_2 : decode prog_7_method_49_code 2 = .ok (.invokevirtual 166, 3) := by decide +kernel
theorem smd_M_send_5 : decode prog_7_method_49_code 5 = .ok (.ifCond .ne 5, 3) := by decide +kernel
theorem smd_M_send_8 : decode prog_7_method_49_code 8 = .ok (.iconst (-1), 1) := by decide +kernel
theorem smd_M_send_9 : decode prog_7_method_49_code 9 = .ok (.ireturn, 1) := by decide +kernel
theorem smd_M_send_10 : decode prog_7_method_49_code 10 = .ok (.aload_n 0, 1) := by decide +kernel
theorem smd_M_send_11 : decode prog_7_method_49_code 11 = .ok (.getfield 41, 3) := by decide +kernel
theorem smd_M_send_14 : decode prog_7_method_49_code 14 = .ok (.iload_n 1, 1) := by decide +kernel
theorem smd_M_send_15 : decode prog_7_method_49_code 15 = .ok (.iaload, 1) := by decide +kernel
theorem smd_M_send_16 : decode prog_7_method_49_code 16 = .ok (.iconst 1, 1) := by decide +kernel
theorem smd_M_send_17 : decode prog_7_method_49_code 17 = .ok (.if_icmp .le 6, 3) := by decide +kernel
theorem smd_M_send_20 : decode prog_7_method_49_code 20 = .ok (.bipush (-2), 2) := by decide +kernel
theorem smd_M_send_22 : decode prog_7_method_49_code 22 = .ok (.ireturn, 1) := by decide +kernel
theorem smd_M_send_23 : decode prog_7_method_49_code 23 = .ok (.aload_n 0, 1) := by decide +kernel
theorem smd_M_send_24 : decode prog_7_method_49_code 24 = .ok (.getfield 53, 3) := by decide +kernel
theorem smd_M_send_27 : decode prog_7_method_49_code 27 = .ok (.iload_n 1, 1) := by decide +kernel
theorem smd_M_send_28 : decode prog_7_method_49_code 28 = .ok (.iaload, 1) := by decide +kernel
theorem smd_M_send_29 : decode prog_7_method_49_code 29 = .ok (.bipush 8, 2) := by decide +kernel
theorem smd_M_send_31 : decode prog_7_method_49_code 31 = .ok (.if_icmp .ne 6, 3) := by decide +kernel
theorem smd_M_send_34 : decode prog_7_method_49_code 34 = .ok (.bipush (-3), 2) := by decide +kernel
theorem smd_M_send_36 : decode prog_7_method_49_code 36 = .ok (.ireturn, 1) := by decide +kernel
theorem smd_M_send_37 : decode prog_7_method_49_code 37 = .ok (.aload_n 0, 1) := by decide +kernel
theorem smd_M_send_38 : decode prog_7_method_49_code 38 = .ok (.getfield 56, 3) := by decide +kernel
theorem smd_M_send_41 : decode prog_7_method_49_code 41 = .ok (.bipush 8, 2) := by decide +kernel
theorem smd_M_send_43 : decode prog_7_method_49_code 43 = .ok (.iload_n 1, 1) := by decide +kernel
theorem smd_M_send_44 : decode prog_7_method_49_code 44 = .ok (.imul, 1) := by decide +kernel
theorem smd_M_send_45 : decode prog_7_method_49_code 45 = .ok (.aload_n 0, 1) := by decide +kernel
theorem smd_M_send_46 : decode prog_7_method_49_code 46 = .ok (.getfield 53, 3) := by decide +kernel
theorem smd_M_send_49 : decode prog_7_method_49_code 49 = .ok (.iload_n 1, 1) := by decide +kernel
theorem smd_M_send_50 : decode prog_7_method_49_code 50 = .ok (.iaload, 1) := by decide +kernel
theorem smd_M_send_51 : decode prog_7_method_49_code 51 = .ok (.iadd, 1) := by decide +kernel
theorem smd_M_send_52 : decode prog_7_method_49_code 52 = .ok (.iload_n 2, 1) := by decide +kernel
theorem smd_M_send_53 : decode prog_7_method_49_code 53 = .ok (.iastore, 1) := by decide +kernel
theorem smd_M_send_54 : decode prog_7_method_49_code 54 = .ok (.aload_n 0, 1) := by decide +kernel
theorem smd_M_send_55 : decode prog_7_method_49_code 55 = .ok (.getfield 53, 3) := by decide +kernel
theorem smd_M_send_58 : decode prog_7_method_49_code 58 = .ok (.iload_n 1, 1) := by decide +kernel
theorem smd_M_send_59 : decode prog_7_method_49_code 59 = .ok (.dup2, 1) := by decide +kernel
theorem smd_M_send_60 : decode prog_7_method_49_code 60 = .ok (.iaload, 1) := by decide +kernel
theorem smd_M_send_61 : decode prog_7_method_49_code 61 = .ok (.iconst 1, 1) := by decide +kernel
theorem smd_M_send_62 : decode prog_7_method_49_code 62 = .ok (.iadd, 1) := by decide +kernel
theorem smd_M_send_63 : decode prog_7_method_49_code 63 = .ok (.iastore, 1) := by decide +kernel
theorem smd_M_send_64 : decode prog_7_method_49_code 64 = .ok (.aload_n 0, 1) := by decide +kernel
theorem smd_M_send_65 : decode prog_7_method_49_code 65 = .ok (.getfield 53, 3) := by decide +kernel
theorem smd_M_send_68 : decode prog_7_method_49_code 68 = .ok (.iload_n 1, 1) := by decide +kernel
theorem smd_M_send_69 : decode prog_7_method_49_code 69 = .ok (.iaload, 1) := by decide +kernel
theorem smd_M_send_70 : decode prog_7_method_49_code 70 = .ok (.ireturn, 1) := by decide +kernel
theorem smd_M_state_0 : decode prog_7_method_50_code 0 = .ok (.aload_n 0, 1) := by decide +kernel
theorem smd_M_state_1 : decode prog_7_method_50_code 1 = .ok (.iload_n 1, 1) := by decide +kernel
theorem smd_M_state_2 : decode prog_7_method_50_code 2 = .ok (.invokevirtual 166, 3) := by decide +kernel
theorem smd_M_state_5 : decode prog_7_method_50_code 5 = .ok (.ifCond .eq 12, 3) := by decide +kernel
theorem smd_M_state_8 : decode prog_7_method_50_code 8 = .ok (.aload_n 0, 1) := by decide +kernel
theorem smd_M_state_9 : decode prog_7_method_50_code 9 = .ok (.getfield 41, 3) := by decide +kernel
theorem smd_M_state_12 : decode prog_7_method_50_code 12 = .ok (.iload_n 1, 1) := by decide +kernel
theorem smd_M_state_13 : decode prog_7_method_50_code 13 = .ok (.iaload, 1) := by decide +kernel
theorem smd_M_state_14 : decode prog_7_method_50_code 14 = .ok (.goto 4, 3) := by decide +kernel
theorem smd_M_state_17 : decode prog_7_method_50_code 17 = .ok (.iconst (-1), 1) := by decide +kernel
theorem smd_M_state_18 : decode prog_7_method_50_code 18 = .ok (.ireturn, 1) := by decide +kernel
theorem smd_M_result_0 : decode prog_7_method_51_code 0 = .ok (.aload_n 0, 1) := by decide +kernel
theorem smd_M_result_1 : decode prog_7_method_51_code 1 = .ok (.iload_n 1, 1) := by decide +kernel
theorem smd_M_result_2 : decode prog_7_method_51_code 2 = .ok (.invokevirtual 166, 3) := by decide +kernel
theorem smd_M_result_5 : decode prog_7_method_51_code 5 = .ok (.ifCond .eq 12, 3) := by decide +kernel
theorem smd_M_result_8 : decode prog_7_method_51_code 8 = .ok (.aload_n 0, 1) := by decide +kernel
theorem smd_M_result_9 : decode prog_7_method_51_code 9 = .ok (.getfield 44, 3) := by decide +kernel
theorem smd_M_result_12 : decode prog_7_method_51_code 12 = .ok (.iload_n 1, 1) := by decide +kernel
theorem smd_M_result_13 : decode prog_7_method_51_code 13 = .ok (.iaload, 1) := by decide +kernel
theorem smd_M_result_14 : decode prog_7_method_51_code 14 = .ok (.goto 4, 3) := by decide +kernel
theorem smd_M_result_17 : decode prog_7_method_51_code 17 = .ok (.iconst 0, 1) := by decide +kernel
theorem smd_M_result_18 : decode prog_7_method_51_code 18 = .ok (.ireturn, 1) := by decide +kernel
theorem smd_M_frames_0 : decode prog_7_method_52_code 0 = .ok (.aload_n 0, 1) := by decide +kernel
theorem smd_M_frames_1 : decode prog_7_method_52_code 1 = .ok (.iload_n 1, 1) := by decide +kernel
theorem smd_M_frames_2 : decode prog_7_method_52_code 2 = .ok (.invokevirtual 166, 3) := by decide +kernel
theorem smd_M_frames_5 : decode prog_7_method_52_code 5 = .ok (.ifCond .eq 12, 3) := by decide +kernel
theorem smd_M_frames_8 : decode prog_7_method_52_code 8 = .ok (.aload_n 0, 1) := by decide +kernel
theorem smd_M_frames_9 : decode prog_7_method_52_code 9 = .ok (.getfield 47, 3) := by decide +kernel
theorem smd_M_frames_12 : decode prog_7_method_52_code 12 = .ok (.iload_n 1, 1) := by decide +kernel
theorem smd_M_frames_13 : decode prog_7_method_52_code 13 = .ok (.iaload, 1) := by decide +kernel
theorem smd_M_frames_14 : decode prog_7_method_52_code 14 = .ok (.goto 4, 3) := by decide +kernel
theorem smd_M_frames_17 : decode prog_7_method_52_code 17 = .ok (.iconst (-1), 1) := by decide +kernel
theorem smd_M_frames_18 : decode prog_7_method_52_code 18 = .ok (.ireturn, 1) := by decide +kernel
theorem smd_M_frame_0 : decode prog_7_method_53_code 0 = .ok (.aload_n 0, 1) := by decide +kernel
theorem smd_M_frame_1 : decode prog_7_method_53_code 1 = .ok (.iload_n 1, 1) := by decide +kernel
theorem smd_M_frame_2 : decode prog_7_method_53_code 2 = .ok (.invokevirtual 166, 3) := by decide +kernel
theorem smd_M_frame_5 : decode prog_7_method_53_code 5 = .ok (.ifCond .eq 41, 3) := by decide +kernel
theorem smd_M_frame_8 : decode prog_7_method_53_code 8 = .ok (.iload_n 2, 1) := by decide +kernel
theorem smd_M_frame_9 : decode prog_7_method_53_code 9 = .ok (.ifCond .lt 37, 3) := by decide +kernel
theorem smd_M_frame_12 : decode prog_7_method_53_code 12 = .ok (.iload_n 2, 1) := by decide +kernel
theorem smd_M_frame_13 : decode prog_7_method_53_code 13 = .ok (.aload_n 0, 1) := by decide +kernel
theorem smd_M_frame_14 : decode prog_7_method_53_code 14 = .ok (.getfield 47, 3) := by decide +kernel
theorem smd_M_frame_17 : decode prog_7_method_53_code 17 = .ok (.iload_n 1, 1) := by decide +kernel
theorem smd_M_frame_18 : decode prog_7_method_53_code 18 = .ok (.iaload, 1) := by decide +kernel
theorem smd_M_frame_19 : decode prog_7_method_53_code 19 = .ok (.if_icmp .ge 27, 3) := by decide +kernel
theorem smd_M_frame_22 : decode prog_7_method_53_code 22 = .ok (.iload_n 3, 1) := by decide +kernel
theorem smd_M_frame_23 : decode prog_7_method_53_code 23 = .ok (.ifCond .lt 23, 3) := by decide +kernel
theorem smd_M_frame_26 : decode prog_7_method_53_code 26 = .ok (.iload_n 3, 1) := by decide +kernel
theorem smd_M_frame_27 : decode prog_7_method_53_code 27 = .ok (.iconst 5, 1) := by decide +kernel
theorem smd_M_frame_28 : decode prog_7_method_53_code 28 = .ok (.if_icmp .ge 18, 3) := by decide +kernel
theorem smd_M_frame_31 : decode prog_7_method_53_code 31 = .ok (.aload_n 0, 1) := by decide +kernel
theorem smd_M_frame_32 : decode prog_7_method_53_code 32 = .ok (.getfield 50, 3) := by decide +kernel
theorem smd_M_frame_35 : decode prog_7_method_53_code 35 = .ok (.iload_n 1, 1) := by decide +kernel
theorem smd_M_frame_36 : decode prog_7_method_53_code 36 = .ok (.iload_n 2, 1) := by decide +kernel
theorem smd_M_frame_37 : decode prog_7_method_53_code 37 = .ok (.invokestatic 96, 3) := by decide +kernel
theorem smd_M_frame_40 : decode prog_7_method_53_code 40 = .ok (.iload_n 3, 1) := by decide +kernel
theorem smd_M_frame_41 : decode prog_7_method_53_code 41 = .ok (.iadd, 1) := by decide +kernel
theorem smd_M_frame_42 : decode prog_7_method_53_code 42 = .ok (.iaload, 1) := by decide +kernel
theorem smd_M_frame_43 : decode prog_7_method_53_code 43 = .ok (.goto 4, 3) := by decide +kernel
theorem smd_M_frame_46 : decode prog_7_method_53_code 46 = .ok (.iconst (-1), 1) := by decide +kernel
theorem smd_M_frame_47 : decode prog_7_method_53_code 47 = .ok (.ireturn, 1) := by decide +kernel
theorem smd_M_global_0 : decode prog_7_method_54_code 0 = .ok (.iload_n 1, 1) := by decide +kernel
theorem smd_M_global_1 : decode prog_7_method_54_code 1 = .ok (.ifCond .lt 17, 3) := by decide +kernel
theorem smd_M_global_4 : decode prog_7_method_54_code 4 = .ok (.iload_n 1, 1) := by decide +kernel
theorem smd_M_global_5 : decode prog_7_method_54_code 5 = .ok (.iconst 4, 1) := by decide +kernel
theorem smd_M_global_6 : decode prog_7_method_54_code 6 = .ok (.if_icmp .ge 12, 3) := by decide +kernel
theorem smd_M_global_9 : decode prog_7_method_54_code 9 = .ok (.aload_n 0, 1) := by decide +kernel
theorem smd_M_global_10 : decode prog_7_method_54_code 10 = .ok (.getfield 26, 3) := by decide +kernel
theorem smd_M_global_13 : decode prog_7_method_54_code 13 = .ok (.iload_n 1, 1) := by decide +kernel
theorem smd_M_global_14 : decode prog_7_method_54_code 14 = .ok (.iaload, 1) := by decide +kernel
theorem smd_M_global_15 : decode prog_7_method_54_code 15 = .ok (.goto 4, 3) := by decide +kernel
theorem smd_M_global_18 : decode prog_7_method_54_code 18 = .ok (.iconst 0, 1) := by decide +kernel
theorem smd_M_global_19 : decode prog_7_method_54_code 19 = .ok (.ireturn, 1) := by decide +kernel
theorem smd_H_init_0 : decode prog_2_method_1_code 0 = .ok (.aload_n 0, 1) := by decide +kernel
theorem smd_H_init_1 : decode prog_2_method_1_code 1 = .ok (.invokespecial 3, 3) := by decide +kernel
theorem smd_H_init_4 : decode prog_2_method_1_code 4 = .ok (.aload_n 0, 1) := by decide +kernel
theorem smd_H_init_5 : decode prog_2_method_1_code 5 = .ok (.bipush 17, 2) := by decide +kernel
theorem smd_H_init_7 : decode prog_2_method_1_code 7 = .ok (.newarray .int, 2) := by decide +kernel
theorem smd_H_init_9 : decode prog_2_method_1_code 9 = .ok (.putfield 9, 3) := by decide +kernel
theorem smd_H_init_12 : decode prog_2_method_1_code 12 = .ok (.aload_n 0, 1) := by decide +kernel
theorem smd_H_init_13 : decode prog_2_method_1_code 13 = .ok (.bipush 68, 2) := by decide +kernel
theorem smd_H_init_15 : decode prog_2_method_1_code 15 = .ok (.newarray .int, 2) := by decide +kernel
theorem smd_H_init_17 : decode prog_2_method_1_code 17 = .ok (.putfield 15, 3) := by decide +kernel
theorem smd_H_init_20 : decode prog_2_method_1_code 20 = .ok (.aload_n 0, 1) := by decide +kernel
theorem smd_H_init_21 : decode prog_2_method_1_code 21 = .ok (.bipush 68, 2) := by decide +kernel
theorem smd_H_init_23 : decode prog_2_method_1_code 23 = .ok (.newarray .int, 2) := by decide +kernel
theorem smd_H_init_25 : decode prog_2_method_1_code 25 = .ok (.putfield 18, 3) := by decide +kernel
theorem smd_H_init_28 : decode prog_2_method_1_code 28 = .ok (.aload_n 0, 1) := by decide +kernel
theorem smd_H_init_29 : decode prog_2_method_1_code 29 = .ok (.bipush 17, 2) := by decide +kernel
theorem smd_H_init_31 : decode prog_2_method_1_code 31 = .ok (.newarray .boolean, 2) := by decide +kernel
theorem smd_H_init_33 : decode prog_2_method_1_code 33 = .ok (.putfield 21, 3) := by decide +kernel
theorem smd_H_init_36 : decode prog_2_method_1_code 36 = .ok (.aload_n 0, 1) := by decide +kernel
theorem smd_H_init_37 : decode prog_2_method_1_code 37 = .ok (.bipush 16, 2) := by decide +kernel
theorem smd_H_init_39 : decode prog_2_method_1_code 39 = .ok (.newarray .int, 2) := by decide +kernel
theorem smd_H_init_41 : decode prog_2_method_1_code 41 = .ok (.putfield 25, 3) := by decide +kernel
theorem smd_H_init_44 : decode prog_2_method_1_code 44 = .ok (.iconst 0, 1) := by decide +kernel
theorem smd_H_init_45 : decode prog_2_method_1_code 45 = .ok (.istore_n 1, 1) := by decide +kernel
theorem smd_H_init_46 : decode prog_2_method_1_code 46 = .ok (.iload_n 1, 1) := by decide +kernel
theorem smd_H_init_47 : decode prog_2_method_1_code 47 = .ok (.bipush 16, 2) := by decide +kernel
theorem smd_H_init_49 : decode prog_2_method_1_code 49 = .ok (.if_icmp .gt 16, 3) := by decide +kernel
theorem smd_H_init_52 : decode prog_2_method_1_code 52 = .ok (.aload_n 0, 1) := by decide +kernel
theorem smd_H_init_53 : decode prog_2_method_1_code 53 = .ok (.getfield 9, 3) := by decide +kernel
theorem smd_H_init_56 : decode prog_2_method_1_code 56 = .ok (.iload_n 1, 1) := by decide +kernel
theorem smd_H_init_57 : decode prog_2_method_1_code 57 = .ok (.iconst (-1), 1) := by decide +kernel
theorem smd_H_init_58 : decode prog_2_method_1_code 58 = .ok (.iastore, 1) := by decide +kernel
theorem smd_H_init_59 : decode prog_2_method_1_code 59 = .ok (.iinc 1 1, 3) := by decide +kernel
theorem smd_H_init_62 : decode prog_2_method_1_code 62 = .ok (.goto (-16), 3) := by decide +kernel
theorem smd_H_init_65 : decode prog_2_method_1_code 65 = .ok (.return_, 1) := by decide +kernel
theorem smd_H_has_0 : decode prog_2_method_2_code 0 = .ok (.iload_n 1, 1) := by decide +kernel
theorem smd_H_has_1 : decode prog_2_method_2_code 1 = .ok (.iconst 1, 1) := by decide +kernel
theorem smd_H_has_2 : decode prog_2_method_2_code 2 = .ok (.if_icmp .lt 23, 3) := by decide +kernel
theorem smd_H_has_5 : decode prog_2_method_2_code 5 = .ok (.iload_n 1, 1) := by decide +kernel
theorem smd_H_has_6 : decode prog_2_method_2_code 6 = .ok (.bipush 16, 2) := by decide +kernel
theorem smd_H_has_8 : decode prog_2_method_2_code 8 = .ok (.if_icmp .gt 17, 3) := by decide +kernel
theorem smd_H_has_11 : decode prog_2_method_2_code 11 = .ok (.aload_n 0, 1) := by decide +kernel
theorem smd_H_has_12 : decode prog_2_method_2_code 12 = .ok (.getfield 9, 3) := by decide +kernel
theorem smd_H_has_15 : decode prog_2_method_2_code 15 = .ok (.iload_n 1, 1) := by decide +kernel
theorem smd_H_has_16 : decode prog_2_method_2_code 16 = .ok (.iaload, 1) := by decide +kernel
theorem smd_H_has_17 : decode prog_2_method_2_code 17 = .ok (.iconst (-1), 1) := by decide +kernel
theorem smd_H_has_18 : decode prog_2_method_2_code 18 = .ok (.if_icmp .eq 7, 3) := by decide +kernel
theorem smd_H_has_21 : decode prog_2_method_2_code 21 = .ok (.iconst 1, 1) := by decide +kernel
theorem smd_H_has_22 : decode prog_2_method_2_code 22 = .ok (.goto 4, 3) := by decide +kernel
theorem smd_H_has_25 : decode prog_2_method_2_code 25 = .ok (.iconst 0, 1) := by decide +kernel
theorem smd_H_has_26 : decode prog_2_method_2_code 26 = .ok (.ireturn, 1) := by decide +kernel
end
section
theorem smd_H_count_0 : decode prog_2_method_3_code 0 = .ok (.iconst 0, 1) := by decide +kernel
theorem smd_H_count_1 : decode prog_2_method_3_code 1 = .ok (.istore_n 1, 1) := by decide +kernel
theorem smd_H_count_2 : decode prog_2_method_3_code 2 = .ok (.iconst 1, 1) := by decide +kernel
theorem smd_H_count_3 : decode prog_2_method_3_code 3 = .ok (.istore_n 2, 1) := by decide +kernel
theorem smd_H_count_4 : decode prog_2_method_3_code 4 = .ok (.iload_n 2, 1) := by decide +kernel
theorem smd_H_count_5 : decode prog_2_method_3_code 5 = .ok (.bipush 16, 2) := by decide +kernel
theorem smd_H_count_7 : decode prog_2_method_3_code 7 = .ok (.if_icmp .gt 25, 3) := by decide +kernel
theorem smd_H_count_10 : decode prog_2_method_3_code 10 = .ok (.iload_n 1, 1) := by decide +kernel
theorem smd_H_count_11 : decode prog_2_method_3_code 11 = .ok (.aload_n 0, 1) := by decide +kernel
theorem smd_H_count_12 : decode prog_2_method_3_code 12 = .ok (.iload_n 2, 1) := by decide +kernel
theorem smd_H_count_13 : decode prog_2_method_3_code 13 = .ok (.invokevirtual 28, 3) := by decide +kernel
theorem smd_H_count_16 : decode prog_2_method_3_code 16 = .ok (.ifCond .eq 7, 3) := by decide +kernel
theorem smd_H_count_19 : decode prog_2_method_3_code 19 = .ok (.iconst 1, 1) := by decide +kernel
theorem smd_H_count_20 : decode prog_2_method_3_code 20 = .ok (.goto 4, 3) := by decide +kernel
theorem smd_H_count_23 : decode prog_2_method_3_code 23 = .ok (.iconst 0, 1) := by decide +kernel
theorem smd_H_count_24 : decode prog_2_method_3_code 24 = .ok (.iadd, 1) := by decide +kernel
theorem smd_H_count_25 : decode prog_2_method_3_code 25 = .ok (.istore_n 1, 1) := by decide +kernel
theorem smd_H_count_26 : decode prog_2_method_3_code 26 = .ok (.iinc 2 1, 3) := by decide +kernel
theorem smd_H_count_29 : decode prog_2_method_3_code 29 = .ok (.goto (-25), 3) := by decide +kernel
theorem smd_H_count_32 : decode prog_2_method_3_code 32 = .ok (.iload_n 1, 1) := by decide +kernel
theorem smd_H_count_33 : decode prog_2_method_3_code 33 = .ok (.ireturn, 1) := by decide +kernel
theorem smd_H_leastFree_0 : decode prog_2_method_4_code 0 = .ok (.iconst 1, 1) := by decide +kernel
theorem smd_H_leastFree_1 : decode prog_2_method_4_code 1 = .ok (.istore_n 1, 1) := by decide +kernel
theorem smd_H_leastFree_2 : decode prog_2_method_4_code 2 = .ok (.iload_n 1, 1) := by decide +kernel
theorem smd_H_leastFree_3 : decode prog_2_method_4_code 3 = .ok (.bipush 16, 2) := by decide +kernel
theorem smd_H_leastFree_5 : decode prog_2_method_4_code 5 = .ok (.if_icmp .gt 19, 3) := by decide +kernel
theorem smd_H_leastFree_8 : decode prog_2_method_4_code 8 = .ok (.aload_n 0, 1) := by decide +kernel
theorem smd_H_leastFree_9 : decode prog_2_method_4_code 9 = .ok (.iload_n 1, 1) := by decide +kernel
theorem smd_H_leastFree_10 : decode prog_2_method_4_code 10 = .ok (.invokevirtual 28, 3) := by decide +kernel
theorem smd_H_leastFree_13 : decode prog_2_method_4_code 13 = .ok (.ifCond .ne 5, 3) := by decide +kernel
theorem smd_H_leastFree_16 : decode prog_2_method_4_code 16 = .ok (.iload_n 1, 1) := by decide +kernel
theorem smd_H_leastFree_17 : decode prog_2_method_4_code 17 = .ok (.ireturn, 1) := by decide +kernel
theorem smd_H_leastFree_18 : decode prog_2_method_4_code 18 = .ok (.iinc 1 1, 3) := by decide +kernel
theorem smd_H_leastFree_21 : decode prog_2_method_4_code 21 = .ok (.goto (-19), 3) := by decide +kernel
theorem smd_H_leastFree_24 : decode prog_2_method_4_code 24 = .ok (.iconst (-1), 1) := by decide +kernel
theorem smd_H_leastFree_25 : decode prog_2_method_4_code 25 = .ok (.ireturn, 1) := by decide +kernel
theorem smd_H_begin_0 : decode prog_2_method_5_code 0 = .ok (.aload_n 0, 1) := by decide +kernel
theorem smd_H_begin_1 : decode prog_2_method_5_code 1 = .ok (.getfield 9, 3) := by decide +kernel
theorem smd_H_begin_4 : decode prog_2_method_5_code 4 = .ok (.iload_n 1, 1) := by decide +kernel
theorem smd_H_begin_5 : decode prog_2_method_5_code 5 = .ok (.iload_n 2, 1) := by decide +kernel
theorem smd_H_begin_6 : decode prog_2_method_5_code 6 = .ok (.iastore, 1) := by decide +kernel
theorem smd_H_begin_7 : decode prog_2_method_5_code 7 = .ok (.iconst 0, 1) := by decide +kernel
theorem smd_H_begin_8 : decode prog_2_method_5_code 8 = .ok (.istore_n 3, 1) := by decide +kernel
theorem smd_H_begin_9 : decode prog_2_method_5_code 9 = .ok (.iload_n 3, 1) := by decide +kernel
theorem smd_H_begin_10 : decode prog_2_method_5_code 10 = .ok (.iconst 4, 1) := by decide +kernel
theorem smd_H_begin_11 : decode prog_2_method_5_code 11 = .ok (.if_icmp .ge 20, 3) := by decide +kernel
theorem smd_H_begin_14 : decode prog_2_method_5_code 14 = .ok (.aload_n 0, 1) := by decide +kernel
theorem smd_H_begin_15 : decode prog_2_method_5_code 15 = .ok (.getfield 15, 3) := by decide +kernel
theorem smd_H_begin_18 : decode prog_2_method_5_code 18 = .ok (.iload_n 1, 1) := by decide +kernel
theorem smd_H_begin_19 : decode prog_2_method_5_code 19 = .ok (.iconst 4, 1) := by decide +kernel
theorem smd_H_begin_20 : decode prog_2_method_5_code 20 = .ok (.imul, 1) := by decide +kernel
theorem smd_H_begin_21 : decode prog_2_method_5_code 21 = .ok (.iload_n 3, 1) := by decide +kernel
theorem smd_H_begin_22 : decode prog_2_method_5_code 22 = .ok (.iadd, 1) := by decide +kernel
theorem smd_H_begin_23 : decode prog_2_method_5_code 23 = .ok (.iconst 0, 1) := by decide +kernel
theorem smd_H_begin_24 : decode prog_2_method_5_code 24 = .ok (.iastore, 1) := by decide +kernel
theorem smd_H_begin_25 : decode prog_2_method_5_code 25 = .ok (.iinc 3 1, 3) := by decide +kernel
theorem smd_H_begin_28 : decode prog_2_method_5_code 28 = .ok (.goto (-19), 3) := by decide +kernel
theorem smd_H_begin_31 : decode prog_2_method_5_code 31 = .ok (.return_, 1) := by decide +kernel
theorem smd_H_cellOf_0 : decode prog_2_method_6_code 0 = .ok (.aload_n 0, 1) := by decide +kernel
theorem smd_H_cellOf_1 : decode prog_2_method_6_code 1 = .ok (.iload_n 1, 1) := by decide +kernel
theorem smd_H_cellOf_2 : decode prog_2_method_6_code 2 = .ok (.invokevirtual 28, 3) := by decide +kernel
theorem smd_H_cellOf_5 : decode prog_2_method_6_code 5 = .ok (.ifCond .eq 25, 3) := by decide +kernel
theorem smd_H_cellOf_8 : decode prog_2_method_6_code 8 = .ok (.aload_n 0, 1) := by decide +kernel
theorem smd_H_cellOf_9 : decode prog_2_method_6_code 9 = .ok (.getfield 9, 3) := by decide +kernel
theorem smd_H_cellOf_12 : decode prog_2_method_6_code 12 = .ok (.iload_n 1, 1) := by decide +kernel
theorem smd_H_cellOf_13 : decode prog_2_method_6_code 13 = .ok (.iaload, 1) := by decide +kernel
theorem smd_H_cellOf_14 : decode prog_2_method_6_code 14 = .ok (.iload_n 2, 1) := by decide +kernel
theorem smd_H_cellOf_15 : decode prog_2_method_6_code 15 = .ok (.iconst 4, 1) := by decide +kernel
theorem smd_H_cellOf_16 : decode prog_2_method_6_code 16 = .ok (.idiv, 1) := by decide +kernel
theorem smd_H_cellOf_17 : decode prog_2_method_6_code 17 = .ok (.if_icmp .ne 13, 3) := by decide +kernel
theorem smd_H_cellOf_20 : decode prog_2_method_6_code 20 = .ok (.iload_n 1, 1) := by decide +kernel
theorem smd_H_cellOf_21 : decode prog_2_method_6_code 21 = .ok (.iconst 4, 1) := by decide +kernel
theorem smd_H_cellOf_22 : decode prog_2_method_6_code 22 = .ok (.imul, 1) := by decide +kernel
theorem smd_H_cellOf_23 : decode prog_2_method_6_code 23 = .ok (.iload_n 2, 1) := by decide +kernel
theorem smd_H_cellOf_24 : decode prog_2_method_6_code 24 = .ok (.iconst 4, 1) := by decide +kernel
theorem smd_H_cellOf_25 : decode prog_2_method_6_code 25 = .ok (.irem, 1) := by decide +kernel
theorem smd_H_cellOf_26 : decode prog_2_method_6_code 26 = .ok (.iadd, 1) := by decide +kernel
theorem smd_H_cellOf_27 : decode prog_2_method_6_code 27 = .ok (.goto 4, 3) := by decide +kernel
theorem smd_H_cellOf_30 : decode prog_2_method_6_code 30 = .ok (.iconst (-1), 1) := by decide +kernel
theorem smd_H_cellOf_31 : decode prog_2_method_6_code 31 = .ok (.ireturn, 1) := by decide +kernel
theorem smd_H_unmarkAll_0 : decode prog_2_method_7_code 0 = .ok (.aload_n 0, 1) := by decide +kernel
theorem smd_H_unmarkAll_1 : decode prog_2_method_7_code 1 = .ok (.iconst 0, 1) := by decide +kernel
theorem smd_H_unmarkAll_2 : decode prog_2_method_7_code 2 = .ok (.putfield 32, 3) := by decide +kernel
theorem smd_H_unmarkAll_5 : decode prog_2_method_7_code 5 = .ok (.iconst 0, 1) := by decide +kernel
theorem smd_H_unmarkAll_6 : decode prog_2_method_7_code 6 = .ok (.istore_n 1, 1) := by decide +kernel
theorem smd_H_unmarkAll_7 : decode prog_2_method_7_code 7 = .ok (.iload_n 1, 1) := by decide +kernel
theorem smd_H_unmarkAll_8 : decode prog_2_method_7_code 8 = .ok (.bipush 16, 2) := by decide +kernel
theorem smd_H_unmarkAll_10 : decode prog_2_method_7_code 10 = .ok (.if_icmp .gt 16, 3) := by decide +kernel
theorem smd_H_unmarkAll_13 : decode prog_2_method_7_code 13 = .ok (.aload_n 0, 1) := by decide +kernel
theorem smd_H_unmarkAll_14 : decode prog_2_method_7_code 14 = .ok (.getfield 21, 3) := by decide +kernel
theorem smd_H_unmarkAll_17 : decode prog_2_method_7_code 17 = .ok (.iload_n 1, 1) := by decide +kernel
theorem smd_H_unmarkAll_18 : decode prog_2_method_7_code 18 = .ok (.iconst 0, 1) := by decide +kernel
theorem smd_H_unmarkAll_19 : decode prog_2_method_7_code 19 = .ok (.bastore, 1) := by decide +kernel
theorem smd_H_unmarkAll_20 : decode prog_2_method_7_code 20 = .ok (.iinc 1 1, 3) := by decide +kernel
theorem smd_H_unmarkAll_23 : decode prog_2_method_7_code 23 = .ok (.goto (-16), 3) := by decide +kernel
theorem smd_H_unmarkAll_26 : decode prog_2_method_7_code 26 = .ok (.return_, 1) := by decide +kernel
theorem smd_H_mark_0 : decode prog_2_method_8_code 0 = .ok (.aload_n 0, 1) := by decide +kernel
theorem smd_H_mark_1 : decode prog_2_method_8_code 1 = .ok (.iload_n 1, 1) := by decide +kernel
theorem smd_H_mark_2 : decode prog_2_method_8_code 2 = .ok (.invokevirtual 28, 3) := by decide +kernel
theorem smd_H_mark_5 : decode prog_2_method_8_code 5 = .ok (.ifCond .eq 39, 3) := by decide +kernel
theorem smd_H_mark_8 : decode prog_2_method_8_code 8 = .ok (.aload_n 0, 1) := by decide +kernel
theorem smd_H_mark_9 : decode prog_2_method_8_code 9 = .ok (.getfield 21, 3) := by decide +kernel
theorem smd_H_mark_12 : decode prog_2_method_8_code 12 = .ok (.iload_n 1, 1) := by decide +kernel
theorem smd_H_mark_13 : decode prog_2_method_8_code 13 = .ok (.baload, 1) := by decide +kernel
theorem smd_H_mark_14 : decode prog_2_method_8_code 14 = .ok (.ifCond .ne 30, 3) := by decide +kernel
theorem smd_H_mark_17 : decode prog_2_method_8_code 17 = .ok (.aload_n 0, 1) := by decide +kernel
theorem smd_H_mark_18 : decode prog_2_method_8_code 18 = .ok (.getfield 21, 3) := by decide +kernel
theorem smd_H_mark_21 : decode prog_2_method_8_code 21 = .ok (.iload_n 1, 1) := by decide +kernel
theorem smd_H_mark_22 : decode prog_2_method_8_code 22 = .ok (.iconst 1, 1) := by decide +kernel
theorem smd_H_mark_23 : decode prog_2_method_8_code 23 = .ok (.bastore, 1) := by decide +kernel
theorem smd_H_mark_24 : decode prog_2_method_8_code 24 = .ok (.aload_n 0, 1) := by decide +kernel
theorem smd_H_mark_25 : decode prog_2_method_8_code 25 = .ok (.getfield 25, 3) := by decide +kernel
theorem smd_H_mark_28 : decode prog_2_method_8_code 28 = .ok (.aload_n 0, 1) := by decide +kernel
theorem smd_H_mark_29 : decode prog_2_method_8_code 29 = .ok (.getfield 32, 3) := by decide +kernel
theorem smd_H_mark_32 : decode prog_2_method_8_code 32 = .ok (.iload_n 1, 1) := by decide +kernel
theorem smd_H_mark_33 : decode prog_2_method_8_code 33 = .ok (.iastore, 1) := by decide +kernel
theorem smd_H_mark_34 : decode prog_2_method_8_code 34 = .ok (.aload_n 0, 1) := by decide +kernel
theorem smd_H_mark_35 : decode prog_2_method_8_code 35 = .ok (.dup, 1) := by decide +kernel
theorem smd_H_mark_36 : decode prog_2_method_8_code 36 = .ok (.getfield 32, 3) := by decide +kernel
theorem smd_H_mark_39 : decode prog_2_method_8_code 39 = .ok (.iconst 1, 1) := by decide +kernel
theorem smd_H_mark_40 : decode prog_2_method_8_code 40 = .ok (.iadd, 1) := by decide +kernel
theorem smd_H_mark_41 : decode prog_2_method_8_code 41 = .ok (.putfield 32, 3) := by decide +kernel
theorem smd_H_mark_44 : decode prog_2_method_8_code 44 = .ok (.return_, 1) := by decide +kernel
theorem smd_H_markFromMarked_0 : decode prog_2_method_9_code 0 = .ok (.iconst 0, 1) := by decide +kernel
theorem smd_H_markFromMarked_1 : decode prog_2_method_9_code 1 = .ok (.istore_n 1, 1) := by decide +kernel
theorem smd_H_markFromMarked_2 : decode prog_2_method_9_code 2 = .ok (.iload_n 1, 1) := by decide +kernel
theorem smd_H_markFromMarked_3 : decode prog_2_method_9_code 3 = .ok (.aload_n 0, 1) := by decide +kernel
theorem smd_H_markFromMarked_4 : decode prog_2_method_9_code 4 = .ok (.getfield 32, 3) := by decide +kernel
theorem smd_H_markFromMarked_7 : decode prog_2_method_9_code 7 = .ok (.if_icmp .ge 47, 3) := by decide +kernel
theorem smd_H_markFromMarked_10 : decode prog_2_method_9_code 10 = .ok (.iload_n 1, 1) := by decide +kernel
theorem smd_H_markFromMarked_11 : decode prog_2_method_9_code 11 = .ok (.bipush 16, 2) := by decide +kernel
theorem smd_H_markFromMarked_13 : decode prog_2_method_9_code 13 = .ok (.if_icmp .ge 41, 3) := by decide +kernel
theorem smd_H_markFromMarked_16 : decode prog_2_method_9_code 16 = .ok (.iconst 0, 1) := by decide +kernel
theorem smd_H_markFromMarked_17 : decode prog_2_method_9_code 17 = .ok (.istore_n 2, 1) := by decide +kernel
theorem smd_H_markFromMarked_18 : decode prog_2_method_9_code 18 = .ok (.iload_n 2, 1) := by decide +kernel
theorem smd_H_markFromMarked_19 : decode prog_2_method_9_code 19 = .ok (.iconst 4, 1) := by decide +kernel
theorem smd_H_markFromMarked_20 : decode prog_2_method_9_code 20 = .ok (.if_icmp .ge 28, 3) := by decide +kernel
theorem smd_H_markFromMarked_23 : decode prog_2_method_9_code 23 = .ok (.aload_n 0, 1) := by decide +kernel
theorem smd_H_markFromMarked_24 : decode prog_2_method_9_code 24 = .ok (.aload_n 0, 1) := by decide +kernel
theorem smd_H_markFromMarked_25 : decode prog_2_method_9_code 25 = .ok (.getfield 15, 3) := by decide +kernel
theorem smd_H_markFromMarked_28 : decode prog_2_method_9_code 28 = .ok (.aload_n 0, 1) := by decide +kernel
theorem smd_H_markFromMarked_29 : decode prog_2_method_9_code 29 = .ok (.getfield 25, 3) := by decide +kernel
theorem smd_H_markFromMarked_32 : decode prog_2_method_9_code 32 = .ok (.iload_n 1, 1) := by decide +kernel
theorem smd_H_markFromMarked_33 : decode prog_2_method_9_code 33 = .ok (.iaload, 1) := by decide +kernel
theorem smd_H_markFromMarked_34 : decode prog_2_method_9_code 34 = .ok (.iconst 4, 1) := by decide +kernel
theorem smd_H_markFromMarked_35 : decode prog_2_method_9_code 35 = .ok (.imul, 1) := by decide +kernel
theorem smd_H_markFromMarked_36 : decode prog_2_method_9_code 36 = .ok (.iload_n 2, 1) := by decide +kernel
theorem smd_H_markFromMarked_37 : decode prog_2_method_9_code 37 = .ok (.iadd, 1) := by decide +kernel
theorem smd_H_markFromMarked_38 : decode prog_2_method_9_code 38 = .ok (.iaload, 1) := by decide +kernel
theorem smd_H_markFromMarked_39 : decode prog_2_method_9_code 39 = .ok (.invokevirtual 36, 3) := by decide +kernel
theorem smd_H_markFromMarked_42 : decode prog_2_method_9_code 42 = .ok (.iinc 2 1, 3) := by decide +kernel
theorem smd_H_markFromMarked_45 : decode prog_2_method_9_code 45 = .ok (.goto (-27), 3) := by decide +kernel
theorem smd_H_markFromMarked_48 : decode prog_2_method_9_code 48 = .ok (.iinc 1 1, 3) := by decide +kernel
theorem smd_H_markFromMarked_51 : decode prog_2_method_9_code 51 = .ok (.goto (-49), 3) := by decide +kernel
theorem smd_H_markFromMarked_54 : decode prog_2_method_9_code 54 = .ok (.return_, 1) := by decide +kernel
theorem smd_H_dropUnmarked_0 : decode prog_2_method_10_code 0 = .ok (.iconst 0, 1) := by decide +kernel
theorem smd_H_dropUnmarked_1 : decode prog_2_method_10_code 1 = .ok (.istore_n 1, 1) := by decide +kernel
theorem smd_H_dropUnmarked_2 : decode prog_2_method_10_code 2 = .ok (.iconst 1, 1) := by decide +kernel
theorem smd_H_dropUnmarked_3 : decode prog_2_method_10_code 3 = .ok (.istore_n 2, 1) := by decide +kernel
theorem smd_H_dropUnmarked_4 : decode prog_2_method_10_code 4 = .ok (.iload_n 2, 1) := by decide +kernel
theorem smd_H_dropUnmarked_5 : decode prog_2_method_10_code 5 = .ok (.bipush 16, 2) := by decide +kernel
theorem smd_H_dropUnmarked_7 : decode prog_2_method_10_code 7 = .ok (.if_icmp .gt 36, 3) := by decide +kernel
theorem smd_H_dropUnmarked_10 : decode prog_2_method_10_code 10 = .ok (.aload_n 0, 1) := by decide +kernel
theorem smd_H_dropUnmarked_11 : decode prog_2_method_10_code 11 = .ok (.iload_n 2, 1) := by decide +kernel
theorem smd_H_dropUnmarked_12 : decode prog_2_method_10_code 12 = .ok (.invokevirtual 28, 3) := by decide +kernel
theorem smd_H_dropUnmarked_15 : decode prog_2_method_10_code 15 = .ok (.ifCond .eq 22, 3) := by decide +kernel
theorem smd_H_dropUnmarked_18 : decode prog_2_method_10_code 18 = .ok (.aload_n 0, 1) := by decide +kernel
theorem smd_H_dropUnmarked_19 : decode prog_2_method_10_code 19 = .ok (.getfield 21, 3) := by decide +kernel
theorem smd_H_dropUnmarked_22 : decode prog_2_method_10_code 22 = .ok (.iload_n 2, 1) := by decide +kernel
theorem smd_H_dropUnmarked_23 : decode prog_2_method_10_code 23 = .ok (.baload, 1) := by decide +kernel
theorem smd_H_dropUnmarked_24 : decode prog_2_method_10_code 24 = .ok (.ifCond .ne 13, 3) := by decide +kernel
theorem smd_H_dropUnmarked_27 : decode prog_2_method_10_code 27 = .ok (.aload_n 0, 1) := by decide +kernel
theorem smd_H_dropUnmarked_28 : decode prog_2_method_10_code 28 = .ok (.getfield 9, 3) := by decide +kernel
theorem smd_H_dropUnmarked_31 : decode prog_2_method_10_code 31 = .ok (.iload_n 2, 1) := by decide +kernel
theorem smd_H_dropUnmarked_32 : decode prog_2_method_10_code 32 = .ok (.iconst (-1), 1) := by decide +kernel
theorem smd_H_dropUnmarked_33 : decode prog_2_method_10_code 33 = .ok (.iastore, 1) := by decide +kernel
theorem smd_H_dropUnmarked_34 : decode prog_2_method_10_code 34 = .ok (.iinc 1 1, 3) := by decide +kernel
theorem smd_H_dropUnmarked_37 : decode prog_2_method_10_code 37 = .ok (.iinc 2 1, 3) := by decide +kernel
theorem smd_H_dropUnmarked_40 : decode prog_2_method_10_code 40 = .ok (.goto (-36), 3) := by decide +kernel
theorem smd_H_dropUnmarked_43 : decode prog_2_method_10_code 43 = .ok (.iload_n 1, 1) := by decide +kernel
theorem smd_H_dropUnmarked_44 : decode prog_2_method_10_code 44 = .ok (.ireturn, 1) := by decide +kernel
theorem smd_H_makeOver_0 : decode prog_2_method_11_code 0 = .ok (.aload_n 0, 1) := by decide +kernel
theorem smd_H_makeOver_1 : decode prog_2_method_11_code 1 = .ok (.getfield 15, 3) := by decide +kernel
theorem smd_H_makeOver_4 : decode prog_2_method_11_code 4 = .ok (.iconst 0, 1) := by decide +kernel
theorem smd_H_makeOver_5 : decode prog_2_method_11_code 5 = .ok (.aload_n 0, 1) := by decide +kernel
theorem smd_H_makeOver_6 : decode prog_2_method_11_code 6 = .ok (.getfield 18, 3) := by decide +kernel
theorem smd_H_makeOver_9 : decode prog_2_method_11_code 9 = .ok (.iconst 0, 1) := by decide +kernel
theorem smd_H_makeOver_10 : decode prog_2_method_11_code 10 = .ok (.aload_n 0, 1) := by decide +kernel
theorem smd_H_makeOver_11 : decode prog_2_method_11_code 11 = .ok (.getfield 15, 3) := by decide +kernel
theorem smd_H_makeOver_14 : decode prog_2_method_11_code 14 = .ok (.arraylength, 1) := by decide +kernel
theorem smd_H_makeOver_15 : decode prog_2_method_11_code 15 = .ok (.invokestatic 40, 3) := by decide +kernel
theorem smd_H_makeOver_18 : decode prog_2_method_11_code 18 = .ok (.iload_n 3, 1) := by decide +kernel
theorem smd_H_makeOver_19 : decode prog_2_method_11_code 19 = .ok (.istore 4, 2) := by decide +kernel
theorem smd_H_makeOver_21 : decode prog_2_method_11_code 21 = .ok (.iconst 1, 1) := by decide +kernel
theorem smd_H_makeOver_22 : decode prog_2_method_11_code 22 = .ok (.istore 5, 2) := by decide +kernel
theorem smd_H_makeOver_24 : decode prog_2_method_11_code 24 = .ok (.iload 5, 2) := by decide +kernel
theorem smd_H_makeOver_26 : decode prog_2_method_11_code 26 = .ok (.bipush 16, 2) := by decide +kernel
theorem smd_H_makeOver_28 : decode prog_2_method_11_code 28 = .ok (.if_icmp .gt 73, 3) := by decide +kernel
theorem smd_H_makeOver_31 : decode prog_2_method_11_code 31 = .ok (.aload_n 0, 1) := by decide +kernel
theorem smd_H_makeOver_32 : decode prog_2_method_11_code 32 = .ok (.iload 5, 2) := by decide +kernel
theorem smd_H_makeOver_34 : decode prog_2_method_11_code 34 = .ok (.invokevirtual 28, 3) := by decide +kernel
theorem smd_H_makeOver_37 : decode prog_2_method_11_code 37 = .ok (.ifCond .eq 58, 3) := by decide +kernel
theorem smd_H_makeOver_40 : decode prog_2_method_11_code 40 = .ok (.aload_n 1, 1) := by decide +kernel
theorem smd_H_makeOver_41 : decode prog_2_method_11_code 41 = .ok (.getfield 46, 3) := by decide +kernel
theorem smd_H_makeOver_44 : decode prog_2_method_11_code 44 = .ok (.aload_n 0, 1) := by decide +kernel
theorem smd_H_makeOver_45 : decode prog_2_method_11_code 45 = .ok (.getfield 9, 3) := by decide +kernel
theorem smd_H_makeOver_48 : decode prog_2_method_11_code 48 = .ok (.iload 5, 2) := by decide +kernel
theorem smd_H_makeOver_50 : decode prog_2_method_11_code 50 = .ok (.iaload, 1) := by decide +kernel
theorem smd_H_makeOver_51 : decode prog_2_method_11_code 51 = .ok (.baload, 1) := by decide +kernel
theorem smd_H_makeOver_52 : decode prog_2_method_11_code 52 = .ok (.ifCond .eq 43, 3) := by decide +kernel
theorem smd_H_makeOver_55 : decode prog_2_method_11_code 55 = .ok (.aload_n 2, 1) := by decide +kernel
theorem smd_H_makeOver_56 : decode prog_2_method_11_code 56 = .ok (.getfield 51, 3) := by decide +kernel
theorem smd_H_makeOver_59 : decode prog_2_method_11_code 59 = .ok (.aload_n 0, 1) := by decide +kernel
theorem smd_H_makeOver_60 : decode prog_2_method_11_code 60 = .ok (.getfield 9, 3) := by decide +kernel
theorem smd_H_makeOver_63 : decode prog_2_method_11_code 63 = .ok (.iload 5, 2) := by decide +kernel
theorem smd_H_makeOver_65 : decode prog_2_method_11_code 65 = .ok (.iaload, 1) := by decide +kernel
theorem smd_H_makeOver_66 : decode prog_2_method_11_code 66 = .ok (.iaload, 1) := by decide +kernel
theorem smd_H_makeOver_67 : decode prog_2_method_11_code 67 = .ok (.istore 6, 2) := by decide +kernel
theorem smd_H_makeOver_69 : decode prog_2_method_11_code 69 = .ok (.iload 4, 2) := by decide +kernel
theorem smd_H_makeOver_71 : decode prog_2_method_11_code 71 = .ok (.iload 6, 2) := by decide +kernel
theorem smd_H_makeOver_73 : decode prog_2_method_11_code 73 = .ok (.if_icmp .lt 13, 3) := by decide +kernel
theorem smd_H_makeOver_76 : decode prog_2_method_11_code 76 = .ok (.aload_n 0, 1) := by decide +kernel
theorem smd_H_makeOver_77 : decode prog_2_method_11_code 77 = .ok (.iload 5, 2) := by decide +kernel
theorem smd_H_makeOver_79 : decode prog_2_method_11_code 79 = .ok (.aload_n 1, 1) := by decide +kernel
theorem smd_H_makeOver_80 : decode prog_2_method_11_code 80 = .ok (.invokevirtual 56, 3) := by decide +kernel
theorem smd_H_makeOver_83 : decode prog_2_method_11_code 83 = .ok (.ifCond .ne 5, 3) := by decide +kernel
theorem smd_H_makeOver_86 : decode prog_2_method_11_code 86 = .ok (.iconst 0, 1) := by decide +kernel
theorem smd_H_makeOver_87 : decode prog_2_method_11_code 87 = .ok (.ireturn, 1) := by decide +kernel
theorem smd_H_makeOver_88 : decode prog_2_method_11_code 88 = .ok (.iload 4, 2) := by decide +kernel
theorem smd_H_makeOver_90 : decode prog_2_method_11_code 90 = .ok (.iload 6, 2) := by decide +kernel
theorem smd_H_makeOver_92 : decode prog_2_method_11_code 92 = .ok (.isub, 1) := by decide +kernel
theorem smd_H_makeOver_93 : decode prog_2_method_11_code 93 = .ok (.istore 4, 2) := by decide +kernel
theorem smd_H_makeOver_95 : decode prog_2_method_11_code 95 = .ok (.iinc 5 1, 3) := by decide +kernel
theorem smd_H_makeOver_98 : decode prog_2_method_11_code 98 = .ok (.goto (-74), 3) := by decide +kernel
theorem smd_H_makeOver_101 : decode prog_2_method_11_code 101 = .ok (.aload_n 0, 1) := by decide +kernel
theorem smd_H_makeOver_102 : decode prog_2_method_11_code 102 = .ok (.getfield 18, 3) := by decide +kernel
theorem smd_H_makeOver_105 : decode prog_2_method_11_code 105 = .ok (.iconst 0, 1) := by decide +kernel
theorem smd_H_makeOver_106 : decode prog_2_method_11_code 106 = .ok (.aload_n 0, 1) := by decide +kernel
theorem smd_H_makeOver_107 : decode prog_2_method_11_code 107 = .ok (.getfield 15, 3) := by decide +kernel
theorem smd_H_makeOver_110 : decode prog_2_method_11_code 110 = .ok (.iconst 0, 1) := by decide +kernel
theorem smd_H_makeOver_111 : decode prog_2_method_11_code 111 = .ok (.aload_n 0, 1) := by decide +kernel
theorem smd_H_makeOver_112 : decode prog_2_method_11_code 112 = .ok (.getfield 15, 3) := by decide +kernel
theorem smd_H_makeOver_115 : decode prog_2_method_11_code 115 = .ok (.arraylength, 1) := by decide +kernel
theorem smd_H_makeOver_116 : decode prog_2_method_11_code 116 = .ok (.invokestatic 40, 3) := by decide +kernel
theorem smd_H_makeOver_119 : decode prog_2_method_11_code 119 = .ok (.iconst 1, 1) := by decide +kernel
theorem smd_H_makeOver_120 : decode prog_2_method_11_code 120 = .ok (.ireturn, 1) := by decide +kernel
theorem smd_H_makeOverOne_0 : decode prog_2_method_12_code 0 = .ok (.iload_n 1, 1) := by decide +kernel
theorem smd_H_makeOverOne_1 : decode prog_2_method_12_code 1 = .ok (.iconst 4, 1) := by decide +kernel
theorem smd_H_makeOverOne_2 : decode prog_2_method_12_code 2 = .ok (.imul, 1) := by decide +kernel
theorem smd_H_makeOverOne_3 : decode prog_2_method_12_code 3 = .ok (.istore_n 3, 1) := by decide +kernel
theorem smd_H_makeOverOne_4 : decode prog_2_method_12_code 4 = .ok (.iconst 0, 1) := by decide +kernel
theorem smd_H_makeOverOne_5 : decode prog_2_method_12_code 5 = .ok (.istore 4, 2) := by decide +kernel
theorem smd_H_makeOverOne_7 : decode prog_2_method_12_code 7 = .ok (.iload 4, 2) := by decide +kernel
theorem smd_H_makeOverOne_9 : decode prog_2_method_12_code 9 = .ok (.iconst 4, 1) := by decide +kernel
theorem smd_H_makeOverOne_10 : decode prog_2_method_12_code 10 = .ok (.if_icmp .ge 58, 3) := by decide +kernel
theorem smd_H_makeOverOne_13 : decode prog_2_method_12_code 13 = .ok (.aload_n 0, 1) := by decide +kernel
theorem smd_H_makeOverOne_14 : decode prog_2_method_12_code 14 = .ok (.getfield 9, 3) := by decide +kernel
theorem smd_H_makeOverOne_17 : decode prog_2_method_12_code 17 = .ok (.iload_n 1, 1) := by decide +kernel
theorem smd_H_makeOverOne_18 : decode prog_2_method_12_code 18 = .ok (.iaload, 1) := by decide +kernel
theorem smd_H_makeOverOne_19 : decode prog_2_method_12_code 19 = .ok (.iconst 4, 1) := by decide +kernel
theorem smd_H_makeOverOne_20 : decode prog_2_method_12_code 20 = .ok (.imul, 1) := by decide +kernel
theorem smd_H_makeOverOne_21 : decode prog_2_method_12_code 21 = .ok (.iload 4, 2) := by decide +kernel
theorem smd_H_makeOverOne_23 : decode prog_2_method_12_code 23 = .ok (.iadd, 1) := by decide +kernel
theorem smd_H_makeOverOne_24 : decode prog_2_method_12_code 24 = .ok (.istore 5, 2) := by decide +kernel
theorem smd_H_makeOverOne_26 : decode prog_2_method_12_code 26 = .ok (.aload_n 2, 1) := by decide +kernel
theorem smd_H_makeOverOne_27 : decode prog_2_method_12_code 27 = .ok (.iload 5, 2) := by decide +kernel
theorem smd_H_makeOverOne_29 : decode prog_2_method_12_code 29 = .ok (.aload_n 0, 1) := by decide +kernel
theorem smd_H_makeOverOne_30 : decode prog_2_method_12_code 30 = .ok (.getfield 15, 3) := by decide +kernel
theorem smd_H_makeOverOne_33 : decode prog_2_method_12_code 33 = .ok (.iload_n 3, 1) := by decide +kernel
theorem smd_H_makeOverOne_34 : decode prog_2_method_12_code 34 = .ok (.invokevirtual 60, 3) := by decide +kernel
theorem smd_H_makeOverOne_37 : decode prog_2_method_12_code 37 = .ok (.ifCond .eq 5, 3) := by decide +kernel
theorem smd_H_makeOverOne_40 : decode prog_2_method_12_code 40 = .ok (.iconst 0, 1) := by decide +kernel
theorem smd_H_makeOverOne_41 : decode prog_2_method_12_code 41 = .ok (.ireturn, 1) := by decide +kernel
theorem smd_H_makeOverOne_42 : decode prog_2_method_12_code 42 = .ok (.aload_n 0, 1) := by decide +kernel
theorem smd_H_makeOverOne_43 : decode prog_2_method_12_code 43 = .ok (.getfield 18, 3) := by decide +kernel
theorem smd_H_makeOverOne_46 : decode prog_2_method_12_code 46 = .ok (.iload_n 3, 1) := by decide +kernel
theorem smd_H_makeOverOne_47 : decode prog_2_method_12_code 47 = .ok (.iload 4, 2) := by decide +kernel
theorem smd_H_makeOverOne_49 : decode prog_2_method_12_code 49 = .ok (.iadd, 1) := by decide +kernel
theorem smd_H_makeOverOne_50 : decode prog_2_method_12_code 50 = .ok (.aload_n 2, 1) := by decide +kernel
theorem smd_H_makeOverOne_51 : decode prog_2_method_12_code 51 = .ok (.iload 5, 2) := by decide +kernel
theorem smd_H_makeOverOne_53 : decode prog_2_method_12_code 53 = .ok (.aload_n 0, 1) := by decide +kernel
theorem smd_H_makeOverOne_54 : decode prog_2_method_12_code 54 = .ok (.getfield 15, 3) := by decide +kernel
theorem smd_H_makeOverOne_57 : decode prog_2_method_12_code 57 = .ok (.iload_n 3, 1) := by decide +kernel
theorem smd_H_makeOverOne_58 : decode prog_2_method_12_code 58 = .ok (.invokevirtual 64, 3) := by decide +kernel
theorem smd_H_makeOverOne_61 : decode prog_2_method_12_code 61 = .ok (.iastore, 1) := by decide +kernel
theorem smd_H_makeOverOne_62 : decode prog_2_method_12_code 62 = .ok (.iinc 4 1, 3) := by decide +kernel
theorem smd_H_makeOverOne_65 : decode prog_2_method_12_code 65 = .ok (.goto (-58), 3) := by decide +kernel
theorem smd_H_makeOverOne_68 : decode prog_2_method_12_code 68 = .ok (.iconst 1, 1) := by decide +kernel
theorem smd_H_makeOverOne_69 : decode prog_2_method_12_code 69 = .ok (.ireturn, 1) := by decide +kernel
theorem smd_R_init_0 : decode prog_3_method_1_code 0 = .ok (.aload_n 0, 1) := by decide +kernel
theorem smd_R_init_1 : decode prog_3_method_1_code 1 = .ok (.invokespecial 3, 3) := by decide +kernel
theorem smd_R_init_4 : decode prog_3_method_1_code 4 = .ok (.aload_n 0, 1) := by decide +kernel
theorem smd_R_init_5 : decode prog_3_method_1_code 5 = .ok (.iconst 3, 1) := by decide +kernel
theorem smd_R_init_6 : decode prog_3_method_1_code 6 = .ok (.newarray .boolean, 2) := by decide +kernel
theorem smd_R_init_8 : decode prog_3_method_1_code 8 = .ok (.putfield 9, 3) := by decide +kernel
theorem smd_R_init_11 : decode prog_3_method_1_code 11 = .ok (.aload_n 0, 1) := by decide +kernel
theorem smd_R_init_12 : decode prog_3_method_1_code 12 = .ok (.bipush 12, 2) := by decide +kernel
theorem smd_R_init_14 : decode prog_3_method_1_code 14 = .ok (.newarray .int, 2) := by decide +kernel
theorem smd_R_init_16 : decode prog_3_method_1_code 16 = .ok (.putfield 15, 3) := by decide +kernel
theorem smd_R_init_19 : decode prog_3_method_1_code 19 = .ok (.aload_n 0, 1) := by decide +kernel
theorem smd_R_init_20 : decode prog_3_method_1_code 20 = .ok (.bipush 12, 2) := by decide +kernel
theorem smd_R_init_22 : decode prog_3_method_1_code 22 = .ok (.newarray .int, 2) := by decide +kernel
theorem smd_R_init_24 : decode prog_3_method_1_code 24 = .ok (.putfield 19, 3) := by decide +kernel
theorem smd_R_init_27 : decode prog_3_method_1_code 27 = .ok (.aload_n 0, 1) := by decide +kernel
theorem smd_R_init_28 : decode prog_3_method_1_code 28 = .ok (.bipush 12, 2) := by decide +kernel
theorem smd_R_init_30 : decode prog_3_method_1_code 30 = .ok (.newarray .int, 2) := by decide +kernel
theorem smd_R_init_32 : decode prog_3_method_1_code 32 = .ok (.putfield 22, 3) := by decide +kernel
theorem smd_R_init_35 : decode prog_3_method_1_code 35 = .ok (.return_, 1) := by decide +kernel
theorem smd_R_write_0 : decode prog_3_method_2_code 0 = .ok (.iload_n 1, 1) := by decide +kernel
theorem smd_R_write_1 : decode prog_3_method_2_code 1 = .ok (.iconst 4, 1) := by decide +kernel
theorem smd_R_write_2 : decode prog_3_method_2_code 2 = .ok (.imul, 1) := by decide +kernel
theorem smd_R_write_3 : decode prog_3_method_2_code 3 = .ok (.iload_n 2, 1) := by decide +kernel
theorem smd_R_write_4 : decode prog_3_method_2_code 4 = .ok (.iadd, 1) := by decide +kernel
theorem smd_R_write_5 : decode prog_3_method_2_code 5 = .ok (.istore 6, 2) := by decide +kernel
theorem smd_R_write_7 : decode prog_3_method_2_code 7 = .ok (.aload_n 0, 1) := by decide +kernel
theorem smd_R_write_8 : decode prog_3_method_2_code 8 = .ok (.getfield 15, 3) := by decide +kernel
theorem smd_R_write_11 : decode prog_3_method_2_code 11 = .ok (.iload 6, 2) := by decide +kernel
theorem smd_R_write_13 : decode prog_3_method_2_code 13 = .ok (.iload_n 3, 1) := by decide +kernel
theorem smd_R_write_14 : decode prog_3_method_2_code 14 = .ok (.iastore, 1) := by decide +kernel
theorem smd_R_write_15 : decode prog_3_method_2_code 15 = .ok (.aload_n 0, 1) := by decide +kernel
theorem smd_R_write_16 : decode prog_3_method_2_code 16 = .ok (.getfield 19, 3) := by decide +kernel
theorem smd_R_write_19 : decode prog_3_method_2_code 19 = .ok (.iload 6, 2) := by decide +kernel
theorem smd_R_write_21 : decode prog_3_method_2_code 21 = .ok (.iload 4, 2) := by decide +kernel
theorem smd_R_write_23 : decode prog_3_method_2_code 23 = .ok (.iastore, 1) := by decide +kernel
theorem smd_R_write_24 : decode prog_3_method_2_code 24 = .ok (.aload_n 0, 1) := by decide +kernel
theorem smd_R_write_25 : decode prog_3_method_2_code 25 = .ok (.getfield 22, 3) := by decide +kernel
theorem smd_R_write_28 : decode prog_3_method_2_code 28 = .ok (.iload 6, 2) := by decide +kernel
theorem smd_R_write_30 : decode prog_3_method_2_code 30 = .ok (.iload 5, 2) := by decide +kernel
theorem smd_R_write_32 : decode prog_3_method_2_code 32 = .ok (.iastore, 1) := by decide +kernel
theorem smd_R_write_33 : decode prog_3_method_2_code 33 = .ok (.return_, 1) := by decide +kernel
theorem smd_R_forgetType_0 : decode prog_3_method_3_code 0 = .ok (.iconst 0, 1) := by decide +kernel
theorem smd_R_forgetType_1 : decode prog_3_method_3_code 1 = .ok (.istore_n 2, 1) := by decide +kernel
theorem smd_R_forgetType_2 : decode prog_3_method_3_code 2 = .ok (.iload_n 2, 1) := by decide +kernel
theorem smd_R_forgetType_3 : decode prog_3_method_3_code 3 = .ok (.iconst 4, 1) := by decide +kernel
theorem smd_R_forgetType_4 : decode prog_3_method_3_code 4 = .ok (.if_icmp .ge 18, 3) := by decide +kernel
theorem smd_R_forgetType_7 : decode prog_3_method_3_code 7 = .ok (.aload_n 0, 1) := by decide +kernel
theorem smd_R_forgetType_8 : decode prog_3_method_3_code 8 = .ok (.iload_n 1, 1) := by decide +kernel
theorem smd_R_forgetType_9 : decode prog_3_method_3_code 9 = .ok (.iload_n 2, 1) := by decide +kernel
theorem smd_R_forgetType_10 : decode prog_3_method_3_code 10 = .ok (.iconst 0, 1) := by decide +kernel
theorem smd_R_forgetType_11 : decode prog_3_method_3_code 11 = .ok (.iconst 0, 1) := by decide +kernel
theorem smd_R_forgetType_12 : decode prog_3_method_3_code 12 = .ok (.iconst 0, 1) := by decide +kernel
theorem smd_R_forgetType_13 : decode prog_3_method_3_code 13 = .ok (.invokevirtual 25, 3) := by decide +kernel
theorem smd_R_forgetType_16 : decode prog_3_method_3_code 16 = .ok (.iinc 2 1, 3) := by decide +kernel
theorem smd_R_forgetType_19 : decode prog_3_method_3_code 19 = .ok (.goto (-17), 3) := by decide +kernel
theorem smd_R_forgetType_22 : decode prog_3_method_3_code 22 = .ok (.return_, 1) := by decide +kernel
theorem smd_R_forgetAll_0 : decode prog_3_method_4_code 0 = .ok (.iconst 0, 1) := by decide +kernel
theorem smd_R_forgetAll_1 : decode prog_3_method_4_code 1 = .ok (.istore_n 1, 1) := by decide +kernel
theorem smd_R_forgetAll_2 : decode prog_3_method_4_code 2 = .ok (.iload_n 1, 1) := by decide +kernel
theorem smd_R_forgetAll_3 : decode prog_3_method_4_code 3 = .ok (.iconst 3, 1) := by decide +kernel
theorem smd_R_forgetAll_4 : decode prog_3_method_4_code 4 = .ok (.if_icmp .ge 21, 3) := by decide +kernel
theorem smd_R_forgetAll_7 : decode prog_3_method_4_code 7 = .ok (.aload_n 0, 1) := by decide +kernel
theorem smd_R_forgetAll_8 : decode prog_3_method_4_code 8 = .ok (.iload_n 1, 1) := by decide +kernel
theorem smd_R_forgetAll_9 : decode prog_3_method_4_code 9 = .ok (.invokevirtual 29, 3) := by decide +kernel
theorem smd_R_forgetAll_12 : decode prog_3_method_4_code 12 = .ok (.aload_n 0, 1) := by decide +kernel
theorem smd_R_forgetAll_13 : decode prog_3_method_4_code 13 = .ok (.getfield 9, 3) := by decide +kernel
theorem smd_R_forgetAll_16 : decode prog_3_method_4_code 16 = .ok (.iload_n 1, 1) := by decide +kernel
theorem smd_R_forgetAll_17 : decode prog_3_method_4_code 17 = .ok (.iconst 0, 1) := by decide +kernel
theorem smd_R_forgetAll_18 : decode prog_3_method_4_code 18 = .ok (.bastore, 1) := by decide +kernel
theorem smd_R_forgetAll_19 : decode prog_3_method_4_code 19 = .ok (.iinc 1 1, 3) := by decide +kernel
theorem smd_R_forgetAll_22 : decode prog_3_method_4_code 22 = .ok (.goto (-20), 3) := by decide +kernel
theorem smd_R_forgetAll_25 : decode prog_3_method_4_code 25 = .ok (.return_, 1) := by decide +kernel
theorem smd_R_firstWithoutSource_0 : decode prog_3_method_5_code 0 = .ok (.iconst 0, 1) := by decide +kernel
theorem smd_R_firstWithoutSource_1 : decode prog_3_method_5_code 1 = .ok (.istore_n 3, 1) := by decide +kernel
theorem smd_R_firstWithoutSource_2 : decode prog_3_method_5_code 2 = .ok (.iload_n 3, 1) := by decide +kernel
theorem smd_R_firstWithoutSource_3 : decode prog_3_method_5_code 3 = .ok (.iconst 3, 1) := by decide +kernel
theorem smd_R_firstWithoutSource_4 : decode prog_3_method_5_code 4 = .ok (.if_icmp .ge 66, 3) := by decide +kernel
theorem smd_R_firstWithoutSource_7 : decode prog_3_method_5_code 7 = .ok (.iconst 0, 1) := by decide +kernel
theorem smd_R_firstWithoutSource_8 : decode prog_3_method_5_code 8 = .ok (.istore 4, 2) := by decide +kernel
theorem smd_R_firstWithoutSource_10 : decode prog_3_method_5_code 10 = .ok (.iload 4, 2) := by decide +kernel
theorem smd_R_firstWithoutSource_12 : decode prog_3_method_5_code 12 = .ok (.aload_n 2, 1) := by decide +kernel
theorem smd_R_firstWithoutSource_13 : decode prog_3_method_5_code 13 = .ok (.getfield 33, 3) := by decide +kernel
theorem smd_R_firstWithoutSource_16 : decode prog_3_method_5_code 16 = .ok (.iload_n 3, 1) := by decide +kernel
theorem smd_R_firstWithoutSource_17 : decode prog_3_method_5_code 17 = .ok (.iaload, 1) := by decide +kernel
theorem smd_R_firstWithoutSource_18 : decode prog_3_method_5_code 18 = .ok (.if_icmp .ge 46, 3) := by decide +kernel
theorem smd_R_firstWithoutSource_21 : decode prog_3_method_5_code 21 = .ok (.iload_n 3, 1) := by decide +kernel
theorem smd_R_firstWithoutSource_22 : decode prog_3_method_5_code 22 = .ok (.iconst 4, 1) := by decide +kernel
theorem smd_R_firstWithoutSource_23 : decode prog_3_method_5_code 23 = .ok (.imul, 1) := by decide +kernel
theorem smd_R_firstWithoutSource_24 : decode prog_3_method_5_code 24 = .ok (.iload 4, 2) := by decide +kernel
theorem smd_R_firstWithoutSource_26 : decode prog_3_method_5_code 26 = .ok (.iadd, 1) := by decide +kernel
theorem smd_R_firstWithoutSource_27 : decode prog_3_method_5_code 27 = .ok (.istore 5, 2) := by decide +kernel
theorem smd_R_firstWithoutSource_29 : decode prog_3_method_5_code 29 = .ok (.aload_n 0, 1) := by decide +kernel
theorem smd_R_firstWithoutSource_30 : decode prog_3_method_5_code 30 = .ok (.getfield 15, 3) := by decide +kernel
theorem smd_R_firstWithoutSource_33 : decode prog_3_method_5_code 33 = .ok (.iload 5, 2) := by decide +kernel
theorem smd_R_firstWithoutSource_35 : decode prog_3_method_5_code 35 = .ok (.iaload, 1) := by decide +kernel
theorem smd_R_firstWithoutSource_36 : decode prog_3_method_5_code 36 = .ok (.ifCond .eq 22, 3) := by decide +kernel
theorem smd_R_firstWithoutSource_39 : decode prog_3_method_5_code 39 = .ok (.aload_n 0, 1) := by decide +kernel
theorem smd_R_firstWithoutSource_40 : decode prog_3_method_5_code 40 = .ok (.getfield 19, 3) := by decide +kernel
theorem smd_R_firstWithoutSource_43 : decode prog_3_method_5_code 43 = .ok (.iload 5, 2) := by decide +kernel
theorem smd_R_firstWithoutSource_45 : decode prog_3_method_5_code 45 = .ok (.iaload, 1) := by decide +kernel
theorem smd_R_firstWithoutSource_46 : decode prog_3_method_5_code 46 = .ok (.aload_n 1, 1) := by decide +kernel
theorem smd_R_firstWithoutSource_47 : decode prog_3_method_5_code 47 = .ok (.getfield 33, 3) := by decide +kernel
theorem smd_R_firstWithoutSource_50 : decode prog_3_method_5_code 50 = .ok (.iload_n 3, 1) := by decide +kernel
theorem smd_R_firstWithoutSource_51 : decode prog_3_method_5_code 51 = .ok (.iaload, 1) := by decide +kernel
theorem smd_R_firstWithoutSource_52 : decode prog_3_method_5_code 52 = .ok (.if_icmp .lt 6, 3) := by decide +kernel
theorem smd_R_firstWithoutSource_55 : decode prog_3_method_5_code 55 = .ok (.iload 5, 2) := by decide +kernel
theorem smd_R_firstWithoutSource_57 : decode prog_3_method_5_code 57 = .ok (.ireturn, 1) := by decide +kernel
theorem smd_R_firstWithoutSource_58 : decode prog_3_method_5_code 58 = .ok (.iinc 4 1, 3) := by decide +kernel
theorem smd_R_firstWithoutSource_61 : decode prog_3_method_5_code 61 = .ok (.goto (-51), 3) := by decide +kernel
theorem smd_R_firstWithoutSource_64 : decode prog_3_method_5_code 64 = .ok (.iinc 3 1, 3) := by decide +kernel
theorem smd_R_firstWithoutSource_67 : decode prog_3_method_5_code 67 = .ok (.goto (-65), 3) := by decide +kernel
theorem smd_R_firstWithoutSource_70 : decode prog_3_method_5_code 70 = .ok (.iconst (-1), 1) := by decide +kernel
theorem smd_R_firstWithoutSource_71 : decode prog_3_method_5_code 71 = .ok (.ireturn, 1) := by decide +kernel
theorem smd_R_isFaulty_0 : decode prog_3_method_6_code 0 = .ok (.aload_n 0, 1) := by decide +kernel
theorem smd_R_isFaulty_1 : decode prog_3_method_6_code 1 = .ok (.getfield 15, 3) := by decide +kernel
theorem smd_R_isFaulty_4 : decode prog_3_method_6_code 4 = .ok (.iload_n 1, 1) := by decide +kernel
theorem smd_R_isFaulty_5 : decode prog_3_method_6_code 5 = .ok (.iaload, 1) := by decide +kernel
theorem smd_R_isFaulty_6 : decode prog_3_method_6_code 6 = .ok (.iconst 2, 1) := by decide +kernel
theorem smd_R_isFaulty_7 : decode prog_3_method_6_code 7 = .ok (.if_icmp .ne 20, 3) := by decide +kernel
theorem smd_R_isFaulty_10 : decode prog_3_method_6_code 10 = .ok (.aload_n 2, 1) := by decide +kernel
theorem smd_R_isFaulty_11 : decode prog_3_method_6_code 11 = .ok (.iload_n 3, 1) := by decide +kernel
theorem smd_R_isFaulty_12 : decode prog_3_method_6_code 12 = .ok (.aload_n 0, 1) := by decide +kernel
theorem smd_R_isFaulty_13 : decode prog_3_method_6_code 13 = .ok (.getfield 19, 3) := by decide +kernel
theorem smd_R_isFaulty_16 : decode prog_3_method_6_code 16 = .ok (.iload_n 1, 1) := by decide +kernel
theorem smd_R_isFaulty_17 : decode prog_3_method_6_code 17 = .ok (.iaload, 1) := by decide +kernel
theorem smd_R_isFaulty_18 : decode prog_3_method_6_code 18 = .ok (.iadd, 1) := by decide +kernel
theorem smd_R_isFaulty_19 : decode prog_3_method_6_code 19 = .ok (.iaload, 1) := by decide +kernel
theorem smd_R_isFaulty_20 : decode prog_3_method_6_code 20 = .ok (.ifCond .ne 7, 3) := by decide +kernel
theorem smd_R_isFaulty_23 : decode prog_3_method_6_code 23 = .ok (.iconst 1, 1) := by decide +kernel
theorem smd_R_isFaulty_24 : decode prog_3_method_6_code 24 = .ok (.goto 4, 3) := by decide +kernel
theorem smd_R_isFaulty_27 : decode prog_3_method_6_code 27 = .ok (.iconst 0, 1) := by decide +kernel
theorem smd_R_isFaulty_28 : decode prog_3_method_6_code 28 = .ok (.ireturn, 1) := by decide +kernel
theorem smd_R_valueOf_0 : decode prog_3_method_7_code 0 = .ok (.aload_n 2, 1) := by decide +kernel
theorem smd_R_valueOf_1 : decode prog_3_method_7_code 1 = .ok (.iload_n 3, 1) := by decide +kernel
theorem smd_R_valueOf_2 : decode prog_3_method_7_code 2 = .ok (.aload_n 0, 1) := by decide +kernel
theorem smd_R_valueOf_3 : decode prog_3_method_7_code 3 = .ok (.getfield 19, 3) := by decide +kernel
theorem smd_R_valueOf_6 : decode prog_3_method_7_code 6 = .ok (.iload_n 1, 1) := by decide +kernel
theorem smd_R_valueOf_7 : decode prog_3_method_7_code 7 = .ok (.iaload, 1) := by decide +kernel
theorem smd_R_valueOf_8 : decode prog_3_method_7_code 8 = .ok (.iadd, 1) := by decide +kernel
theorem smd_R_valueOf_9 : decode prog_3_method_7_code 9 = .ok (.iaload, 1) := by decide +kernel
theorem smd_R_valueOf_10 : decode prog_3_method_7_code 10 = .ok (.istore 4, 2) := by decide +kernel
theorem smd_R_valueOf_12 : decode prog_3_method_7_code 12 = .ok (.aload_n 0, 1) := by decide +kernel
theorem smd_R_valueOf_13 : decode prog_3_method_7_code 13 = .ok (.getfield 15, 3) := by decide +kernel
theorem smd_R_valueOf_16 : decode prog_3_method_7_code 16 = .ok (.iload_n 1, 1) := by decide +kernel
theorem smd_R_valueOf_17 : decode prog_3_method_7_code 17 = .ok (.iaload, 1) := by decide +kernel
theorem smd_R_valueOf_18 : decode prog_3_method_7_code 18 = .ok (.lookupswitch 55 #[(1, 26), (2, 36)], 26) := by decide +kernel
theorem smd_R_valueOf_44 : decode prog_3_method_7_code 44 = .ok (.iload 4, 2) := by decide +kernel
theorem smd_R_valueOf_46 : decode prog_3_method_7_code 46 = .ok (.aload_n 0, 1) := by decide +kernel
theorem smd_R_valueOf_47 : decode prog_3_method_7_code 47 = .ok (.getfield 22, 3) := by decide +kernel
theorem smd_R_valueOf_50 : decode prog_3_method_7_code 50 = .ok (.iload_n 1, 1) := by decide +kernel
theorem smd_R_valueOf_51 : decode prog_3_method_7_code 51 = .ok (.iaload, 1) := by decide +kernel
theorem smd_R_valueOf_52 : decode prog_3_method_7_code 52 = .ok (.iadd, 1) := by decide +kernel
theorem smd_R_valueOf_53 : decode prog_3_method_7_code 53 = .ok (.ireturn, 1) := by decide +kernel
theorem smd_R_valueOf_54 : decode prog_3_method_7_code 54 = .ok (.iload 4, 2) := by decide +kernel
theorem smd_R_valueOf_56 : decode prog_3_method_7_code 56 = .ok (.ifCond .ne 7, 3) := by decide +kernel
theorem smd_R_valueOf_59 : decode prog_3_method_7_code 59 = .ok (.iconst 0, 1) := by decide +kernel
theorem smd_R_valueOf_60 : decode prog_3_method_7_code 60 = .ok (.goto 12, 3) := by decide +kernel
theorem smd_R_valueOf_63 : decode prog_3_method_7_code 63 = .ok (.aload_n 0, 1) := by decide +kernel
theorem smd_R_valueOf_64 : decode prog_3_method_7_code 64 = .ok (.getfield 22, 3) := by decide +kernel
theorem smd_R_valueOf_67 : decode prog_3_method_7_code 67 = .ok (.iload_n 1, 1) := by decide +kernel
theorem smd_R_valueOf_68 : decode prog_3_method_7_code 68 = .ok (.iaload, 1) := by decide +kernel
theorem smd_R_valueOf_69 : decode prog_3_method_7_code 69 = .ok (.iload 4, 2) := by decide +kernel
theorem smd_R_valueOf_71 : decode prog_3_method_7_code 71 = .ok (.idiv, 1) := by decide +kernel
theorem smd_R_valueOf_72 : decode prog_3_method_7_code 72 = .ok (.ireturn, 1) := by decide +kernel
theorem smd_R_valueOf_73 : decode prog_3_method_7_code 73 = .ok (.aload_n 0, 1) := by decide +kernel
theorem smd_R_valueOf_74 : decode prog_3_method_7_code 74 = .ok (.getfield 22, 3) := by decide +kernel
theorem smd_R_valueOf_77 : decode prog_3_method_7_code 77 = .ok (.iload_n 1, 1) := by decide +kernel
theorem smd_R_valueOf_78 : decode prog_3_method_7_code 78 = .ok (.iaload, 1) := by decide +kernel
theorem smd_R_valueOf_79 : decode prog_3_method_7_code 79 = .ok (.ireturn, 1) := by decide +kernel
theorem smd_T_init_0 : decode prog_4_method_1_code 0 = .ok (.aload_n 0, 1) := by decide +kernel
theorem smd_T_init_1 : decode prog_4_method_1_code 1 = .ok (.invokespecial 3, 3) := by decide +kernel
theorem smd_T_init_4 : decode prog_4_method_1_code 4 = .ok (.aload_n 0, 1) := by decide +kernel
theorem smd_T_init_5 : decode prog_4_method_1_code 5 = .ok (.bipush 6, 2) := by decide +kernel
theorem smd_T_init_7 : decode prog_4_method_1_code 7 = .ok (.newarray .int, 2) := by decide +kernel
theorem smd_T_init_9 : decode prog_4_method_1_code 9 = .ok (.putfield 9, 3) := by decide +kernel
theorem smd_T_init_12 : decode prog_4_method_1_code 12 = .ok (.aload_n 0, 1) := by decide +kernel
theorem smd_T_init_13 : decode prog_4_method_1_code 13 = .ok (.bipush 6, 2) := by decide +kernel
theorem smd_T_init_15 : decode prog_4_method_1_code 15 = .ok (.newarray .int, 2) := by decide +kernel
theorem smd_T_init_17 : decode prog_4_method_1_code 17 = .ok (.putfield 15, 3) := by decide +kernel
theorem smd_T_init_20 : decode prog_4_method_1_code 20 = .ok (.aload_n 0, 1) := by decide +kernel
theorem smd_T_init_21 : decode prog_4_method_1_code 21 = .ok (.bipush 18, 2) := by decide +kernel
theorem smd_T_init_23 : decode prog_4_method_1_code 23 = .ok (.newarray .int, 2) := by decide +kernel
theorem smd_T_init_25 : decode prog_4_method_1_code 25 = .ok (.putfield 18, 3) := by decide +kernel
theorem smd_T_init_28 : decode prog_4_method_1_code 28 = .ok (.aload_n 0, 1) := by decide +kernel
theorem smd_T_init_29 : decode prog_4_method_1_code 29 = .ok (.bipush 6, 2) := by decide +kernel
theorem smd_T_init_31 : decode prog_4_method_1_code 31 = .ok (.newarray .int, 2) := by decide +kernel
theorem smd_T_init_33 : decode prog_4_method_1_code 33 = .ok (.putfield 21, 3) := by decide +kernel
theorem smd_T_init_36 : decode prog_4_method_1_code 36 = .ok (.aload_n 0, 1) := by decide +kernel
theorem smd_T_init_37 : decode prog_4_method_1_code 37 = .ok (.bipush 8, 2) := by decide +kernel
theorem smd_T_init_39 : decode prog_4_method_1_code 39 = .ok (.newarray .int, 2) := by decide +kernel
theorem smd_T_init_41 : decode prog_4_method_1_code 41 = .ok (.putfield 24, 3) := by decide +kernel
theorem smd_T_init_44 : decode prog_4_method_1_code 44 = .ok (.return_, 1) := by decide +kernel
theorem smd_T_local_0 : decode prog_4_method_2_code 0 = .ok (.aload_n 0, 1) := by decide +kernel
theorem smd_T_local_1 : decode prog_4_method_2_code 1 = .ok (.getfield 18, 3) := by decide +kernel
theorem smd_T_local_4 : decode prog_4_method_2_code 4 = .ok (.aload_n 0, 1) := by decide +kernel
theorem smd_T_local_5 : decode prog_4_method_2_code 5 = .ok (.getfield 27, 3) := by decide +kernel
theorem smd_T_local_8 : decode prog_4_method_2_code 8 = .ok (.iconst 1, 1) := by decide +kernel
theorem smd_T_local_9 : decode prog_4_method_2_code 9 = .ok (.isub, 1) := by decide +kernel
theorem smd_T_local_10 : decode prog_4_method_2_code 10 = .ok (.iconst 3, 1) := by decide +kernel
theorem smd_T_local_11 : decode prog_4_method_2_code 11 = .ok (.imul, 1) := by decide +kernel
theorem smd_T_local_12 : decode prog_4_method_2_code 12 = .ok (.iload_n 1, 1) := by decide +kernel
theorem smd_T_local_13 : decode prog_4_method_2_code 13 = .ok (.iadd, 1) := by decide +kernel
theorem smd_T_local_14 : decode prog_4_method_2_code 14 = .ok (.iaload, 1) := by decide +kernel
theorem smd_T_local_15 : decode prog_4_method_2_code 15 = .ok (.ireturn, 1) := by decide +kernel
theorem smd_T_setLocal_0 : decode prog_4_method_3_code 0 = .ok (.aload_n 0, 1) := by decide +kernel
theorem smd_T_setLocal_1 : decode prog_4_method_3_code 1 = .ok (.getfield 18, 3) := by decide +kernel
theorem smd_T_setLocal_4 : decode prog_4_method_3_code 4 = .ok (.aload_n 0, 1) := by decide +kernel
theorem smd_T_setLocal_5 : decode prog_4_method_3_code 5 = .ok (.getfield 27, 3) := by decide +kernel
theorem smd_T_setLocal_8 : decode prog_4_method_3_code 8 = .ok (.iconst 1, 1) := by decide +kernel
theorem smd_T_setLocal_9 : decode prog_4_method_3_code 9 = .ok (.isub, 1) := by decide +kernel
theorem smd_T_setLocal_10 : decode prog_4_method_3_code 10 = .ok (.iconst 3, 1) := by decide +kernel
theorem smd_T_setLocal_11 : decode prog_4_method_3_code 11 = .ok (.imul, 1) := by decide +kernel
theorem smd_T_setLocal_12 : decode prog_4_method_3_code 12 = .ok (.iload_n 1, 1) := by decide +kernel
theorem smd_T_setLocal_13 : decode prog_4_method_3_code 13 = .ok (.iadd, 1) := by decide +kernel
theorem smd_T_setLocal_14 : decode prog_4_method_3_code 14 = .ok (.iload_n 2, 1) := by decide +kernel
theorem smd_T_setLocal_15 : decode prog_4_method_3_code 15 = .ok (.iastore, 1) := by decide +kernel
theorem smd_T_setLocal_16 : decode prog_4_method_3_code 16 = .ok (.return_, 1) := by decide +kernel
theorem smd_T_push_0 : decode prog_4_method_4_code 0 = .ok (.aload_n 0, 1) := by decide +kernel
theorem smd_T_push_1 : decode prog_4_method_4_code 1 = .ok (.getfield 9, 3) := by decide +kernel
theorem smd_T_push_4 : decode prog_4_method_4_code 4 = .ok (.aload_n 0, 1) := by decide +kernel
theorem smd_T_push_5 : decode prog_4_method_4_code 5 = .ok (.getfield 27, 3) := by decide +kernel
theorem smd_T_push_8 : decode prog_4_method_4_code 8 = .ok (.iload_n 1, 1) := by decide +kernel
theorem smd_T_push_9 : decode prog_4_method_4_code 9 = .ok (.iastore, 1) := by decide +kernel
theorem smd_T_push_10 : decode prog_4_method_4_code 10 = .ok (.aload_n 0, 1) := by decide +kernel
theorem smd_T_push_11 : decode prog_4_method_4_code 11 = .ok (.getfield 15, 3) := by decide +kernel
theorem smd_T_push_14 : decode prog_4_method_4_code 14 = .ok (.aload_n 0, 1) := by decide +kernel
theorem smd_T_push_15 : decode prog_4_method_4_code 15 = .ok (.getfield 27, 3) := by decide +kernel
theorem smd_T_push_18 : decode prog_4_method_4_code 18 = .ok (.iconst 0, 1) := by decide +kernel
theorem smd_T_push_19 : decode prog_4_method_4_code 19 = .ok (.iastore, 1) := by decide +kernel
theorem smd_T_push_20 : decode prog_4_method_4_code 20 = .ok (.aload_n 0, 1) := by decide +kernel
theorem smd_T_push_21 : decode prog_4_method_4_code 21 = .ok (.getfield 21, 3) := by decide +kernel
theorem smd_T_push_24 : decode prog_4_method_4_code 24 = .ok (.aload_n 0, 1) := by decide +kernel
theorem smd_T_push_25 : decode prog_4_method_4_code 25 = .ok (.getfield 27, 3) := by decide +kernel
theorem smd_T_push_28 : decode prog_4_method_4_code 28 = .ok (.iload_n 3, 1) := by decide +kernel
theorem smd_T_push_29 : decode prog_4_method_4_code 29 = .ok (.iastore, 1) := by decide +kernel
theorem smd_T_push_30 : decode prog_4_method_4_code 30 = .ok (.aload_n 0, 1) := by decide +kernel
theorem smd_T_push_31 : decode prog_4_method_4_code 31 = .ok (.dup, 1) := by decide +kernel
theorem smd_T_push_32 : decode prog_4_method_4_code 32 = .ok (.getfield 27, 3) := by decide +kernel
theorem smd_T_push_35 : decode prog_4_method_4_code 35 = .ok (.iconst 1, 1) := by decide +kernel
theorem smd_T_push_36 : decode prog_4_method_4_code 36 = .ok (.iadd, 1) := by decide +kernel
theorem smd_T_push_37 : decode prog_4_method_4_code 37 = .ok (.putfield 27, 3) := by decide +kernel
theorem smd_T_push_40 : decode prog_4_method_4_code 40 = .ok (.aload_n 0, 1) := by decide +kernel
theorem smd_T_push_41 : decode prog_4_method_4_code 41 = .ok (.iconst 0, 1) := by decide +kernel
theorem smd_T_push_42 : decode prog_4_method_4_code 42 = .ok (.iload_n 2, 1) := by decide +kernel
theorem smd_T_push_43 : decode prog_4_method_4_code 43 = .ok (.invokevirtual 31, 3) := by decide +kernel
theorem smd_T_push_46 : decode prog_4_method_4_code 46 = .ok (.iconst 1, 1) := by decide +kernel
theorem smd_T_push_47 : decode prog_4_method_4_code 47 = .ok (.istore 4, 2) := by decide +kernel
theorem smd_T_push_49 : decode prog_4_method_4_code 49 = .ok (.iload 4, 2) := by decide +kernel
theorem smd_T_push_51 : decode prog_4_method_4_code 51 = .ok (.iconst 3, 1) := by decide +kernel
theorem smd_T_push_52 : decode prog_4_method_4_code 52 = .ok (.if_icmp .ge 16, 3) := by decide +kernel
theorem smd_T_push_55 : decode prog_4_method_4_code 55 = .ok (.aload_n 0, 1) := by decide +kernel
theorem smd_T_push_56 : decode prog_4_method_4_code 56 = .ok (.iload 4, 2) := by decide +kernel
theorem smd_T_push_58 : decode prog_4_method_4_code 58 = .ok (.iconst 0, 1) := by decide +kernel
theorem smd_T_push_59 : decode prog_4_method_4_code 59 = .ok (.invokevirtual 31, 3) := by decide +kernel
theorem smd_T_push_62 : decode prog_4_method_4_code 62 = .ok (.iinc 4 1, 3) := by decide +kernel
theorem smd_T_push_65 : decode prog_4_method_4_code 65 = .ok (.goto (-16), 3) := by decide +kernel
theorem smd_T_push_68 : decode prog_4_method_4_code 68 = .ok (.return_, 1) := by decide +kernel
theorem smd_T_giveBack_0 : decode prog_4_method_5_code 0 = .ok (.aload_n 0, 1) := by decide +kernel
theorem smd_T_giveBack_1 : decode prog_4_method_5_code 1 = .ok (.dup, 1) := by decide +kernel
theorem smd_T_giveBack_2 : decode prog_4_method_5_code 2 = .ok (.getfield 27, 3) := by decide +kernel
theorem smd_T_giveBack_5 : decode prog_4_method_5_code 5 = .ok (.iconst 1, 1) := by decide +kernel
theorem smd_T_giveBack_6 : decode prog_4_method_5_code 6 = .ok (.isub, 1) := by decide +kernel
theorem smd_T_giveBack_7 : decode prog_4_method_5_code 7 = .ok (.putfield 27, 3) := by decide +kernel
theorem smd_T_giveBack_10 : decode prog_4_method_5_code 10 = .ok (.aload_n 0, 1) := by decide +kernel
theorem smd_T_giveBack_11 : decode prog_4_method_5_code 11 = .ok (.getfield 27, 3) := by decide +kernel
theorem smd_T_giveBack_14 : decode prog_4_method_5_code 14 = .ok (.ifCond .ne 16, 3) := by decide +kernel
theorem smd_T_giveBack_17 : decode prog_4_method_5_code 17 = .ok (.aload_n 0, 1) := by decide +kernel
theorem smd_T_giveBack_18 : decode prog_4_method_5_code 18 = .ok (.iconst 2, 1) := by decide +kernel
theorem smd_T_giveBack_19 : decode prog_4_method_5_code 19 = .ok (.putfield 35, 3) := by decide +kernel
theorem smd_T_giveBack_22 : decode prog_4_method_5_code 22 = .ok (.aload_n 0, 1) := by decide +kernel
theorem smd_T_giveBack_23 : decode prog_4_method_5_code 23 = .ok (.iload_n 1, 1) := by decide +kernel
theorem smd_T_giveBack_24 : decode prog_4_method_5_code 24 = .ok (.putfield 38, 3) := by decide +kernel
theorem smd_T_giveBack_27 : decode prog_4_method_5_code 27 = .ok (.goto 17, 3) := by decide +kernel
theorem smd_T_giveBack_30 : decode prog_4_method_5_code 30 = .ok (.aload_n 0, 1) := by decide +kernel
theorem smd_T_giveBack_31 : decode prog_4_method_5_code 31 = .ok (.aload_n 0, 1) := by decide +kernel
theorem smd_T_giveBack_32 : decode prog_4_method_5_code 32 = .ok (.getfield 21, 3) := by decide +kernel
theorem smd_T_giveBack_35 : decode prog_4_method_5_code 35 = .ok (.aload_n 0, 1) := by decide +kernel
theorem smd_T_giveBack_36 : decode prog_4_method_5_code 36 = .ok (.getfield 27, 3) := by decide +kernel
theorem smd_T_giveBack_39 : decode prog_4_method_5_code 39 = .ok (.iaload, 1) := by decide +kernel
theorem smd_T_giveBack_40 : decode prog_4_method_5_code 40 = .ok (.iload_n 1, 1) := by decide +kernel
theorem smd_T_giveBack_41 : decode prog_4_method_5_code 41 = .ok (.invokevirtual 31, 3) := by decide +kernel
theorem smd_T_giveBack_44 : decode prog_4_method_5_code 44 = .ok (.return_, 1) := by decide +kernel
theorem smd_T_fail_0 : decode prog_4_method_6_code 0 = .ok (.aload_n 0, 1) := by decide +kernel
theorem smd_T_fail_1 : decode prog_4_method_6_code 1 = .ok (.iconst 0, 1) := by decide +kernel
theorem smd_T_fail_2 : decode prog_4_method_6_code 2 = .ok (.putfield 27, 3) := by decide +kernel
theorem smd_T_fail_5 : decode prog_4_method_6_code 5 = .ok (.aload_n 0, 1) := by decide +kernel
theorem smd_T_fail_6 : decode prog_4_method_6_code 6 = .ok (.iconst 3, 1) := by decide +kernel
theorem smd_T_fail_7 : decode prog_4_method_6_code 7 = .ok (.putfield 35, 3) := by decide +kernel
theorem smd_T_fail_10 : decode prog_4_method_6_code 10 = .ok (.return_, 1) := by decide +kernel
theorem smd_T_enqueue_0 : decode prog_4_method_7_code 0 = .ok (.aload_n 0, 1) := by decide +kernel
theorem smd_T_enqueue_1 : decode prog_4_method_7_code 1 = .ok (.getfield 24, 3) := by decide +kernel
theorem smd_T_enqueue_4 : decode prog_4_method_7_code 4 = .ok (.aload_n 0, 1) := by decide +kernel
theorem smd_T_enqueue_5 : decode prog_4_method_7_code 5 = .ok (.getfield 41, 3) := by decide +kernel
theorem smd_T_enqueue_8 : decode prog_4_method_7_code 8 = .ok (.iload_n 1, 1) := by decide +kernel
theorem smd_T_enqueue_9 : decode prog_4_method_7_code 9 = .ok (.iastore, 1) := by decide +kernel
theorem smd_T_enqueue_10 : decode prog_4_method_7_code 10 = .ok (.aload_n 0, 1) := by decide +kernel
theorem smd_T_enqueue_11 : decode prog_4_method_7_code 11 = .ok (.dup, 1) := by decide +kernel
theorem smd_T_enqueue_12 : decode prog_4_method_7_code 12 = .ok (.getfield 41, 3) := by decide +kernel
theorem smd_T_enqueue_15 : decode prog_4_method_7_code 15 = .ok (.iconst 1, 1) := by decide +kernel
theorem smd_T_enqueue_16 : decode prog_4_method_7_code 16 = .ok (.iadd, 1) := by decide +kernel
theorem smd_T_enqueue_17 : decode prog_4_method_7_code 17 = .ok (.putfield 41, 3) := by decide +kernel
theorem smd_T_enqueue_20 : decode prog_4_method_7_code 20 = .ok (.return_, 1) := by decide +kernel
theorem smd_T_takeOldest_0 : decode prog_4_method_8_code 0 = .ok (.aload_n 0, 1) := by decide +kernel
theorem smd_T_takeOldest_1 : decode prog_4_method_8_code 1 = .ok (.getfield 24, 3) := by decide +kernel
theorem smd_T_takeOldest_4 : decode prog_4_method_8_code 4 = .ok (.iconst 0, 1) := by decide +kernel
theorem smd_T_takeOldest_5 : decode prog_4_method_8_code 5 = .ok (.iaload, 1) := by decide +kernel
theorem smd_T_takeOldest_6 : decode prog_4_method_8_code 6 = .ok (.istore_n 1, 1) := by decide +kernel
theorem smd_T_takeOldest_7 : decode prog_4_method_8_code 7 = .ok (.iconst 1, 1) := by decide +kernel
theorem smd_T_takeOldest_8 : decode prog_4_method_8_code 8 = .ok (.istore_n 2, 1) := by decide +kernel
theorem smd_T_takeOldest_9 : decode prog_4_method_8_code 9 = .ok (.iload_n 2, 1) := by decide +kernel
theorem smd_T_takeOldest_10 : decode prog_4_method_8_code 10 = .ok (.aload_n 0, 1) := by decide +kernel
theorem smd_T_takeOldest_11 : decode prog_4_method_8_code 11 = .ok (.getfield 41, 3) := by decide +kernel
theorem smd_T_takeOldest_14 : decode prog_4_method_8_code 14 = .ok (.if_icmp .ge 23, 3) := by decide +kernel
theorem smd_T_takeOldest_17 : decode prog_4_method_8_code 17 = .ok (.aload_n 0, 1) := by decide +kernel
theorem smd_T_takeOldest_18 : decode prog_4_method_8_code 18 = .ok (.getfield 24, 3) := by decide +kernel
theorem smd_T_takeOldest_21 : decode prog_4_method_8_code 21 = .ok (.iload_n 2, 1) := by decide +kernel
theorem smd_T_takeOldest_22 : decode prog_4_method_8_code 22 = .ok (.iconst 1, 1) := by decide +kernel
theorem smd_T_takeOldest_23 : decode prog_4_method_8_code 23 = .ok (.isub, 1) := by decide +kernel
theorem smd_T_takeOldest_24 : decode prog_4_method_8_code 24 = .ok (.aload_n 0, 1) := by decide +kernel
theorem smd_T_takeOldest_25 : decode prog_4_method_8_code 25 = .ok (.getfield 24, 3) := by decide +kernel
theorem smd_T_takeOldest_28 : decode prog_4_method_8_code 28 = .ok (.iload_n 2, 1) := by decide +kernel
theorem smd_T_takeOldest_29 : decode prog_4_method_8_code 29 = .ok (.iaload, 1) := by decide +kernel
theorem smd_T_takeOldest_30 : decode prog_4_method_8_code 30 = .ok (.iastore, 1) := by decide +kernel
theorem smd_T_takeOldest_31 : decode prog_4_method_8_code 31 = .ok (.iinc 2 1, 3) := by decide +kernel
theorem smd_T_takeOldest_34 : decode prog_4_method_8_code 34 = .ok (.goto (-25), 3) := by decide +kernel
theorem smd_T_takeOldest_37 : decode prog_4_method_8_code 37 = .ok (.aload_n 0, 1) := by decide +kernel
theorem smd_T_takeOldest_38 : decode prog_4_method_8_code 38 = .ok (.dup, 1) := by decide +kernel
theorem smd_T_takeOldest_39 : decode prog_4_method_8_code 39 = .ok (.getfield 41, 3) := by decide +kernel
theorem smd_T_takeOldest_42 : decode prog_4_method_8_code 42 = .ok (.iconst 1, 1) := by decide +kernel
theorem smd_T_takeOldest_43 : decode prog_4_method_8_code 43 = .ok (.isub, 1) := by decide +kernel
theorem smd_T_takeOldest_44 : decode prog_4_method_8_code 44 = .ok (.putfield 41, 3) := by decide +kernel
theorem smd_T_takeOldest_47 : decode prog_4_method_8_code 47 = .ok (.iload_n 1, 1) := by decide +kernel
theorem smd_T_takeOldest_48 : decode prog_4_method_8_code 48 = .ok (.ireturn, 1) := by decide +kernel
theorem smd_V_init_0 : decode prog_5_method_1_code 0 = .ok (.aload_n 0, 1) := by decide +kernel
theorem smd_V_init_1 : decode prog_5_method_1_code 1 = .ok (.invokespecial 3, 3) := by decide +kernel
theorem smd_V_init_4 : decode prog_5_method_1_code 4 = .ok (.aload_n 0, 1) := by decide +kernel
theorem smd_V_init_5 : decode prog_5_method_1_code 5 = .ok (.bipush 6, 2) := by decide +kernel
theorem smd_V_init_7 : decode prog_5_method_1_code 7 = .ok (.newarray .int, 2) := by decide +kernel
theorem smd_V_init_9 : decode prog_5_method_1_code 9 = .ok (.putfield 9, 3) := by decide +kernel
theorem smd_V_init_12 : decode prog_5_method_1_code 12 = .ok (.aload_n 0, 1) := by decide +kernel
theorem smd_V_init_13 : decode prog_5_method_1_code 13 = .ok (.bipush 72, 2) := by decide +kernel
theorem smd_V_init_15 : decode prog_5_method_1_code 15 = .ok (.newarray .int, 2) := by decide +kernel
theorem smd_V_init_17 : decode prog_5_method_1_code 17 = .ok (.putfield 15, 3) := by decide +kernel
theorem smd_V_init_20 : decode prog_5_method_1_code 20 = .ok (.aload_n 0, 1) := by decide +kernel
theorem smd_V_init_21 : decode prog_5_method_1_code 21 = .ok (.bipush 72, 2) := by decide +kernel
theorem smd_V_init_23 : decode prog_5_method_1_code 23 = .ok (.newarray .int, 2) := by decide +kernel
theorem smd_V_init_25 : decode prog_5_method_1_code 25 = .ok (.putfield 18, 3) := by decide +kernel
theorem smd_V_init_28 : decode prog_5_method_1_code 28 = .ok (.aload_n 0, 1) := by decide +kernel
theorem smd_V_init_29 : decode prog_5_method_1_code 29 = .ok (.bipush 72, 2) := by decide +kernel
theorem smd_V_init_31 : decode prog_5_method_1_code 31 = .ok (.newarray .int, 2) := by decide +kernel
theorem smd_V_init_33 : decode prog_5_method_1_code 33 = .ok (.putfield 21, 3) := by decide +kernel
theorem smd_V_init_36 : decode prog_5_method_1_code 36 = .ok (.aload_n 0, 1) := by decide +kernel
theorem smd_V_init_37 : decode prog_5_method_1_code 37 = .ok (.bipush 72, 2) := by decide +kernel
theorem smd_V_init_39 : decode prog_5_method_1_code 39 = .ok (.newarray .int, 2) := by decide +kernel
theorem smd_V_init_41 : decode prog_5_method_1_code 41 = .ok (.putfield 24, 3) := by decide +kernel
theorem smd_V_init_44 : decode prog_5_method_1_code 44 = .ok (.aload_n 0, 1) := by decide +kernel
theorem smd_V_init_45 : decode prog_5_method_1_code 45 = .ok (.iconst 3, 1) := by decide +kernel
theorem smd_V_init_46 : decode prog_5_method_1_code 46 = .ok (.newarray .int, 2) := by decide +kernel
theorem smd_V_init_48 : decode prog_5_method_1_code 48 = .ok (.putfield 27, 3) := by decide +kernel
theorem smd_V_init_51 : decode prog_5_method_1_code 51 = .ok (.return_, 1) := by decide +kernel
theorem smd_V_at_0 : decode prog_5_method_2_code 0 = .ok (.iload_n 0, 1) := by decide +kernel
theorem smd_V_at_1 : decode prog_5_method_2_code 1 = .ok (.bipush 12, 2) := by decide +kernel
theorem smd_V_at_3 : decode prog_5_method_2_code 3 = .ok (.imul, 1) := by decide +kernel
theorem smd_V_at_4 : decode prog_5_method_2_code 4 = .ok (.iload_n 1, 1) := by decide +kernel
theorem smd_V_at_5 : decode prog_5_method_2_code 5 = .ok (.iadd, 1) := by decide +kernel
theorem smd_V_at_6 : decode prog_5_method_2_code 6 = .ok (.ireturn, 1) := by decide +kernel
theorem smd_V_hasProcedure_0 : decode prog_5_method_3_code 0 = .ok (.iload_n 1, 1) := by decide +kernel
theorem smd_V_hasProcedure_1 : decode prog_5_method_3_code 1 = .ok (.bipush 6, 2) := by decide +kernel
theorem smd_V_hasProcedure_3 : decode prog_5_method_3_code 3 = .ok (.invokestatic 30, 3) := by decide +kernel
theorem smd_V_hasProcedure_6 : decode prog_5_method_3_code 6 = .ok (.ifCond .eq 16, 3) := by decide +kernel
theorem smd_V_hasProcedure_9 : decode prog_5_method_3_code 9 = .ok (.aload_n 0, 1) := by decide +kernel
theorem smd_V_hasProcedure_10 : decode prog_5_method_3_code 10 = .ok (.getfield 9, 3) := by decide +kernel
theorem smd_V_hasProcedure_13 : decode prog_5_method_3_code 13 = .ok (.iload_n 1, 1) := by decide +kernel
theorem smd_V_hasProcedure_14 : decode prog_5_method_3_code 14 = .ok (.iaload, 1) := by decide +kernel
theorem smd_V_hasProcedure_15 : decode prog_5_method_3_code 15 = .ok (.ifCond .le 7, 3) := by decide +kernel
theorem smd_V_hasProcedure_18 : decode prog_5_method_3_code 18 = .ok (.iconst 1, 1) := by decide +kernel
theorem smd_V_hasProcedure_19 : decode prog_5_method_3_code 19 = .ok (.goto 4, 3) := by decide +kernel
theorem smd_V_hasProcedure_22 : decode prog_5_method_3_code 22 = .ok (.iconst 0, 1) := by decide +kernel
theorem smd_V_hasProcedure_23 : decode prog_5_method_3_code 23 = .ok (.ireturn, 1) := by decide +kernel
theorem smd_V_write_0 : decode prog_5_method_4_code 0 = .ok (.iload_n 1, 1) := by decide +kernel
theorem smd_V_write_1 : decode prog_5_method_4_code 1 = .ok (.iload_n 2, 1) := by decide +kernel
theorem smd_V_write_2 : decode prog_5_method_4_code 2 = .ok (.invokestatic 34, 3) := by decide +kernel
theorem smd_V_write_5 : decode prog_5_method_4_code 5 = .ok (.istore 7, 2) := by decide +kernel
theorem smd_V_write_7 : decode prog_5_method_4_code 7 = .ok (.aload_n 0, 1) := by decide +kernel
theorem smd_V_write_8 : decode prog_5_method_4_code 8 = .ok (.getfield 15, 3) := by decide +kernel
theorem smd_V_write_11 : decode prog_5_method_4_code 11 = .ok (.iload 7, 2) := by decide +kernel
theorem smd_V_write_13 : decode prog_5_method_4_code 13 = .ok (.iload_n 3, 1) := by decide +kernel
theorem smd_V_write_14 : decode prog_5_method_4_code 14 = .ok (.iastore, 1) := by decide +kernel
theorem smd_V_write_15 : decode prog_5_method_4_code 15 = .ok (.aload_n 0, 1) := by decide +kernel
theorem smd_V_write_16 : decode prog_5_method_4_code 16 = .ok (.getfield 18, 3) := by decide +kernel
theorem smd_V_write_19 : decode prog_5_method_4_code 19 = .ok (.iload 7, 2) := by decide +kernel
theorem smd_V_write_21 : decode prog_5_method_4_code 21 = .ok (.iload 4, 2) := by decide +kernel
theorem smd_V_write_23 : decode prog_5_method_4_code 23 = .ok (.iastore, 1) := by decide +kernel
theorem smd_V_write_24 : decode prog_5_method_4_code 24 = .ok (.aload_n 0, 1) := by decide +kernel
theorem smd_V_write_25 : decode prog_5_method_4_code 25 = .ok (.getfield 21, 3) := by decide +kernel
theorem smd_V_write_28 : decode prog_5_method_4_code 28 = .ok (.iload 7, 2) := by decide +kernel
theorem smd_V_write_30 : decode prog_5_method_4_code 30 = .ok (.iload 5, 2) := by decide +kernel
theorem smd_V_write_32 : decode prog_5_method_4_code 32 = .ok (.iastore, 1) := by decide +kernel
theorem smd_V_write_33 : decode prog_5_method_4_code 33 = .ok (.aload_n 0, 1) := by decide +kernel
theorem smd_V_write_34 : decode prog_5_method_4_code 34 = .ok (.getfield 24, 3) := by decide +kernel
theorem smd_V_write_37 : decode prog_5_method_4_code 37 = .ok (.iload 7, 2) := by decide +kernel
theorem smd_V_write_39 : decode prog_5_method_4_code 39 = .ok (.iload 6, 2) := by decide +kernel
theorem smd_V_write_41 : decode prog_5_method_4_code 41 = .ok (.iastore, 1) := by decide +kernel
theorem smd_V_write_42 : decode prog_5_method_4_code 42 = .ok (.aload_n 0, 1) := by decide +kernel
theorem smd_V_write_43 : decode prog_5_method_4_code 43 = .ok (.getfield 9, 3) := by decide +kernel
theorem smd_V_write_46 : decode prog_5_method_4_code 46 = .ok (.iload_n 1, 1) := by decide +kernel
theorem smd_V_write_47 : decode prog_5_method_4_code 47 = .ok (.aload_n 0, 1) := by decide +kernel
theorem smd_V_write_48 : decode prog_5_method_4_code 48 = .ok (.getfield 9, 3) := by decide +kernel
theorem smd_V_write_51 : decode prog_5_method_4_code 51 = .ok (.iload_n 1, 1) := by decide +kernel
theorem smd_V_write_52 : decode prog_5_method_4_code 52 = .ok (.iaload, 1) := by decide +kernel
theorem smd_V_write_53 : decode prog_5_method_4_code 53 = .ok (.iload_n 2, 1) := by decide +kernel
theorem smd_V_write_54 : decode prog_5_method_4_code 54 = .ok (.iconst 1, 1) := by decide +kernel
theorem smd_V_write_55 : decode prog_5_method_4_code 55 = .ok (.iadd, 1) := by decide +kernel
theorem smd_V_write_56 : decode prog_5_method_4_code 56 = .ok (.invokestatic 38, 3) := by decide +kernel
theorem smd_V_write_59 : decode prog_5_method_4_code 59 = .ok (.iastore, 1) := by decide +kernel
theorem smd_V_write_60 : decode prog_5_method_4_code 60 = .ok (.return_, 1) := by decide +kernel
theorem smd_V_copyFrom_0 : decode prog_5_method_5_code 0 = .ok (.aload_n 1, 1) := by decide +kernel
theorem smd_V_copyFrom_1 : decode prog_5_method_5_code 1 = .ok (.getfield 9, 3) := by decide +kernel
theorem smd_V_copyFrom_4 : decode prog_5_method_5_code 4 = .ok (.iconst 0, 1) := by decide +kernel
theorem smd_V_copyFrom_5 : decode prog_5_method_5_code 5 = .ok (.aload_n 0, 1) := by decide +kernel
theorem smd_V_copyFrom_6 : decode prog_5_method_5_code 6 = .ok (.getfield 9, 3) := by decide +kernel
theorem smd_V_copyFrom_9 : decode prog_5_method_5_code 9 = .ok (.iconst 0, 1) := by decide +kernel
theorem smd_V_copyFrom_10 : decode prog_5_method_5_code 10 = .ok (.aload_n 0, 1) := by decide +kernel
theorem smd_V_copyFrom_11 : decode prog_5_method_5_code 11 = .ok (.getfield 9, 3) := by decide +kernel
theorem smd_V_copyFrom_14 : decode prog_5_method_5_code 14 = .ok (.arraylength, 1) := by decide +kernel
theorem smd_V_copyFrom_15 : decode prog_5_method_5_code 15 = .ok (.invokestatic 43, 3) := by decide +kernel
theorem smd_V_copyFrom_18 : decode prog_5_method_5_code 18 = .ok (.aload_n 1, 1) := by decide +kernel
theorem smd_V_copyFrom_19 : decode prog_5_method_5_code 19 = .ok (.getfield 15, 3) := by decide +kernel
theorem smd_V_copyFrom_22 : decode prog_5_method_5_code 22 = .ok (.iconst 0, 1) := by decide +kernel
theorem smd_V_copyFrom_23 : decode prog_5_method_5_code 23 = .ok (.aload_n 0, 1) := by decide +kernel
theorem smd_V_copyFrom_24 : decode prog_5_method_5_code 24 = .ok (.getfield 15, 3) := by decide +kernel
theorem smd_V_copyFrom_27 : decode prog_5_method_5_code 27 = .ok (.iconst 0, 1) := by decide +kernel
theorem smd_V_copyFrom_28 : decode prog_5_method_5_code 28 = .ok (.aload_n 0, 1) := by decide +kernel
theorem smd_V_copyFrom_29 : decode prog_5_method_5_code 29 = .ok (.getfield 15, 3) := by decide +kernel
theorem smd_V_copyFrom_32 : decode prog_5_method_5_code 32 = .ok (.arraylength, 1) := by decide +kernel
theorem smd_V_copyFrom_33 : decode prog_5_method_5_code 33 = .ok (.invokestatic 43, 3) := by decide +kernel
theorem smd_V_copyFrom_36 : decode prog_5_method_5_code 36 = .ok (.aload_n 1, 1) := by decide +kernel
theorem smd_V_copyFrom_37 : decode prog_5_method_5_code 37 = .ok (.getfield 18, 3) := by decide +kernel
theorem smd_V_copyFrom_40 : decode prog_5_method_5_code 40 = .ok (.iconst 0, 1) := by decide +kernel
theorem smd_V_copyFrom_41 : decode prog_5_method_5_code 41 = .ok (.aload_n 0, 1) := by decide +kernel
theorem smd_V_copyFrom_42 : decode prog_5_method_5_code 42 = .ok (.getfield 18, 3) := by decide +kernel
theorem smd_V_copyFrom_45 : decode prog_5_method_5_code 45 = .ok (.iconst 0, 1) := by decide +kernel
theorem smd_V_copyFrom_46 : decode prog_5_method_5_code 46 = .ok (.aload_n 0, 1) := by decide +kernel
theorem smd_V_copyFrom_47 : decode prog_5_method_5_code 47 = .ok (.getfield 18, 3) := by decide +kernel
theorem smd_V_copyFrom_50 : decode prog_5_method_5_code 50 = .ok (.arraylength, 1) := by decide +kernel
theorem smd_V_copyFrom_51 : decode prog_5_method_5_code 51 = .ok (.invokestatic 43, 3) := by decide +kernel
theorem smd_V_copyFrom_54 : decode prog_5_method_5_code 54 = .ok (.aload_n 1, 1) := by decide +kernel
theorem smd_V_copyFrom_55 : decode prog_5_method_5_code 55 = .ok (.getfield 21, 3) := by decide +kernel
theorem smd_V_copyFrom_58 : decode prog_5_method_5_code 58 = .ok (.iconst 0, 1) := by decide +kernel
theorem smd_V_copyFrom_59 : decode prog_5_method_5_code 59 = .ok (.aload_n 0, 1) := by decide +kernel
theorem smd_V_copyFrom_60 : decode prog_5_method_5_code 60 = .ok (.getfield 21, 3) := by decide +kernel
theorem smd_V_copyFrom_63 : decode prog_5_method_5_code 63 = .ok (.iconst 0, 1) := by decide +kernel
theorem smd_V_copyFrom_64 : decode prog_5_method_5_code 64 = .ok (.aload_n 0, 1) := by decide +kernel
theorem smd_V_copyFrom_65 : decode prog_5_method_5_code 65 = .ok (.getfield 21, 3) := by decide +kernel
theorem smd_V_copyFrom_68 : decode prog_5_method_5_code 68 = .ok (.arraylength, 1) := by decide +kernel
theorem smd_V_copyFrom_69 : decode prog_5_method_5_code 69 = .ok (.invokestatic 43, 3) := by decide +kernel
theorem smd_V_copyFrom_72 : decode prog_5_method_5_code 72 = .ok (.aload_n 1, 1) := by decide +kernel
theorem smd_V_copyFrom_73 : decode prog_5_method_5_code 73 = .ok (.getfield 24, 3) := by decide +kernel
theorem smd_V_copyFrom_76 : decode prog_5_method_5_code 76 = .ok (.iconst 0, 1) := by decide +kernel
theorem smd_V_copyFrom_77 : decode prog_5_method_5_code 77 = .ok (.aload_n 0, 1) := by decide +kernel
theorem smd_V_copyFrom_78 : decode prog_5_method_5_code 78 = .ok (.getfield 24, 3) := by decide +kernel
theorem smd_V_copyFrom_81 : decode prog_5_method_5_code 81 = .ok (.iconst 0, 1) := by decide +kernel
theorem smd_V_copyFrom_82 : decode prog_5_method_5_code 82 = .ok (.aload_n 0, 1) := by decide +kernel
theorem smd_V_copyFrom_83 : decode prog_5_method_5_code 83 = .ok (.getfield 24, 3) := by decide +kernel
theorem smd_V_copyFrom_86 : decode prog_5_method_5_code 86 = .ok (.arraylength, 1) := by decide +kernel
theorem smd_V_copyFrom_87 : decode prog_5_method_5_code 87 = .ok (.invokestatic 43, 3) := by decide +kernel
theorem smd_V_copyFrom_90 : decode prog_5_method_5_code 90 = .ok (.aload_n 1, 1) := by decide +kernel
theorem smd_V_copyFrom_91 : decode prog_5_method_5_code 91 = .ok (.getfield 27, 3) := by decide +kernel
theorem smd_V_copyFrom_94 : decode prog_5_method_5_code 94 = .ok (.iconst 0, 1) := by decide +kernel
theorem smd_V_copyFrom_95 : decode prog_5_method_5_code 95 = .ok (.aload_n 0, 1) := by decide +kernel
theorem smd_V_copyFrom_96 : decode prog_5_method_5_code 96 = .ok (.getfield 27, 3) := by decide +kernel
theorem smd_V_copyFrom_99 : decode prog_5_method_5_code 99 = .ok (.iconst 0, 1) := by decide +kernel
theorem smd_V_copyFrom_100 : decode prog_5_method_5_code 100 = .ok (.aload_n 0, 1) := by decide +kernel
theorem smd_V_copyFrom_101 : decode prog_5_method_5_code 101 = .ok (.getfield 27, 3) := by decide +kernel
theorem smd_V_copyFrom_104 : decode prog_5_method_5_code 104 = .ok (.arraylength, 1) := by decide +kernel
theorem smd_V_copyFrom_105 : decode prog_5_method_5_code 105 = .ok (.invokestatic 43, 3) := by decide +kernel
theorem smd_V_copyFrom_108 : decode prog_5_method_5_code 108 = .ok (.return_, 1) := by decide +kernel
theorem smd_V_hasSameProcedure_0 : decode prog_5_method_6_code 0 = .ok (.aload_n 0, 1) := by decide +kernel
theorem smd_V_hasSameProcedure_1 : decode prog_5_method_6_code 1 = .ok (.getfield 9, 3) := by decide +kernel
theorem smd_V_hasSameProcedure_4 : decode prog_5_method_6_code 4 = .ok (.iload_n 2, 1) := by decide +kernel
theorem smd_V_hasSameProcedure_5 : decode prog_5_method_6_code 5 = .ok (.iaload, 1) := by decide +kernel
theorem smd_V_hasSameProcedure_6 : decode prog_5_method_6_code 6 = .ok (.aload_n 1, 1) := by decide +kernel
theorem smd_V_hasSameProcedure_7 : decode prog_5_method_6_code 7 = .ok (.getfield 9, 3) := by decide +kernel
theorem smd_V_hasSameProcedure_10 : decode prog_5_method_6_code 10 = .ok (.iload_n 2, 1) := by decide +kernel
theorem smd_V_hasSameProcedure_11 : decode prog_5_method_6_code 11 = .ok (.iaload, 1) := by decide +kernel
theorem smd_V_hasSameProcedure_12 : decode prog_5_method_6_code 12 = .ok (.if_icmp .eq 5, 3) := by decide +kernel
theorem smd_V_hasSameProcedure_15 : decode prog_5_method_6_code 15 = .ok (.iconst 0, 1) := by decide +kernel
theorem smd_V_hasSameProcedure_16 : decode prog_5_method_6_code 16 = .ok (.ireturn, 1) := by decide +kernel
theorem smd_V_hasSameProcedure_17 : decode prog_5_method_6_code 17 = .ok (.iload_n 2, 1) := by decide +kernel
theorem smd_V_hasSameProcedure_18 : decode prog_5_method_6_code 18 = .ok (.iconst 0, 1) := by decide +kernel
theorem smd_V_hasSameProcedure_19 : decode prog_5_method_6_code 19 = .ok (.invokestatic 34, 3) := by decide +kernel
theorem smd_V_hasSameProcedure_22 : decode prog_5_method_6_code 22 = .ok (.istore_n 3, 1) := by decide +kernel
theorem smd_V_hasSameProcedure_23 : decode prog_5_method_6_code 23 = .ok (.iload_n 3, 1) := by decide +kernel
theorem smd_V_hasSameProcedure_24 : decode prog_5_method_6_code 24 = .ok (.iload_n 2, 1) := by decide +kernel
theorem smd_V_hasSameProcedure_25 : decode prog_5_method_6_code 25 = .ok (.aload_n 0, 1) := by decide +kernel
theorem smd_V_hasSameProcedure_26 : decode prog_5_method_6_code 26 = .ok (.getfield 9, 3) := by decide +kernel
theorem smd_V_hasSameProcedure_29 : decode prog_5_method_6_code 29 = .ok (.iload_n 2, 1) := by decide +kernel
theorem smd_V_hasSameProcedure_30 : decode prog_5_method_6_code 30 = .ok (.iaload, 1) := by decide +kernel
theorem smd_V_hasSameProcedure_31 : decode prog_5_method_6_code 31 = .ok (.invokestatic 34, 3) := by decide +kernel
theorem smd_V_hasSameProcedure_34 : decode prog_5_method_6_code 34 = .ok (.if_icmp .ge 71, 3) := by decide +kernel
theorem smd_V_hasSameProcedure_37 : decode prog_5_method_6_code 37 = .ok (.aload_n 0, 1) := by decide +kernel
theorem smd_V_hasSameProcedure_38 : decode prog_5_method_6_code 38 = .ok (.getfield 15, 3) := by decide +kernel
theorem smd_V_hasSameProcedure_41 : decode prog_5_method_6_code 41 = .ok (.iload_n 3, 1) := by decide +kernel
theorem smd_V_hasSameProcedure_42 : decode prog_5_method_6_code 42 = .ok (.iaload, 1) := by decide +kernel
theorem smd_V_hasSameProcedure_43 : decode prog_5_method_6_code 43 = .ok (.aload_n 1, 1) := by decide +kernel
theorem smd_V_hasSameProcedure_44 : decode prog_5_method_6_code 44 = .ok (.getfield 15, 3) := by decide +kernel
theorem smd_V_hasSameProcedure_47 : decode prog_5_method_6_code 47 = .ok (.iload_n 3, 1) := by decide +kernel
theorem smd_V_hasSameProcedure_48 : decode prog_5_method_6_code 48 = .ok (.iaload, 1) := by decide +kernel
theorem smd_V_hasSameProcedure_49 : decode prog_5_method_6_code 49 = .ok (.if_icmp .ne 48, 3) := by decide +kernel
theorem smd_V_hasSameProcedure_52 : decode prog_5_method_6_code 52 = .ok (.aload_n 0, 1) := by decide +kernel
theorem smd_V_hasSameProcedure_53 : decode prog_5_method_6_code 53 = .ok (.getfield 18, 3) := by decide +kernel
theorem smd_V_hasSameProcedure_56 : decode prog_5_method_6_code 56 = .ok (.iload_n 3, 1) := by decide +kernel
theorem smd_V_hasSameProcedure_57 : decode prog_5_method_6_code 57 = .ok (.iaload, 1) := by decide +kernel
theorem smd_V_hasSameProcedure_58 : decode prog_5_method_6_code 58 = .ok (.aload_n 1, 1) := by decide +kernel
theorem smd_V_hasSameProcedure_59 : decode prog_5_method_6_code 59 = .ok (.getfield 18, 3) := by decide +kernel
theorem smd_V_hasSameProcedure_62 : decode prog_5_method_6_code 62 = .ok (.iload_n 3, 1) := by decide +kernel
theorem smd_V_hasSameProcedure_63 : decode prog_5_method_6_code 63 = .ok (.iaload, 1) := by decide +kernel
theorem smd_V_hasSameProcedure_64 : decode prog_5_method_6_code 64 = .ok (.if_icmp .ne 33, 3) := by decide +kernel
theorem smd_V_hasSameProcedure_67 : decode prog_5_method_6_code 67 = .ok (.aload_n 0, 1) := by decide +kernel
theorem smd_V_hasSameProcedure_68 : decode prog_5_method_6_code 68 = .ok (.getfield 21, 3) := by decide +kernel
theorem smd_V_hasSameProcedure_71 : decode prog_5_method_6_code 71 = .ok (.iload_n 3, 1) := by decide +kernel
theorem smd_V_hasSameProcedure_72 : decode prog_5_method_6_code 72 = .ok (.iaload, 1) := by decide +kernel
theorem smd_V_hasSameProcedure_73 : decode prog_5_method_6_code 73 = .ok (.aload_n 1, 1) := by decide +kernel
theorem smd_V_hasSameProcedure_74 : decode prog_5_method_6_code 74 = .ok (.getfield 21, 3) := by decide +kernel
theorem smd_V_hasSameProcedure_77 : decode prog_5_method_6_code 77 = .ok (.iload_n 3, 1) := by decide +kernel
theorem smd_V_hasSameProcedure_78 : decode prog_5_method_6_code 78 = .ok (.iaload, 1) := by decide +kernel
theorem smd_V_hasSameProcedure_79 : decode prog_5_method_6_code 79 = .ok (.if_icmp .ne 18, 3) := by decide +kernel
theorem smd_V_hasSameProcedure_82 : decode prog_5_method_6_code 82 = .ok (.aload_n 0, 1) := by decide +kernel
theorem smd_V_hasSameProcedure_83 : decode prog_5_method_6_code 83 = .ok (.getfield 24, 3) := by decide +kernel
theorem smd_V_hasSameProcedure_86 : decode prog_5_method_6_code 86 = .ok (.iload_n 3, 1) := by decide +kernel
theorem smd_V_hasSameProcedure_87 : decode prog_5_method_6_code 87 = .ok (.iaload, 1) := by decide +kernel
theorem smd_V_hasSameProcedure_88 : decode prog_5_method_6_code 88 = .ok (.aload_n 1, 1) := by decide +kernel
theorem smd_V_hasSameProcedure_89 : decode prog_5_method_6_code 89 = .ok (.getfield 24, 3) := by decide +kernel
theorem smd_V_hasSameProcedure_92 : decode prog_5_method_6_code 92 = .ok (.iload_n 3, 1) := by decide +kernel
theorem smd_V_hasSameProcedure_93 : decode prog_5_method_6_code 93 = .ok (.iaload, 1) := by decide +kernel
theorem smd_V_hasSameProcedure_94 : decode prog_5_method_6_code 94 = .ok (.if_icmp .eq 5, 3) := by decide +kernel
theorem smd_V_hasSameProcedure_97 : decode prog_5_method_6_code 97 = .ok (.iconst 0, 1) := by decide +kernel
theorem smd_V_hasSameProcedure_98 : decode prog_5_method_6_code 98 = .ok (.ireturn, 1) := by decide +kernel
theorem smd_V_hasSameProcedure_99 : decode prog_5_method_6_code 99 = .ok (.iinc 3 1, 3) := by decide +kernel
theorem smd_V_hasSameProcedure_102 : decode prog_5_method_6_code 102 = .ok (.goto (-79), 3) := by decide +kernel
theorem smd_V_hasSameProcedure_105 : decode prog_5_method_6_code 105 = .ok (.iconst 1, 1) := by decide +kernel
theorem smd_V_hasSameProcedure_106 : decode prog_5_method_6_code 106 = .ok (.ireturn, 1) := by decide +kernel
theorem smd_V_usesTouchedType_0 : decode prog_5_method_7_code 0 = .ok (.iload_n 1, 1) := by decide +kernel
theorem smd_V_usesTouchedType_1 : decode prog_5_method_7_code 1 = .ok (.iconst 0, 1) := by decide +kernel
theorem smd_V_usesTouchedType_2 : decode prog_5_method_7_code 2 = .ok (.invokestatic 34, 3) := by decide +kernel
theorem smd_V_usesTouchedType_5 : decode prog_5_method_7_code 5 = .ok (.istore_n 3, 1) := by decide +kernel
theorem smd_V_usesTouchedType_6 : decode prog_5_method_7_code 6 = .ok (.iload_n 3, 1) := by decide +kernel
theorem smd_V_usesTouchedType_7 : decode prog_5_method_7_code 7 = .ok (.iload_n 1, 1) := by decide +kernel
theorem smd_V_usesTouchedType_8 : decode prog_5_method_7_code 8 = .ok (.aload_n 0, 1) := by decide +kernel
theorem smd_V_usesTouchedType_9 : decode prog_5_method_7_code 9 = .ok (.getfield 9, 3) := by decide +kernel
theorem smd_V_usesTouchedType_12 : decode prog_5_method_7_code 12 = .ok (.iload_n 1, 1) := by decide +kernel
theorem smd_V_usesTouchedType_13 : decode prog_5_method_7_code 13 = .ok (.iaload, 1) := by decide +kernel
theorem smd_V_usesTouchedType_14 : decode prog_5_method_7_code 14 = .ok (.invokestatic 34, 3) := by decide +kernel
theorem smd_V_usesTouchedType_17 : decode prog_5_method_7_code 17 = .ok (.if_icmp .ge 31, 3) := by decide +kernel
theorem smd_V_usesTouchedType_20 : decode prog_5_method_7_code 20 = .ok (.aload_n 0, 1) := by decide +kernel
theorem smd_V_usesTouchedType_21 : decode prog_5_method_7_code 21 = .ok (.iload_n 3, 1) := by decide +kernel
theorem smd_V_usesTouchedType_22 : decode prog_5_method_7_code 22 = .ok (.invokevirtual 49, 3) := by decide +kernel
theorem smd_V_usesTouchedType_25 : decode prog_5_method_7_code 25 = .ok (.istore 4, 2) := by decide +kernel
theorem smd_V_usesTouchedType_27 : decode prog_5_method_7_code 27 = .ok (.iload 4, 2) := by decide +kernel
theorem smd_V_usesTouchedType_29 : decode prog_5_method_7_code 29 = .ok (.iconst (-1), 1) := by decide +kernel
theorem smd_V_usesTouchedType_30 : decode prog_5_method_7_code 30 = .ok (.if_icmp .eq 12, 3) := by decide +kernel
theorem smd_V_usesTouchedType_33 : decode prog_5_method_7_code 33 = .ok (.aload_n 2, 1) := by decide +kernel
theorem smd_V_usesTouchedType_34 : decode prog_5_method_7_code 34 = .ok (.iload 4, 2) := by decide +kernel
theorem smd_V_usesTouchedType_36 : decode prog_5_method_7_code 36 = .ok (.baload, 1) := by decide +kernel
theorem smd_V_usesTouchedType_37 : decode prog_5_method_7_code 37 = .ok (.ifCond .eq 5, 3) := by decide +kernel
theorem smd_V_usesTouchedType_40 : decode prog_5_method_7_code 40 = .ok (.iconst 1, 1) := by decide +kernel
theorem smd_V_usesTouchedType_41 : decode prog_5_method_7_code 41 = .ok (.ireturn, 1) := by decide +kernel
theorem smd_V_usesTouchedType_42 : decode prog_5_method_7_code 42 = .ok (.iinc 3 1, 3) := by decide +kernel
theorem smd_V_usesTouchedType_45 : decode prog_5_method_7_code 45 = .ok (.goto (-39), 3) := by decide +kernel
theorem smd_V_usesTouchedType_48 : decode prog_5_method_7_code 48 = .ok (.iconst 0, 1) := by decide +kernel
theorem smd_V_usesTouchedType_49 : decode prog_5_method_7_code 49 = .ok (.ireturn, 1) := by decide +kernel
theorem smd_V_typeUsed_0 : decode prog_5_method_8_code 0 = .ok (.aload_n 0, 1) := by decide +kernel
theorem smd_V_typeUsed_1 : decode prog_5_method_8_code 1 = .ok (.getfield 15, 3) := by decide +kernel
theorem smd_V_typeUsed_4 : decode prog_5_method_8_code 4 = .ok (.iload_n 1, 1) := by decide +kernel
theorem smd_V_typeUsed_5 : decode prog_5_method_8_code 5 = .ok (.iaload, 1) := by decide +kernel
theorem smd_V_typeUsed_6 : decode prog_5_method_8_code 6 = .ok (.tableswitch 42 6 8 #[26, 33, 33], 26) := by decide +kernel
theorem smd_V_typeUsed_32 : decode prog_5_method_8_code 32 = .ok (.aload_n 0, 1) := by decide +kernel
theorem smd_V_typeUsed_33 : decode prog_5_method_8_code 33 = .ok (.getfield 21, 3) := by decide +kernel
theorem smd_V_typeUsed_36 : decode prog_5_method_8_code 36 = .ok (.iload_n 1, 1) := by decide +kernel
theorem smd_V_typeUsed_37 : decode prog_5_method_8_code 37 = .ok (.iaload, 1) := by decide +kernel
theorem smd_V_typeUsed_38 : decode prog_5_method_8_code 38 = .ok (.ireturn, 1) := by decide +kernel
theorem smd_V_typeUsed_39 : decode prog_5_method_8_code 39 = .ok (.aload_n 0, 1) := by decide +kernel
theorem smd_V_typeUsed_40 : decode prog_5_method_8_code 40 = .ok (.getfield 24, 3) := by decide +kernel
theorem smd_V_typeUsed_43 : decode prog_5_method_8_code 43 = .ok (.iload_n 1, 1) := by decide +kernel
theorem smd_V_typeUsed_44 : decode prog_5_method_8_code 44 = .ok (.iaload, 1) := by decide +kernel
theorem smd_V_typeUsed_45 : decode prog_5_method_8_code 45 = .ok (.iconst 4, 1) := by decide +kernel
theorem smd_V_typeUsed_46 : decode prog_5_method_8_code 46 = .ok (.idiv, 1) := by decide +kernel
theorem smd_V_typeUsed_47 : decode prog_5_method_8_code 47 = .ok (.ireturn, 1) := by decide +kernel
theorem smd_V_typeUsed_48 : decode prog_5_method_8_code 48 = .ok (.iconst (-1), 1) := by decide +kernel
theorem smd_V_typeUsed_49 : decode prog_5_method_8_code 49 = .ok (.ireturn, 1) := by decide +kernel
end
section
theorem smd_V_firstPoint_0 : decode prog_5_method_9_code 0 = .ok (.iconst 0, 1) := by decide +kernel
theorem smd_V_firstPoint_1 : decode prog_5_method_9_code 1 = .ok (.istore_n 3, 1) := by decide +kernel
theorem smd_V_firstPoint_2 : decode prog_5_method_9_code 2 = .ok (.iload_n 3, 1) := by decide +kernel
theorem smd_V_firstPoint_3 : decode prog_5_method_9_code 3 = .ok (.aload_n 0, 1) := by decide +kernel
theorem smd_V_firstPoint_4 : decode prog_5_method_9_code 4 = .ok (.getfield 9, 3) := by decide +kernel
theorem smd_V_firstPoint_7 : decode prog_5_method_9_code 7 = .ok (.iload_n 1, 1) := by decide +kernel
theorem smd_V_firstPoint_8 : decode prog_5_method_9_code 8 = .ok (.iaload, 1) := by decide +kernel
theorem smd_V_firstPoint_9 : decode prog_5_method_9_code 9 = .ok (.if_icmp .ge 40, 3) := by decide +kernel
theorem smd_V_firstPoint_12 : decode prog_5_method_9_code 12 = .ok (.aload_n 0, 1) := by decide +kernel
theorem smd_V_firstPoint_13 : decode prog_5_method_9_code 13 = .ok (.getfield 15, 3) := by decide +kernel
theorem smd_V_firstPoint_16 : decode prog_5_method_9_code 16 = .ok (.iload_n 1, 1) := by decide +kernel
theorem smd_V_firstPoint_17 : decode prog_5_method_9_code 17 = .ok (.iload_n 3, 1) := by decide +kernel
theorem smd_V_firstPoint_18 : decode prog_5_method_9_code 18 = .ok (.invokestatic 34, 3) := by decide +kernel
theorem smd_V_firstPoint_21 : decode prog_5_method_9_code 21 = .ok (.iaload, 1) := by decide +kernel
theorem smd_V_firstPoint_22 : decode prog_5_method_9_code 22 = .ok (.bipush 12, 2) := by decide +kernel
theorem smd_V_firstPoint_24 : decode prog_5_method_9_code 24 = .ok (.if_icmp .ne 19, 3) := by decide +kernel
theorem smd_V_firstPoint_27 : decode prog_5_method_9_code 27 = .ok (.aload_n 0, 1) := by decide +kernel
theorem smd_V_firstPoint_28 : decode prog_5_method_9_code 28 = .ok (.getfield 18, 3) := by decide +kernel
theorem smd_V_firstPoint_31 : decode prog_5_method_9_code 31 = .ok (.iload_n 1, 1) := by decide +kernel
theorem smd_V_firstPoint_32 : decode prog_5_method_9_code 32 = .ok (.iload_n 3, 1) := by decide +kernel
theorem smd_V_firstPoint_33 : decode prog_5_method_9_code 33 = .ok (.invokestatic 34, 3) := by decide +kernel
theorem smd_V_firstPoint_36 : decode prog_5_method_9_code 36 = .ok (.iaload, 1) := by decide +kernel
theorem smd_V_firstPoint_37 : decode prog_5_method_9_code 37 = .ok (.iload_n 2, 1) := by decide +kernel
theorem smd_V_firstPoint_38 : decode prog_5_method_9_code 38 = .ok (.if_icmp .ne 5, 3) := by decide +kernel
theorem smd_V_firstPoint_41 : decode prog_5_method_9_code 41 = .ok (.iload_n 3, 1) := by decide +kernel
theorem smd_V_firstPoint_42 : decode prog_5_method_9_code 42 = .ok (.ireturn, 1) := by decide +kernel
theorem smd_V_firstPoint_43 : decode prog_5_method_9_code 43 = .ok (.iinc 3 1, 3) := by decide +kernel
theorem smd_V_firstPoint_46 : decode prog_5_method_9_code 46 = .ok (.goto (-44), 3) := by decide +kernel
theorem smd_V_firstPoint_49 : decode prog_5_method_9_code 49 = .ok (.iconst (-1), 1) := by decide +kernel
theorem smd_V_firstPoint_50 : decode prog_5_method_9_code 50 = .ok (.ireturn, 1) := by decide +kernel
theorem smd_V_firstWrongWord_0 : decode prog_5_method_10_code 0 = .ok (.iconst 0, 1) := by decide +kernel
theorem smd_V_firstWrongWord_1 : decode prog_5_method_10_code 1 = .ok (.istore_n 1, 1) := by decide +kernel
theorem smd_V_firstWrongWord_2 : decode prog_5_method_10_code 2 = .ok (.iload_n 1, 1) := by decide +kernel
theorem smd_V_firstWrongWord_3 : decode prog_5_method_10_code 3 = .ok (.bipush 6, 2) := by decide +kernel
theorem smd_V_firstWrongWord_5 : decode prog_5_method_10_code 5 = .ok (.if_icmp .ge 77, 3) := by decide +kernel
theorem smd_V_firstWrongWord_8 : decode prog_5_method_10_code 8 = .ok (.iconst 0, 1) := by decide +kernel
theorem smd_V_firstWrongWord_9 : decode prog_5_method_10_code 9 = .ok (.istore_n 2, 1) := by decide +kernel
theorem smd_V_firstWrongWord_10 : decode prog_5_method_10_code 10 = .ok (.iload_n 2, 1) := by decide +kernel
theorem smd_V_firstWrongWord_11 : decode prog_5_method_10_code 11 = .ok (.aload_n 0, 1) := by decide +kernel
theorem smd_V_firstWrongWord_12 : decode prog_5_method_10_code 12 = .ok (.getfield 9, 3) := by decide +kernel
theorem smd_V_firstWrongWord_15 : decode prog_5_method_10_code 15 = .ok (.iload_n 1, 1) := by decide +kernel
theorem smd_V_firstWrongWord_16 : decode prog_5_method_10_code 16 = .ok (.iaload, 1) := by decide +kernel
theorem smd_V_firstWrongWord_17 : decode prog_5_method_10_code 17 = .ok (.if_icmp .ge 59, 3) := by decide +kernel
theorem smd_V_firstWrongWord_20 : decode prog_5_method_10_code 20 = .ok (.iload_n 1, 1) := by decide +kernel
theorem smd_V_firstWrongWord_21 : decode prog_5_method_10_code 21 = .ok (.iload_n 2, 1) := by decide +kernel
theorem smd_V_firstWrongWord_22 : decode prog_5_method_10_code 22 = .ok (.invokestatic 34, 3) := by decide +kernel
theorem smd_V_firstWrongWord_25 : decode prog_5_method_10_code 25 = .ok (.istore_n 3, 1) := by decide +kernel
theorem smd_V_firstWrongWord_26 : decode prog_5_method_10_code 26 = .ok (.iload_n 2, 1) := by decide +kernel
theorem smd_V_firstWrongWord_27 : decode prog_5_method_10_code 27 = .ok (.aload_n 0, 1) := by decide +kernel
theorem smd_V_firstWrongWord_28 : decode prog_5_method_10_code 28 = .ok (.getfield 9, 3) := by decide +kernel
theorem smd_V_firstWrongWord_31 : decode prog_5_method_10_code 31 = .ok (.iload_n 1, 1) := by decide +kernel
theorem smd_V_firstWrongWord_32 : decode prog_5_method_10_code 32 = .ok (.iaload, 1) := by decide +kernel
theorem smd_V_firstWrongWord_33 : decode prog_5_method_10_code 33 = .ok (.iconst 1, 1) := by decide +kernel
theorem smd_V_firstWrongWord_34 : decode prog_5_method_10_code 34 = .ok (.isub, 1) := by decide +kernel
theorem smd_V_firstWrongWord_35 : decode prog_5_method_10_code 35 = .ok (.if_icmp .ne 16, 3) := by decide +kernel
theorem smd_V_firstWrongWord_38 : decode prog_5_method_10_code 38 = .ok (.aload_n 0, 1) := by decide +kernel
theorem smd_V_firstWrongWord_39 : decode prog_5_method_10_code 39 = .ok (.getfield 15, 3) := by decide +kernel
theorem smd_V_firstWrongWord_42 : decode prog_5_method_10_code 42 = .ok (.iload_n 3, 1) := by decide +kernel
theorem smd_V_firstWrongWord_43 : decode prog_5_method_10_code 43 = .ok (.iaload, 1) := by decide +kernel
theorem smd_V_firstWrongWord_44 : decode prog_5_method_10_code 44 = .ok (.ifCond .eq 7, 3) := by decide +kernel
theorem smd_V_firstWrongWord_47 : decode prog_5_method_10_code 47 = .ok (.iconst 1, 1) := by decide +kernel
theorem smd_V_firstWrongWord_48 : decode prog_5_method_10_code 48 = .ok (.goto 4, 3) := by decide +kernel
theorem smd_V_firstWrongWord_51 : decode prog_5_method_10_code 51 = .ok (.iconst 0, 1) := by decide +kernel
theorem smd_V_firstWrongWord_52 : decode prog_5_method_10_code 52 = .ok (.istore 4, 2) := by decide +kernel
theorem smd_V_firstWrongWord_54 : decode prog_5_method_10_code 54 = .ok (.iload 4, 2) := by decide +kernel
theorem smd_V_firstWrongWord_56 : decode prog_5_method_10_code 56 = .ok (.ifCond .ne 12, 3) := by decide +kernel
theorem smd_V_firstWrongWord_59 : decode prog_5_method_10_code 59 = .ok (.aload_n 0, 1) := by decide +kernel
theorem smd_V_firstWrongWord_60 : decode prog_5_method_10_code 60 = .ok (.iload_n 1, 1) := by decide +kernel
theorem smd_V_firstWrongWord_61 : decode prog_5_method_10_code 61 = .ok (.iload_n 3, 1) := by decide +kernel
theorem smd_V_firstWrongWord_62 : decode prog_5_method_10_code 62 = .ok (.invokevirtual 53, 3) := by decide +kernel
theorem smd_V_firstWrongWord_65 : decode prog_5_method_10_code 65 = .ok (.ifCond .ne 5, 3) := by decide +kernel
theorem smd_V_firstWrongWord_68 : decode prog_5_method_10_code 68 = .ok (.iload_n 3, 1) := by decide +kernel
theorem smd_V_firstWrongWord_69 : decode prog_5_method_10_code 69 = .ok (.ireturn, 1) := by decide +kernel
theorem smd_V_firstWrongWord_70 : decode prog_5_method_10_code 70 = .ok (.iinc 2 1, 3) := by decide +kernel
theorem smd_V_firstWrongWord_73 : decode prog_5_method_10_code 73 = .ok (.goto (-63), 3) := by decide +kernel
theorem smd_V_firstWrongWord_76 : decode prog_5_method_10_code 76 = .ok (.iinc 1 1, 3) := by decide +kernel
theorem smd_V_firstWrongWord_79 : decode prog_5_method_10_code 79 = .ok (.goto (-77), 3) := by decide +kernel
theorem smd_V_firstWrongWord_82 : decode prog_5_method_10_code 82 = .ok (.iconst (-1), 1) := by decide +kernel
theorem smd_V_firstWrongWord_83 : decode prog_5_method_10_code 83 = .ok (.ireturn, 1) := by decide +kernel
theorem smd_V_isRight_0 : decode prog_5_method_11_code 0 = .ok (.aload_n 0, 1) := by decide +kernel
theorem smd_V_isRight_1 : decode prog_5_method_11_code 1 = .ok (.getfield 15, 3) := by decide +kernel
theorem smd_V_isRight_4 : decode prog_5_method_11_code 4 = .ok (.iload_n 2, 1) := by decide +kernel
theorem smd_V_isRight_5 : decode prog_5_method_11_code 5 = .ok (.iaload, 1) := by decide +kernel
theorem smd_V_isRight_6 : decode prog_5_method_11_code 6 = .ok (.tableswitch 327 0 12 #[66, 66, 76, 76, 118, 154, 197, 242, 242, 285, 285, 66, 316], 66) := by decide +kernel
theorem smd_V_isRight_72 : decode prog_5_method_11_code 72 = .ok (.aload_n 0, 1) := by decide +kernel
theorem smd_V_isRight_73 : decode prog_5_method_11_code 73 = .ok (.getfield 18, 3) := by decide +kernel
theorem smd_V_isRight_76 : decode prog_5_method_11_code 76 = .ok (.iload_n 2, 1) := by decide +kernel
theorem smd_V_isRight_77 : decode prog_5_method_11_code 77 = .ok (.iaload, 1) := by decide +kernel
theorem smd_V_isRight_78 : decode prog_5_method_11_code 78 = .ok (.invokestatic 56, 3) := by decide +kernel
theorem smd_V_isRight_81 : decode prog_5_method_11_code 81 = .ok (.ireturn, 1) := by decide +kernel
theorem smd_V_isRight_82 : decode prog_5_method_11_code 82 = .ok (.aload_n 0, 1) := by decide +kernel
theorem smd_V_isRight_83 : decode prog_5_method_11_code 83 = .ok (.getfield 18, 3) := by decide +kernel
theorem smd_V_isRight_86 : decode prog_5_method_11_code 86 = .ok (.iload_n 2, 1) := by decide +kernel
theorem smd_V_isRight_87 : decode prog_5_method_11_code 87 = .ok (.iaload, 1) := by decide +kernel
theorem smd_V_isRight_88 : decode prog_5_method_11_code 88 = .ok (.invokestatic 56, 3) := by decide +kernel
theorem smd_V_isRight_91 : decode prog_5_method_11_code 91 = .ok (.ifCond .eq 31, 3) := by decide +kernel
theorem smd_V_isRight_94 : decode prog_5_method_11_code 94 = .ok (.aload_n 0, 1) := by decide +kernel
theorem smd_V_isRight_95 : decode prog_5_method_11_code 95 = .ok (.getfield 21, 3) := by decide +kernel
theorem smd_V_isRight_98 : decode prog_5_method_11_code 98 = .ok (.iload_n 2, 1) := by decide +kernel
theorem smd_V_isRight_99 : decode prog_5_method_11_code 99 = .ok (.iaload, 1) := by decide +kernel
theorem smd_V_isRight_100 : decode prog_5_method_11_code 100 = .ok (.invokestatic 56, 3) := by decide +kernel
theorem smd_V_isRight_103 : decode prog_5_method_11_code 103 = .ok (.ifCond .eq 19, 3) := by decide +kernel
theorem smd_V_isRight_106 : decode prog_5_method_11_code 106 = .ok (.aload_n 0, 1) := by decide +kernel
theorem smd_V_isRight_107 : decode prog_5_method_11_code 107 = .ok (.getfield 24, 3) := by decide +kernel
theorem smd_V_isRight_110 : decode prog_5_method_11_code 110 = .ok (.iload_n 2, 1) := by decide +kernel
theorem smd_V_isRight_111 : decode prog_5_method_11_code 111 = .ok (.iaload, 1) := by decide +kernel
theorem smd_V_isRight_112 : decode prog_5_method_11_code 112 = .ok (.invokestatic 56, 3) := by decide +kernel
theorem smd_V_isRight_115 : decode prog_5_method_11_code 115 = .ok (.ifCond .eq 7, 3) := by decide +kernel
theorem smd_V_isRight_118 : decode prog_5_method_11_code 118 = .ok (.iconst 1, 1) := by decide +kernel
theorem smd_V_isRight_119 : decode prog_5_method_11_code 119 = .ok (.goto 4, 3) := by decide +kernel
theorem smd_V_isRight_122 : decode prog_5_method_11_code 122 = .ok (.iconst 0, 1) := by decide +kernel
theorem smd_V_isRight_123 : decode prog_5_method_11_code 123 = .ok (.ireturn, 1) := by decide +kernel
theorem smd_V_isRight_124 : decode prog_5_method_11_code 124 = .ok (.aload_n 0, 1) := by decide +kernel
theorem smd_V_isRight_125 : decode prog_5_method_11_code 125 = .ok (.getfield 18, 3) := by decide +kernel
theorem smd_V_isRight_128 : decode prog_5_method_11_code 128 = .ok (.iload_n 2, 1) := by decide +kernel
theorem smd_V_isRight_129 : decode prog_5_method_11_code 129 = .ok (.iaload, 1) := by decide +kernel
theorem smd_V_isRight_130 : decode prog_5_method_11_code 130 = .ok (.invokestatic 56, 3) := by decide +kernel
theorem smd_V_isRight_133 : decode prog_5_method_11_code 133 = .ok (.ifCond .eq 25, 3) := by decide +kernel
theorem smd_V_isRight_136 : decode prog_5_method_11_code 136 = .ok (.aload_n 0, 1) := by decide +kernel
theorem smd_V_isRight_137 : decode prog_5_method_11_code 137 = .ok (.getfield 21, 3) := by decide +kernel
theorem smd_V_isRight_140 : decode prog_5_method_11_code 140 = .ok (.iload_n 2, 1) := by decide +kernel
theorem smd_V_isRight_141 : decode prog_5_method_11_code 141 = .ok (.iaload, 1) := by decide +kernel
theorem smd_V_isRight_142 : decode prog_5_method_11_code 142 = .ok (.aload_n 0, 1) := by decide +kernel
theorem smd_V_isRight_143 : decode prog_5_method_11_code 143 = .ok (.getfield 9, 3) := by decide +kernel
theorem smd_V_isRight_146 : decode prog_5_method_11_code 146 = .ok (.iload_n 1, 1) := by decide +kernel
theorem smd_V_isRight_147 : decode prog_5_method_11_code 147 = .ok (.iaload, 1) := by decide +kernel
theorem smd_V_isRight_148 : decode prog_5_method_11_code 148 = .ok (.invokestatic 30, 3) := by decide +kernel
theorem smd_V_isRight_151 : decode prog_5_method_11_code 151 = .ok (.ifCond .eq 7, 3) := by decide +kernel
theorem smd_V_isRight_154 : decode prog_5_method_11_code 154 = .ok (.iconst 1, 1) := by decide +kernel
theorem smd_V_isRight_155 : decode prog_5_method_11_code 155 = .ok (.goto 4, 3) := by decide +kernel
theorem smd_V_isRight_158 : decode prog_5_method_11_code 158 = .ok (.iconst 0, 1) := by decide +kernel
theorem smd_V_isRight_159 : decode prog_5_method_11_code 159 = .ok (.ireturn, 1) := by decide +kernel
theorem smd_V_isRight_160 : decode prog_5_method_11_code 160 = .ok (.aload_n 0, 1) := by decide +kernel
theorem smd_V_isRight_161 : decode prog_5_method_11_code 161 = .ok (.getfield 18, 3) := by decide +kernel
theorem smd_V_isRight_164 : decode prog_5_method_11_code 164 = .ok (.iload_n 2, 1) := by decide +kernel
theorem smd_V_isRight_165 : decode prog_5_method_11_code 165 = .ok (.iaload, 1) := by decide +kernel
theorem smd_V_isRight_166 : decode prog_5_method_11_code 166 = .ok (.invokestatic 56, 3) := by decide +kernel
theorem smd_V_isRight_169 : decode prog_5_method_11_code 169 = .ok (.ifCond .eq 32, 3) := by decide +kernel
theorem smd_V_isRight_172 : decode prog_5_method_11_code 172 = .ok (.aload_n 0, 1) := by decide +kernel
theorem smd_V_isRight_173 : decode prog_5_method_11_code 173 = .ok (.aload_n 0, 1) := by decide +kernel
theorem smd_V_isRight_174 : decode prog_5_method_11_code 174 = .ok (.getfield 21, 3) := by decide +kernel
theorem smd_V_isRight_177 : decode prog_5_method_11_code 177 = .ok (.iload_n 2, 1) := by decide +kernel
theorem smd_V_isRight_178 : decode prog_5_method_11_code 178 = .ok (.iaload, 1) := by decide +kernel
theorem smd_V_isRight_179 : decode prog_5_method_11_code 179 = .ok (.invokevirtual 60, 3) := by decide +kernel
theorem smd_V_isRight_182 : decode prog_5_method_11_code 182 = .ok (.ifCond .eq 19, 3) := by decide +kernel
theorem smd_V_isRight_185 : decode prog_5_method_11_code 185 = .ok (.aload_n 0, 1) := by decide +kernel
theorem smd_V_isRight_186 : decode prog_5_method_11_code 186 = .ok (.getfield 24, 3) := by decide +kernel
theorem smd_V_isRight_189 : decode prog_5_method_11_code 189 = .ok (.iload_n 2, 1) := by decide +kernel
theorem smd_V_isRight_190 : decode prog_5_method_11_code 190 = .ok (.iaload, 1) := by decide +kernel
theorem smd_V_isRight_191 : decode prog_5_method_11_code 191 = .ok (.invokestatic 56, 3) := by decide +kernel
theorem smd_V_isRight_194 : decode prog_5_method_11_code 194 = .ok (.ifCond .eq 7, 3) := by decide +kernel
theorem smd_V_isRight_197 : decode prog_5_method_11_code 197 = .ok (.iconst 1, 1) := by decide +kernel
theorem smd_V_isRight_198 : decode prog_5_method_11_code 198 = .ok (.goto 4, 3) := by decide +kernel
theorem smd_V_isRight_201 : decode prog_5_method_11_code 201 = .ok (.iconst 0, 1) := by decide +kernel
theorem smd_V_isRight_202 : decode prog_5_method_11_code 202 = .ok (.ireturn, 1) := by decide +kernel
theorem smd_V_isRight_203 : decode prog_5_method_11_code 203 = .ok (.aload_n 0, 1) := by decide +kernel
theorem smd_V_isRight_204 : decode prog_5_method_11_code 204 = .ok (.getfield 18, 3) := by decide +kernel
theorem smd_V_isRight_207 : decode prog_5_method_11_code 207 = .ok (.iload_n 2, 1) := by decide +kernel
theorem smd_V_isRight_208 : decode prog_5_method_11_code 208 = .ok (.iaload, 1) := by decide +kernel
theorem smd_V_isRight_209 : decode prog_5_method_11_code 209 = .ok (.invokestatic 56, 3) := by decide +kernel
theorem smd_V_isRight_212 : decode prog_5_method_11_code 212 = .ok (.ifCond .eq 34, 3) := by decide +kernel
theorem smd_V_isRight_215 : decode prog_5_method_11_code 215 = .ok (.aload_n 0, 1) := by decide +kernel
theorem smd_V_isRight_216 : decode prog_5_method_11_code 216 = .ok (.getfield 21, 3) := by decide +kernel
theorem smd_V_isRight_219 : decode prog_5_method_11_code 219 = .ok (.iload_n 2, 1) := by decide +kernel
theorem smd_V_isRight_220 : decode prog_5_method_11_code 220 = .ok (.iaload, 1) := by decide +kernel
theorem smd_V_isRight_221 : decode prog_5_method_11_code 221 = .ok (.iconst 3, 1) := by decide +kernel
theorem smd_V_isRight_222 : decode prog_5_method_11_code 222 = .ok (.invokestatic 30, 3) := by decide +kernel
theorem smd_V_isRight_225 : decode prog_5_method_11_code 225 = .ok (.ifCond .eq 21, 3) := by decide +kernel
theorem smd_V_isRight_228 : decode prog_5_method_11_code 228 = .ok (.aload_n 0, 1) := by decide +kernel
theorem smd_V_isRight_229 : decode prog_5_method_11_code 229 = .ok (.getfield 27, 3) := by decide +kernel
theorem smd_V_isRight_232 : decode prog_5_method_11_code 232 = .ok (.aload_n 0, 1) := by decide +kernel
theorem smd_V_isRight_233 : decode prog_5_method_11_code 233 = .ok (.getfield 21, 3) := by decide +kernel
theorem smd_V_isRight_236 : decode prog_5_method_11_code 236 = .ok (.iload_n 2, 1) := by decide +kernel
theorem smd_V_isRight_237 : decode prog_5_method_11_code 237 = .ok (.iaload, 1) := by decide +kernel
theorem smd_V_isRight_238 : decode prog_5_method_11_code 238 = .ok (.iaload, 1) := by decide +kernel
theorem smd_V_isRight_239 : decode prog_5_method_11_code 239 = .ok (.ifCond .le 7, 3) := by decide +kernel
theorem smd_V_isRight_242 : decode prog_5_method_11_code 242 = .ok (.iconst 1, 1) := by decide +kernel
theorem smd_V_isRight_243 : decode prog_5_method_11_code 243 = .ok (.goto 4, 3) := by decide +kernel
theorem smd_V_isRight_246 : decode prog_5_method_11_code 246 = .ok (.iconst 0, 1) := by decide +kernel
theorem smd_V_isRight_247 : decode prog_5_method_11_code 247 = .ok (.ireturn, 1) := by decide +kernel
theorem smd_V_isRight_248 : decode prog_5_method_11_code 248 = .ok (.aload_n 0, 1) := by decide +kernel
theorem smd_V_isRight_249 : decode prog_5_method_11_code 249 = .ok (.getfield 18, 3) := by decide +kernel
theorem smd_V_isRight_252 : decode prog_5_method_11_code 252 = .ok (.iload_n 2, 1) := by decide +kernel
theorem smd_V_isRight_253 : decode prog_5_method_11_code 253 = .ok (.iaload, 1) := by decide +kernel
theorem smd_V_isRight_254 : decode prog_5_method_11_code 254 = .ok (.invokestatic 56, 3) := by decide +kernel
theorem smd_V_isRight_257 : decode prog_5_method_11_code 257 = .ok (.ifCond .eq 32, 3) := by decide +kernel
theorem smd_V_isRight_260 : decode prog_5_method_11_code 260 = .ok (.aload_n 0, 1) := by decide +kernel
theorem smd_V_isRight_261 : decode prog_5_method_11_code 261 = .ok (.getfield 21, 3) := by decide +kernel
theorem smd_V_isRight_264 : decode prog_5_method_11_code 264 = .ok (.iload_n 2, 1) := by decide +kernel
theorem smd_V_isRight_265 : decode prog_5_method_11_code 265 = .ok (.iaload, 1) := by decide +kernel
theorem smd_V_isRight_266 : decode prog_5_method_11_code 266 = .ok (.invokestatic 56, 3) := by decide +kernel
theorem smd_V_isRight_269 : decode prog_5_method_11_code 269 = .ok (.ifCond .eq 20, 3) := by decide +kernel
theorem smd_V_isRight_272 : decode prog_5_method_11_code 272 = .ok (.aload_n 0, 1) := by decide +kernel
theorem smd_V_isRight_273 : decode prog_5_method_11_code 273 = .ok (.aload_n 0, 1) := by decide +kernel
theorem smd_V_isRight_274 : decode prog_5_method_11_code 274 = .ok (.getfield 24, 3) := by decide +kernel
theorem smd_V_isRight_277 : decode prog_5_method_11_code 277 = .ok (.iload_n 2, 1) := by decide +kernel
theorem smd_V_isRight_278 : decode prog_5_method_11_code 278 = .ok (.iaload, 1) := by decide +kernel
theorem smd_V_isRight_279 : decode prog_5_method_11_code 279 = .ok (.invokevirtual 63, 3) := by decide +kernel
theorem smd_V_isRight_282 : decode prog_5_method_11_code 282 = .ok (.ifCond .eq 7, 3) := by decide +kernel
theorem smd_V_isRight_285 : decode prog_5_method_11_code 285 = .ok (.iconst 1, 1) := by decide +kernel
theorem smd_V_isRight_286 : decode prog_5_method_11_code 286 = .ok (.goto 4, 3) := by decide +kernel
theorem smd_V_isRight_289 : decode prog_5_method_11_code 289 = .ok (.iconst 0, 1) := by decide +kernel
theorem smd_V_isRight_290 : decode prog_5_method_11_code 290 = .ok (.ireturn, 1) := by decide +kernel
theorem smd_V_isRight_291 : decode prog_5_method_11_code 291 = .ok (.aload_n 0, 1) := by decide +kernel
theorem smd_V_isRight_292 : decode prog_5_method_11_code 292 = .ok (.getfield 18, 3) := by decide +kernel
theorem smd_V_isRight_295 : decode prog_5_method_11_code 295 = .ok (.iload_n 2, 1) := by decide +kernel
theorem smd_V_isRight_296 : decode prog_5_method_11_code 296 = .ok (.iaload, 1) := by decide +kernel
theorem smd_V_isRight_297 : decode prog_5_method_11_code 297 = .ok (.invokestatic 56, 3) := by decide +kernel
theorem smd_V_isRight_300 : decode prog_5_method_11_code 300 = .ok (.ifCond .eq 20, 3) := by decide +kernel
theorem smd_V_isRight_303 : decode prog_5_method_11_code 303 = .ok (.aload_n 0, 1) := by decide +kernel
theorem smd_V_isRight_304 : decode prog_5_method_11_code 304 = .ok (.getfield 21, 3) := by decide +kernel
theorem smd_V_isRight_307 : decode prog_5_method_11_code 307 = .ok (.iload_n 2, 1) := by decide +kernel
theorem smd_V_isRight_308 : decode prog_5_method_11_code 308 = .ok (.iaload, 1) := by decide +kernel
theorem smd_V_isRight_309 : decode prog_5_method_11_code 309 = .ok (.iconst 4, 1) := by decide +kernel
theorem smd_V_isRight_310 : decode prog_5_method_11_code 310 = .ok (.invokestatic 30, 3) := by decide +kernel
theorem smd_V_isRight_313 : decode prog_5_method_11_code 313 = .ok (.ifCond .eq 7, 3) := by decide +kernel
theorem smd_V_isRight_316 : decode prog_5_method_11_code 316 = .ok (.iconst 1, 1) := by decide +kernel
theorem smd_V_isRight_317 : decode prog_5_method_11_code 317 = .ok (.goto 4, 3) := by decide +kernel
theorem smd_V_isRight_320 : decode prog_5_method_11_code 320 = .ok (.iconst 0, 1) := by decide +kernel
theorem smd_V_isRight_321 : decode prog_5_method_11_code 321 = .ok (.ireturn, 1) := by decide +kernel
theorem smd_V_isRight_322 : decode prog_5_method_11_code 322 = .ok (.aload_n 0, 1) := by decide +kernel
theorem smd_V_isRight_323 : decode prog_5_method_11_code 323 = .ok (.getfield 18, 3) := by decide +kernel
theorem smd_V_isRight_326 : decode prog_5_method_11_code 326 = .ok (.iload_n 2, 1) := by decide +kernel
theorem smd_V_isRight_327 : decode prog_5_method_11_code 327 = .ok (.iaload, 1) := by decide +kernel
theorem smd_V_isRight_328 : decode prog_5_method_11_code 328 = .ok (.iconst 4, 1) := by decide +kernel
theorem smd_V_isRight_329 : decode prog_5_method_11_code 329 = .ok (.invokestatic 30, 3) := by decide +kernel
theorem smd_V_isRight_332 : decode prog_5_method_11_code 332 = .ok (.ireturn, 1) := by decide +kernel
theorem smd_V_isRight_333 : decode prog_5_method_11_code 333 = .ok (.iconst 0, 1) := by decide +kernel
theorem smd_V_isRight_334 : decode prog_5_method_11_code 334 = .ok (.ireturn, 1) := by decide +kernel
theorem smd_V_isLocal_0 : decode prog_5_method_12_code 0 = .ok (.iload_n 0, 1) := by decide +kernel
theorem smd_V_isLocal_1 : decode prog_5_method_12_code 1 = .ok (.iconst 3, 1) := by decide +kernel
theorem smd_V_isLocal_2 : decode prog_5_method_12_code 2 = .ok (.invokestatic 30, 3) := by decide +kernel
theorem smd_V_isLocal_5 : decode prog_5_method_12_code 5 = .ok (.ireturn, 1) := by decide +kernel
theorem smd_V_isFieldOfType_0 : decode prog_5_method_13_code 0 = .ok (.iload_n 1, 1) := by decide +kernel
theorem smd_V_isFieldOfType_1 : decode prog_5_method_13_code 1 = .ok (.bipush 12, 2) := by decide +kernel
theorem smd_V_isFieldOfType_3 : decode prog_5_method_13_code 3 = .ok (.invokestatic 30, 3) := by decide +kernel
theorem smd_V_isFieldOfType_6 : decode prog_5_method_13_code 6 = .ok (.ifCond .eq 21, 3) := by decide +kernel
theorem smd_V_isFieldOfType_9 : decode prog_5_method_13_code 9 = .ok (.iload_n 1, 1) := by decide +kernel
theorem smd_V_isFieldOfType_10 : decode prog_5_method_13_code 10 = .ok (.iconst 4, 1) := by decide +kernel
theorem smd_V_isFieldOfType_11 : decode prog_5_method_13_code 11 = .ok (.irem, 1) := by decide +kernel
theorem smd_V_isFieldOfType_12 : decode prog_5_method_13_code 12 = .ok (.aload_n 0, 1) := by decide +kernel
theorem smd_V_isFieldOfType_13 : decode prog_5_method_13_code 13 = .ok (.getfield 27, 3) := by decide +kernel
theorem smd_V_isFieldOfType_16 : decode prog_5_method_13_code 16 = .ok (.iload_n 1, 1) := by decide +kernel
theorem smd_V_isFieldOfType_17 : decode prog_5_method_13_code 17 = .ok (.iconst 4, 1) := by decide +kernel
theorem smd_V_isFieldOfType_18 : decode prog_5_method_13_code 18 = .ok (.idiv, 1) := by decide +kernel
theorem smd_V_isFieldOfType_19 : decode prog_5_method_13_code 19 = .ok (.iaload, 1) := by decide +kernel
theorem smd_V_isFieldOfType_20 : decode prog_5_method_13_code 20 = .ok (.if_icmp .ge 7, 3) := by decide +kernel
theorem smd_V_isFieldOfType_23 : decode prog_5_method_13_code 23 = .ok (.iconst 1, 1) := by decide +kernel
theorem smd_V_isFieldOfType_24 : decode prog_5_method_13_code 24 = .ok (.goto 4, 3) := by decide +kernel
theorem smd_V_isFieldOfType_27 : decode prog_5_method_13_code 27 = .ok (.iconst 0, 1) := by decide +kernel
theorem smd_V_isFieldOfType_28 : decode prog_5_method_13_code 28 = .ok (.ireturn, 1) := by decide +kernel
theorem smd_L_law_0 : decode code 0 = .ok (.new 7, 3) := by decide +kernel
theorem smd_L_law_3 : decode code 3 = .ok (.dup, 1) := by decide +kernel
theorem smd_L_law_4 : decode code 4 = .ok (.invokespecial 9, 3) := by decide +kernel
theorem smd_L_law_7 : decode code 7 = .ok (.astore_n 1, 1) := by decide +kernel
theorem smd_L_law_8 : decode code 8 = .ok (.new 10, 3) := by decide +kernel
theorem smd_L_law_11 : decode code 11 = .ok (.dup, 1) := by decide +kernel
theorem smd_L_law_12 : decode code 12 = .ok (.invokespecial 12, 3) := by decide +kernel
theorem smd_L_law_15 : decode code 15 = .ok (.astore_n 2, 1) := by decide +kernel
theorem smd_L_law_16 : decode code 16 = .ok (.iconst 0, 1) := by decide +kernel
theorem smd_L_law_17 : decode code 17 = .ok (.istore_n 3, 1) := by decide +kernel
theorem smd_L_law_18 : decode code 18 = .ok (.iload_n 3, 1) := by decide +kernel
theorem smd_L_law_19 : decode code 19 = .ok (.aload_n 0, 1) := by decide +kernel
theorem smd_L_law_20 : decode code 20 = .ok (.arraylength, 1) := by decide +kernel
theorem smd_L_law_21 : decode code 21 = .ok (.bipush 7, 2) := by decide +kernel
theorem smd_L_law_23 : decode code 23 = .ok (.isub, 1) := by decide +kernel
theorem smd_L_law_24 : decode code 24 = .ok (.if_icmp .gt 763, 3) := by decide +kernel
theorem smd_L_law_27 : decode code 27 = .ok (.aload_n 0, 1) := by decide +kernel
theorem smd_L_law_28 : decode code 28 = .ok (.iload_n 3, 1) := by decide +kernel
theorem smd_L_law_29 : decode code 29 = .ok (.iaload, 1) := by decide +kernel
theorem smd_L_law_30 : decode code 30 = .ok (.bipush 31, 2) := by decide +kernel
theorem smd_L_law_32 : decode code 32 = .ok (.iand, 1) := by decide +kernel
theorem smd_L_law_33 : decode code 33 = .ok (.tableswitch 748 0 22 #[107, 182, 215, 248, 311, 324, 337, 350, 373, 396, 419, 432, 465, 498, 531, 554, 577, 600, 643, 666, 689, 722, 735], 107) := by decide +kernel
theorem smd_L_law_140 : decode code 140 = .ok (.aload_n 1, 1) := by decide +kernel
theorem smd_L_law_141 : decode code 141 = .ok (.aload_n 0, 1) := by decide +kernel
theorem smd_L_law_142 : decode code 142 = .ok (.iload_n 3, 1) := by decide +kernel
theorem smd_L_law_143 : decode code 143 = .ok (.iconst 1, 1) := by decide +kernel
theorem smd_L_law_144 : decode code 144 = .ok (.iadd, 1) := by decide +kernel
theorem smd_L_law_145 : decode code 145 = .ok (.iaload, 1) := by decide +kernel
theorem smd_L_law_146 : decode code 146 = .ok (.aload_n 0, 1) := by decide +kernel
theorem smd_L_law_147 : decode code 147 = .ok (.iload_n 3, 1) := by decide +kernel
theorem smd_L_law_148 : decode code 148 = .ok (.iconst 2, 1) := by decide +kernel
theorem smd_L_law_149 : decode code 149 = .ok (.iadd, 1) := by decide +kernel
theorem smd_L_law_150 : decode code 150 = .ok (.iaload, 1) := by decide +kernel
theorem smd_L_law_151 : decode code 151 = .ok (.aload_n 0, 1) := by decide +kernel
theorem smd_L_law_152 : decode code 152 = .ok (.iload_n 3, 1) := by decide +kernel
theorem smd_L_law_153 : decode code 153 = .ok (.iconst 3, 1) := by decide +kernel
theorem smd_L_law_154 : decode code 154 = .ok (.iadd, 1) := by decide +kernel
theorem smd_L_law_155 : decode code 155 = .ok (.iaload, 1) := by decide +kernel
theorem smd_L_law_156 : decode code 156 = .ok (.aload_n 0, 1) := by decide +kernel
theorem smd_L_law_157 : decode code 157 = .ok (.iload_n 3, 1) := by decide +kernel
theorem smd_L_law_158 : decode code 158 = .ok (.iconst 4, 1) := by decide +kernel
theorem smd_L_law_159 : decode code 159 = .ok (.iadd, 1) := by decide +kernel
theorem smd_L_law_160 : decode code 160 = .ok (.iaload, 1) := by decide +kernel
theorem smd_L_law_161 : decode code 161 = .ok (.aload_n 0, 1) := by decide +kernel
theorem smd_L_law_162 : decode code 162 = .ok (.iload_n 3, 1) := by decide +kernel
theorem smd_L_law_163 : decode code 163 = .ok (.iconst 5, 1) := by decide +kernel
theorem smd_L_law_164 : decode code 164 = .ok (.iadd, 1) := by decide +kernel
theorem smd_L_law_165 : decode code 165 = .ok (.iaload, 1) := by decide +kernel
theorem smd_L_law_166 : decode code 166 = .ok (.aload_n 0, 1) := by decide +kernel
theorem smd_L_law_167 : decode code 167 = .ok (.iload_n 3, 1) := by decide +kernel
theorem smd_L_law_168 : decode code 168 = .ok (.bipush 6, 2) := by decide +kernel
theorem smd_L_law_170 : decode code 170 = .ok (.iadd, 1) := by decide +kernel
theorem smd_L_law_171 : decode code 171 = .ok (.iaload, 1) := by decide +kernel
theorem smd_L_law_172 : decode code 172 = .ok (.invokevirtual 13, 3) := by decide +kernel
theorem smd_L_law_175 : decode code 175 = .ok (.aload_n 2, 1) := by decide +kernel
theorem smd_L_law_176 : decode code 176 = .ok (.aload_n 0, 1) := by decide +kernel
theorem smd_L_law_177 : decode code 177 = .ok (.iload_n 3, 1) := by decide +kernel
theorem smd_L_law_178 : decode code 178 = .ok (.iconst 1, 1) := by decide +kernel
theorem smd_L_law_179 : decode code 179 = .ok (.iadd, 1) := by decide +kernel
theorem smd_L_law_180 : decode code 180 = .ok (.iaload, 1) := by decide +kernel
theorem smd_L_law_181 : decode code 181 = .ok (.aload_n 0, 1) := by decide +kernel
theorem smd_L_law_182 : decode code 182 = .ok (.iload_n 3, 1) := by decide +kernel
theorem smd_L_law_183 : decode code 183 = .ok (.iconst 2, 1) := by decide +kernel
theorem smd_L_law_184 : decode code 184 = .ok (.iadd, 1) := by decide +kernel
theorem smd_L_law_185 : decode code 185 = .ok (.iaload, 1) := by decide +kernel
theorem smd_L_law_186 : decode code 186 = .ok (.aload_n 0, 1) := by decide +kernel
theorem smd_L_law_187 : decode code 187 = .ok (.iload_n 3, 1) := by decide +kernel
theorem smd_L_law_188 : decode code 188 = .ok (.iconst 3, 1) := by decide +kernel
theorem smd_L_law_189 : decode code 189 = .ok (.iadd, 1) := by decide +kernel
theorem smd_L_law_190 : decode code 190 = .ok (.iaload, 1) := by decide +kernel
theorem smd_L_law_191 : decode code 191 = .ok (.aload_n 0, 1) := by decide +kernel
theorem smd_L_law_192 : decode code 192 = .ok (.iload_n 3, 1) := by decide +kernel
theorem smd_L_law_193 : decode code 193 = .ok (.iconst 4, 1) := by decide +kernel
theorem smd_L_law_194 : decode code 194 = .ok (.iadd, 1) := by decide +kernel
theorem smd_L_law_195 : decode code 195 = .ok (.iaload, 1) := by decide +kernel
theorem smd_L_law_196 : decode code 196 = .ok (.aload_n 0, 1) := by decide +kernel
theorem smd_L_law_197 : decode code 197 = .ok (.iload_n 3, 1) := by decide +kernel
theorem smd_L_law_198 : decode code 198 = .ok (.iconst 5, 1) := by decide +kernel
theorem smd_L_law_199 : decode code 199 = .ok (.iadd, 1) := by decide +kernel
theorem smd_L_law_200 : decode code 200 = .ok (.iaload, 1) := by decide +kernel
theorem smd_L_law_201 : decode code 201 = .ok (.aload_n 0, 1) := by decide +kernel
theorem smd_L_law_202 : decode code 202 = .ok (.iload_n 3, 1) := by decide +kernel
theorem smd_L_law_203 : decode code 203 = .ok (.bipush 6, 2) := by decide +kernel
theorem smd_L_law_205 : decode code 205 = .ok (.iadd, 1) := by decide +kernel
theorem smd_L_law_206 : decode code 206 = .ok (.iaload, 1) := by decide +kernel
theorem smd_L_law_207 : decode code 207 = .ok (.invokevirtual 17, 3) := by decide +kernel
theorem smd_L_law_210 : decode code 210 = .ok (.if_icmp .eq 571, 3) := by decide +kernel
theorem smd_L_law_213 : decode code 213 = .ok (.iconst 0, 1) := by decide +kernel
theorem smd_L_law_214 : decode code 214 = .ok (.ireturn, 1) := by decide +kernel
theorem smd_L_law_215 : decode code 215 = .ok (.aload_n 1, 1) := by decide +kernel
theorem smd_L_law_216 : decode code 216 = .ok (.aload_n 0, 1) := by decide +kernel
theorem smd_L_law_217 : decode code 217 = .ok (.iload_n 3, 1) := by decide +kernel
theorem smd_L_law_218 : decode code 218 = .ok (.iconst 1, 1) := by decide +kernel
theorem smd_L_law_219 : decode code 219 = .ok (.iadd, 1) := by decide +kernel
theorem smd_L_law_220 : decode code 220 = .ok (.iaload, 1) := by decide +kernel
theorem smd_L_law_221 : decode code 221 = .ok (.aload_n 0, 1) := by decide +kernel
theorem smd_L_law_222 : decode code 222 = .ok (.iload_n 3, 1) := by decide +kernel
theorem smd_L_law_223 : decode code 223 = .ok (.iconst 2, 1) := by decide +kernel
theorem smd_L_law_224 : decode code 224 = .ok (.iadd, 1) := by decide +kernel
theorem smd_L_law_225 : decode code 225 = .ok (.iaload, 1) := by decide +kernel
theorem smd_L_law_226 : decode code 226 = .ok (.invokevirtual 18, 3) := by decide +kernel
theorem smd_L_law_229 : decode code 229 = .ok (.aload_n 2, 1) := by decide +kernel
theorem smd_L_law_230 : decode code 230 = .ok (.aload_n 0, 1) := by decide +kernel
theorem smd_L_law_231 : decode code 231 = .ok (.iload_n 3, 1) := by decide +kernel
theorem smd_L_law_232 : decode code 232 = .ok (.iconst 1, 1) := by decide +kernel
theorem smd_L_law_233 : decode code 233 = .ok (.iadd, 1) := by decide +kernel
theorem smd_L_law_234 : decode code 234 = .ok (.iaload, 1) := by decide +kernel
theorem smd_L_law_235 : decode code 235 = .ok (.aload_n 0, 1) := by decide +kernel
theorem smd_L_law_236 : decode code 236 = .ok (.iload_n 3, 1) := by decide +kernel
theorem smd_L_law_237 : decode code 237 = .ok (.iconst 2, 1) := by decide +kernel
theorem smd_L_law_238 : decode code 238 = .ok (.iadd, 1) := by decide +kernel
theorem smd_L_law_239 : decode code 239 = .ok (.iaload, 1) := by decide +kernel
theorem smd_L_law_240 : decode code 240 = .ok (.invokevirtual 22, 3) := by decide +kernel
theorem smd_L_law_243 : decode code 243 = .ok (.if_icmp .eq 538, 3) := by decide +kernel
theorem smd_L_law_246 : decode code 246 = .ok (.iconst 0, 1) := by decide +kernel
theorem smd_L_law_247 : decode code 247 = .ok (.ireturn, 1) := by decide +kernel
theorem smd_L_law_248 : decode code 248 = .ok (.aload_n 1, 1) := by decide +kernel
theorem smd_L_law_249 : decode code 249 = .ok (.aload_n 0, 1) := by decide +kernel
theorem smd_L_law_250 : decode code 250 = .ok (.iload_n 3, 1) := by decide +kernel
theorem smd_L_law_251 : decode code 251 = .ok (.iconst 1, 1) := by decide +kernel
theorem smd_L_law_252 : decode code 252 = .ok (.iadd, 1) := by decide +kernel
theorem smd_L_law_253 : decode code 253 = .ok (.iaload, 1) := by decide +kernel
theorem smd_L_law_254 : decode code 254 = .ok (.aload_n 0, 1) := by decide +kernel
theorem smd_L_law_255 : decode code 255 = .ok (.iload_n 3, 1) := by decide +kernel
theorem smd_L_law_256 : decode code 256 = .ok (.iconst 2, 1) := by decide +kernel
theorem smd_L_law_257 : decode code 257 = .ok (.iadd, 1) := by decide +kernel
theorem smd_L_law_258 : decode code 258 = .ok (.iaload, 1) := by decide +kernel
theorem smd_L_law_259 : decode code 259 = .ok (.invokevirtual 23, 3) := by decide +kernel
theorem smd_L_law_262 : decode code 262 = .ok (.aload_n 2, 1) := by decide +kernel
theorem smd_L_law_263 : decode code 263 = .ok (.aload_n 0, 1) := by decide +kernel
theorem smd_L_law_264 : decode code 264 = .ok (.iload_n 3, 1) := by decide +kernel
theorem smd_L_law_265 : decode code 265 = .ok (.iconst 1, 1) := by decide +kernel
theorem smd_L_law_266 : decode code 266 = .ok (.iadd, 1) := by decide +kernel
theorem smd_L_law_267 : decode code 267 = .ok (.iaload, 1) := by decide +kernel
theorem smd_L_law_268 : decode code 268 = .ok (.aload_n 0, 1) := by decide +kernel
theorem smd_L_law_269 : decode code 269 = .ok (.iload_n 3, 1) := by decide +kernel
theorem smd_L_law_270 : decode code 270 = .ok (.iconst 2, 1) := by decide +kernel
theorem smd_L_law_271 : decode code 271 = .ok (.iadd, 1) := by decide +kernel
theorem smd_L_law_272 : decode code 272 = .ok (.iaload, 1) := by decide +kernel
theorem smd_L_law_273 : decode code 273 = .ok (.invokevirtual 26, 3) := by decide +kernel
theorem smd_L_law_276 : decode code 276 = .ok (.if_icmp .eq 505, 3) := by decide +kernel
theorem smd_L_law_279 : decode code 279 = .ok (.iconst 0, 1) := by decide +kernel
theorem smd_L_law_280 : decode code 280 = .ok (.ireturn, 1) := by decide +kernel
theorem smd_L_law_281 : decode code 281 = .ok (.aload_n 1, 1) := by decide +kernel
theorem smd_L_law_282 : decode code 282 = .ok (.aload_n 0, 1) := by decide +kernel
theorem smd_L_law_283 : decode code 283 = .ok (.iload_n 3, 1) := by decide +kernel
theorem smd_L_law_284 : decode code 284 = .ok (.iconst 1, 1) := by decide +kernel
theorem smd_L_law_285 : decode code 285 = .ok (.iadd, 1) := by decide +kernel
theorem smd_L_law_286 : decode code 286 = .ok (.iaload, 1) := by decide +kernel
theorem smd_L_law_287 : decode code 287 = .ok (.aload_n 0, 1) := by decide +kernel
theorem smd_L_law_288 : decode code 288 = .ok (.iload_n 3, 1) := by decide +kernel
theorem smd_L_law_289 : decode code 289 = .ok (.iconst 2, 1) := by decide +kernel
theorem smd_L_law_290 : decode code 290 = .ok (.iadd, 1) := by decide +kernel
theorem smd_L_law_291 : decode code 291 = .ok (.iaload, 1) := by decide +kernel
theorem smd_L_law_292 : decode code 292 = .ok (.aload_n 0, 1) := by decide +kernel
theorem smd_L_law_293 : decode code 293 = .ok (.iload_n 3, 1) := by decide +kernel
theorem smd_L_law_294 : decode code 294 = .ok (.iconst 3, 1) := by decide +kernel
theorem smd_L_law_295 : decode code 295 = .ok (.iadd, 1) := by decide +kernel
theorem smd_L_law_296 : decode code 296 = .ok (.iaload, 1) := by decide +kernel
theorem smd_L_law_297 : decode code 297 = .ok (.aload_n 0, 1) := by decide +kernel
theorem smd_L_law_298 : decode code 298 = .ok (.iload_n 3, 1) := by decide +kernel
theorem smd_L_law_299 : decode code 299 = .ok (.iconst 4, 1) := by decide +kernel
theorem smd_L_law_300 : decode code 300 = .ok (.iadd, 1) := by decide +kernel
theorem smd_L_law_301 : decode code 301 = .ok (.iaload, 1) := by decide +kernel
theorem smd_L_law_302 : decode code 302 = .ok (.aload_n 0, 1) := by decide +kernel
theorem smd_L_law_303 : decode code 303 = .ok (.iload_n 3, 1) := by decide +kernel
theorem smd_L_law_304 : decode code 304 = .ok (.iconst 5, 1) := by decide +kernel
theorem smd_L_law_305 : decode code 305 = .ok (.iadd, 1) := by decide +kernel
theorem smd_L_law_306 : decode code 306 = .ok (.iaload, 1) := by decide +kernel
theorem smd_L_law_307 : decode code 307 = .ok (.invokevirtual 27, 3) := by decide +kernel
theorem smd_L_law_310 : decode code 310 = .ok (.aload_n 2, 1) := by decide +kernel
theorem smd_L_law_311 : decode code 311 = .ok (.aload_n 0, 1) := by decide +kernel
theorem smd_L_law_312 : decode code 312 = .ok (.iload_n 3, 1) := by decide +kernel
theorem smd_L_law_313 : decode code 313 = .ok (.iconst 1, 1) := by decide +kernel
theorem smd_L_law_314 : decode code 314 = .ok (.iadd, 1) := by decide +kernel
theorem smd_L_law_315 : decode code 315 = .ok (.iaload, 1) := by decide +kernel
theorem smd_L_law_316 : decode code 316 = .ok (.aload_n 0, 1) := by decide +kernel
theorem smd_L_law_317 : decode code 317 = .ok (.iload_n 3, 1) := by decide +kernel
theorem smd_L_law_318 : decode code 318 = .ok (.iconst 2, 1) := by decide +kernel
theorem smd_L_law_319 : decode code 319 = .ok (.iadd, 1) := by decide +kernel
theorem smd_L_law_320 : decode code 320 = .ok (.iaload, 1) := by decide +kernel
theorem smd_L_law_321 : decode code 321 = .ok (.aload_n 0, 1) := by decide +kernel
theorem smd_L_law_322 : decode code 322 = .ok (.iload_n 3, 1) := by decide +kernel
theorem smd_L_law_323 : decode code 323 = .ok (.iconst 3, 1) := by decide +kernel
theorem smd_L_law_324 : decode code 324 = .ok (.iadd, 1) := by decide +kernel
theorem smd_L_law_325 : decode code 325 = .ok (.iaload, 1) := by decide +kernel
theorem smd_L_law_326 : decode code 326 = .ok (.aload_n 0, 1) := by decide +kernel
theorem smd_L_law_327 : decode code 327 = .ok (.iload_n 3, 1) := by decide +kernel
theorem smd_L_law_328 : decode code 328 = .ok (.iconst 4, 1) := by decide +kernel
theorem smd_L_law_329 : decode code 329 = .ok (.iadd, 1) := by decide +kernel
theorem smd_L_law_330 : decode code 330 = .ok (.iaload, 1) := by decide +kernel
theorem smd_L_law_331 : decode code 331 = .ok (.aload_n 0, 1) := by decide +kernel
theorem smd_L_law_332 : decode code 332 = .ok (.iload_n 3, 1) := by decide +kernel
theorem smd_L_law_333 : decode code 333 = .ok (.iconst 5, 1) := by decide +kernel
theorem smd_L_law_334 : decode code 334 = .ok (.iadd, 1) := by decide +kernel
theorem smd_L_law_335 : decode code 335 = .ok (.iaload, 1) := by decide +kernel
theorem smd_L_law_336 : decode code 336 = .ok (.invokevirtual 31, 3) := by decide +kernel
theorem smd_L_law_339 : decode code 339 = .ok (.if_icmp .eq 442, 3) := by decide +kernel
theorem smd_L_law_342 : decode code 342 = .ok (.iconst 0, 1) := by decide +kernel
theorem smd_L_law_343 : decode code 343 = .ok (.ireturn, 1) := by decide +kernel
theorem smd_L_law_344 : decode code 344 = .ok (.aload_n 1, 1) := by decide +kernel
theorem smd_L_law_345 : decode code 345 = .ok (.invokevirtual 32, 3) := by decide +kernel
theorem smd_L_law_348 : decode code 348 = .ok (.aload_n 2, 1) := by decide +kernel
theorem smd_L_law_349 : decode code 349 = .ok (.invokevirtual 36, 3) := by decide +kernel
theorem smd_L_law_352 : decode code 352 = .ok (.if_icmp .eq 429, 3) := by decide +kernel
theorem smd_L_law_355 : decode code 355 = .ok (.iconst 0, 1) := by decide +kernel
theorem smd_L_law_356 : decode code 356 = .ok (.ireturn, 1) := by decide +kernel
theorem smd_L_law_357 : decode code 357 = .ok (.aload_n 1, 1) := by decide +kernel
theorem smd_L_law_358 : decode code 358 = .ok (.invokevirtual 37, 3) := by decide +kernel
theorem smd_L_law_361 : decode code 361 = .ok (.aload_n 2, 1) := by decide +kernel
theorem smd_L_law_362 : decode code 362 = .ok (.invokevirtual 41, 3) := by decide +kernel
theorem smd_L_law_365 : decode code 365 = .ok (.if_icmp .eq 416, 3) := by decide +kernel
theorem smd_L_law_368 : decode code 368 = .ok (.iconst 0, 1) := by decide +kernel
theorem smd_L_law_369 : decode code 369 = .ok (.ireturn, 1) := by decide +kernel
theorem smd_L_law_370 : decode code 370 = .ok (.aload_n 1, 1) := by decide +kernel
theorem smd_L_law_371 : decode code 371 = .ok (.invokevirtual 42, 3) := by decide +kernel
theorem smd_L_law_374 : decode code 374 = .ok (.aload_n 2, 1) := by decide +kernel
theorem smd_L_law_375 : decode code 375 = .ok (.invokevirtual 45, 3) := by decide +kernel
theorem smd_L_law_378 : decode code 378 = .ok (.if_icmp .eq 403, 3) := by decide +kernel
theorem smd_L_law_381 : decode code 381 = .ok (.iconst 0, 1) := by decide +kernel
theorem smd_L_law_382 : decode code 382 = .ok (.ireturn, 1) := by decide +kernel
theorem smd_L_law_383 : decode code 383 = .ok (.aload_n 1, 1) := by decide +kernel
theorem smd_L_law_384 : decode code 384 = .ok (.aload_n 0, 1) := by decide +kernel
theorem smd_L_law_385 : decode code 385 = .ok (.iload_n 3, 1) := by decide +kernel
theorem smd_L_law_386 : decode code 386 = .ok (.iconst 1, 1) := by decide +kernel
theorem smd_L_law_387 : decode code 387 = .ok (.iadd, 1) := by decide +kernel
theorem smd_L_law_388 : decode code 388 = .ok (.iaload, 1) := by decide +kernel
theorem smd_L_law_389 : decode code 389 = .ok (.invokevirtual 46, 3) := by decide +kernel
theorem smd_L_law_392 : decode code 392 = .ok (.aload_n 2, 1) := by decide +kernel
theorem smd_L_law_393 : decode code 393 = .ok (.aload_n 0, 1) := by decide +kernel
theorem smd_L_law_394 : decode code 394 = .ok (.iload_n 3, 1) := by decide +kernel
theorem smd_L_law_395 : decode code 395 = .ok (.iconst 1, 1) := by decide +kernel
theorem smd_L_law_396 : decode code 396 = .ok (.iadd, 1) := by decide +kernel
theorem smd_L_law_397 : decode code 397 = .ok (.iaload, 1) := by decide +kernel
theorem smd_L_law_398 : decode code 398 = .ok (.invokevirtual 50, 3) := by decide +kernel
theorem smd_L_law_401 : decode code 401 = .ok (.if_icmp .eq 380, 3) := by decide +kernel
theorem smd_L_law_404 : decode code 404 = .ok (.iconst 0, 1) := by decide +kernel
theorem smd_L_law_405 : decode code 405 = .ok (.ireturn, 1) := by decide +kernel
theorem smd_L_law_406 : decode code 406 = .ok (.aload_n 1, 1) := by decide +kernel
theorem smd_L_law_407 : decode code 407 = .ok (.aload_n 0, 1) := by decide +kernel
theorem smd_L_law_408 : decode code 408 = .ok (.iload_n 3, 1) := by decide +kernel
theorem smd_L_law_409 : decode code 409 = .ok (.iconst 1, 1) := by decide +kernel
theorem smd_L_law_410 : decode code 410 = .ok (.iadd, 1) := by decide +kernel
theorem smd_L_law_411 : decode code 411 = .ok (.iaload, 1) := by decide +kernel
theorem smd_L_law_412 : decode code 412 = .ok (.invokevirtual 51, 3) := by decide +kernel
theorem smd_L_law_415 : decode code 415 = .ok (.aload_n 2, 1) := by decide +kernel
theorem smd_L_law_416 : decode code 416 = .ok (.aload_n 0, 1) := by decide +kernel
theorem smd_L_law_417 : decode code 417 = .ok (.iload_n 3, 1) := by decide +kernel
theorem smd_L_law_418 : decode code 418 = .ok (.iconst 1, 1) := by decide +kernel
theorem smd_L_law_419 : decode code 419 = .ok (.iadd, 1) := by decide +kernel
theorem smd_L_law_420 : decode code 420 = .ok (.iaload, 1) := by decide +kernel
theorem smd_L_law_421 : decode code 421 = .ok (.invokevirtual 55, 3) := by decide +kernel
theorem smd_L_law_424 : decode code 424 = .ok (.if_icmp .eq 357, 3) := by decide +kernel
theorem smd_L_law_427 : decode code 427 = .ok (.iconst 0, 1) := by decide +kernel
theorem smd_L_law_428 : decode code 428 = .ok (.ireturn, 1) := by decide +kernel
theorem smd_L_law_429 : decode code 429 = .ok (.aload_n 1, 1) := by decide +kernel
theorem smd_L_law_430 : decode code 430 = .ok (.aload_n 0, 1) := by decide +kernel
theorem smd_L_law_431 : decode code 431 = .ok (.iload_n 3, 1) := by decide +kernel
theorem smd_L_law_432 : decode code 432 = .ok (.iconst 1, 1) := by decide +kernel
theorem smd_L_law_433 : decode code 433 = .ok (.iadd, 1) := by decide +kernel
theorem smd_L_law_434 : decode code 434 = .ok (.iaload, 1) := by decide +kernel
theorem smd_L_law_435 : decode code 435 = .ok (.invokevirtual 56, 3) := by decide +kernel
theorem smd_L_law_438 : decode code 438 = .ok (.aload_n 2, 1) := by decide +kernel
theorem smd_L_law_439 : decode code 439 = .ok (.aload_n 0, 1) := by decide +kernel
theorem smd_L_law_440 : decode code 440 = .ok (.iload_n 3, 1) := by decide +kernel
theorem smd_L_law_441 : decode code 441 = .ok (.iconst 1, 1) := by decide +kernel
theorem smd_L_law_442 : decode code 442 = .ok (.iadd, 1) := by decide +kernel
theorem smd_L_law_443 : decode code 443 = .ok (.iaload, 1) := by decide +kernel
theorem smd_L_law_444 : decode code 444 = .ok (.invokevirtual 59, 3) := by decide +kernel
theorem smd_L_law_447 : decode code 447 = .ok (.if_icmp .eq 334, 3) := by decide +kernel
theorem smd_L_law_450 : decode code 450 = .ok (.iconst 0, 1) := by decide +kernel
theorem smd_L_law_451 : decode code 451 = .ok (.ireturn, 1) := by decide +kernel
theorem smd_L_law_452 : decode code 452 = .ok (.aload_n 1, 1) := by decide +kernel
theorem smd_L_law_453 : decode code 453 = .ok (.invokevirtual 60, 3) := by decide +kernel
theorem smd_L_law_456 : decode code 456 = .ok (.aload_n 2, 1) := by decide +kernel
theorem smd_L_law_457 : decode code 457 = .ok (.invokevirtual 63, 3) := by decide +kernel
theorem smd_L_law_460 : decode code 460 = .ok (.if_icmp .eq 321, 3) := by decide +kernel
theorem smd_L_law_463 : decode code 463 = .ok (.iconst 0, 1) := by decide +kernel
theorem smd_L_law_464 : decode code 464 = .ok (.ireturn, 1) := by decide +kernel
theorem smd_L_law_465 : decode code 465 = .ok (.aload_n 1, 1) := by decide +kernel
theorem smd_L_law_466 : decode code 466 = .ok (.aload_n 0, 1) := by decide +kernel
theorem smd_L_law_467 : decode code 467 = .ok (.iload_n 3, 1) := by decide +kernel
theorem smd_L_law_468 : decode code 468 = .ok (.iconst 1, 1) := by decide +kernel
theorem smd_L_law_469 : decode code 469 = .ok (.iadd, 1) := by decide +kernel
theorem smd_L_law_470 : decode code 470 = .ok (.iaload, 1) := by decide +kernel
theorem smd_L_law_471 : decode code 471 = .ok (.aload_n 0, 1) := by decide +kernel
theorem smd_L_law_472 : decode code 472 = .ok (.iload_n 3, 1) := by decide +kernel
theorem smd_L_law_473 : decode code 473 = .ok (.iconst 2, 1) := by decide +kernel
theorem smd_L_law_474 : decode code 474 = .ok (.iadd, 1) := by decide +kernel
theorem smd_L_law_475 : decode code 475 = .ok (.iaload, 1) := by decide +kernel
theorem smd_L_law_476 : decode code 476 = .ok (.invokevirtual 64, 3) := by decide +kernel
theorem smd_L_law_479 : decode code 479 = .ok (.aload_n 2, 1) := by decide +kernel
theorem smd_L_law_480 : decode code 480 = .ok (.aload_n 0, 1) := by decide +kernel
theorem smd_L_law_481 : decode code 481 = .ok (.iload_n 3, 1) := by decide +kernel
theorem smd_L_law_482 : decode code 482 = .ok (.iconst 1, 1) := by decide +kernel
theorem smd_L_law_483 : decode code 483 = .ok (.iadd, 1) := by decide +kernel
theorem smd_L_law_484 : decode code 484 = .ok (.iaload, 1) := by decide +kernel
theorem smd_L_law_485 : decode code 485 = .ok (.aload_n 0, 1) := by decide +kernel
theorem smd_L_law_486 : decode code 486 = .ok (.iload_n 3, 1) := by decide +kernel
theorem smd_L_law_487 : decode code 487 = .ok (.iconst 2, 1) := by decide +kernel
theorem smd_L_law_488 : decode code 488 = .ok (.iadd, 1) := by decide +kernel
theorem smd_L_law_489 : decode code 489 = .ok (.iaload, 1) := by decide +kernel
theorem smd_L_law_490 : decode code 490 = .ok (.invokevirtual 68, 3) := by decide +kernel
theorem smd_L_law_493 : decode code 493 = .ok (.if_icmp .eq 288, 3) := by decide +kernel
theorem smd_L_law_496 : decode code 496 = .ok (.iconst 0, 1) := by decide +kernel
theorem smd_L_law_497 : decode code 497 = .ok (.ireturn, 1) := by decide +kernel
theorem smd_L_law_498 : decode code 498 = .ok (.aload_n 1, 1) := by decide +kernel
theorem smd_L_law_499 : decode code 499 = .ok (.aload_n 0, 1) := by decide +kernel
theorem smd_L_law_500 : decode code 500 = .ok (.iload_n 3, 1) := by decide +kernel
theorem smd_L_law_501 : decode code 501 = .ok (.iconst 1, 1) := by decide +kernel
theorem smd_L_law_502 : decode code 502 = .ok (.iadd, 1) := by decide +kernel
theorem smd_L_law_503 : decode code 503 = .ok (.iaload, 1) := by decide +kernel
theorem smd_L_law_504 : decode code 504 = .ok (.aload_n 0, 1) := by decide +kernel
theorem smd_L_law_505 : decode code 505 = .ok (.iload_n 3, 1) := by decide +kernel
theorem smd_L_law_506 : decode code 506 = .ok (.iconst 2, 1) := by decide +kernel
theorem smd_L_law_507 : decode code 507 = .ok (.iadd, 1) := by decide +kernel
theorem smd_L_law_508 : decode code 508 = .ok (.iaload, 1) := by decide +kernel
theorem smd_L_law_509 : decode code 509 = .ok (.invokevirtual 69, 3) := by decide +kernel
theorem smd_L_law_512 : decode code 512 = .ok (.aload_n 2, 1) := by decide +kernel
theorem smd_L_law_513 : decode code 513 = .ok (.aload_n 0, 1) := by decide +kernel
theorem smd_L_law_514 : decode code 514 = .ok (.iload_n 3, 1) := by decide +kernel
theorem smd_L_law_515 : decode code 515 = .ok (.iconst 1, 1) := by decide +kernel
theorem smd_L_law_516 : decode code 516 = .ok (.iadd, 1) := by decide +kernel
theorem smd_L_law_517 : decode code 517 = .ok (.iaload, 1) := by decide +kernel
theorem smd_L_law_518 : decode code 518 = .ok (.aload_n 0, 1) := by decide +kernel
theorem smd_L_law_519 : decode code 519 = .ok (.iload_n 3, 1) := by decide +kernel
theorem smd_L_law_520 : decode code 520 = .ok (.iconst 2, 1) := by decide +kernel
theorem smd_L_law_521 : decode code 521 = .ok (.iadd, 1) := by decide +kernel
theorem smd_L_law_522 : decode code 522 = .ok (.iaload, 1) := by decide +kernel
theorem smd_L_law_523 : decode code 523 = .ok (.invokevirtual 72, 3) := by decide +kernel
theorem smd_L_law_526 : decode code 526 = .ok (.if_icmp .eq 255, 3) := by decide +kernel
theorem smd_L_law_529 : decode code 529 = .ok (.iconst 0, 1) := by decide +kernel
theorem smd_L_law_530 : decode code 530 = .ok (.ireturn, 1) := by decide +kernel
theorem smd_L_law_531 : decode code 531 = .ok (.aload_n 1, 1) := by decide +kernel
theorem smd_L_law_532 : decode code 532 = .ok (.aload_n 0, 1) := by decide +kernel
theorem smd_L_law_533 : decode code 533 = .ok (.iload_n 3, 1) := by decide +kernel
theorem smd_L_law_534 : decode code 534 = .ok (.iconst 1, 1) := by decide +kernel
theorem smd_L_law_535 : decode code 535 = .ok (.iadd, 1) := by decide +kernel
theorem smd_L_law_536 : decode code 536 = .ok (.iaload, 1) := by decide +kernel
theorem smd_L_law_537 : decode code 537 = .ok (.aload_n 0, 1) := by decide +kernel
theorem smd_L_law_538 : decode code 538 = .ok (.iload_n 3, 1) := by decide +kernel
theorem smd_L_law_539 : decode code 539 = .ok (.iconst 2, 1) := by decide +kernel
theorem smd_L_law_540 : decode code 540 = .ok (.iadd, 1) := by decide +kernel
theorem smd_L_law_541 : decode code 541 = .ok (.iaload, 1) := by decide +kernel
theorem smd_L_law_542 : decode code 542 = .ok (.invokevirtual 73, 3) := by decide +kernel
theorem smd_L_law_545 : decode code 545 = .ok (.aload_n 2, 1) := by decide +kernel
theorem smd_L_law_546 : decode code 546 = .ok (.aload_n 0, 1) := by decide +kernel
theorem smd_L_law_547 : decode code 547 = .ok (.iload_n 3, 1) := by decide +kernel
theorem smd_L_law_548 : decode code 548 = .ok (.iconst 1, 1) := by decide +kernel
theorem smd_L_law_549 : decode code 549 = .ok (.iadd, 1) := by decide +kernel
theorem smd_L_law_550 : decode code 550 = .ok (.iaload, 1) := by decide +kernel
theorem smd_L_law_551 : decode code 551 = .ok (.aload_n 0, 1) := by decide +kernel
theorem smd_L_law_552 : decode code 552 = .ok (.iload_n 3, 1) := by decide +kernel
theorem smd_L_law_553 : decode code 553 = .ok (.iconst 2, 1) := by decide +kernel
theorem smd_L_law_554 : decode code 554 = .ok (.iadd, 1) := by decide +kernel
theorem smd_L_law_555 : decode code 555 = .ok (.iaload, 1) := by decide +kernel
theorem smd_L_law_556 : decode code 556 = .ok (.invokevirtual 76, 3) := by decide +kernel
theorem smd_L_law_559 : decode code 559 = .ok (.if_icmp .eq 222, 3) := by decide +kernel
theorem smd_L_law_562 : decode code 562 = .ok (.iconst 0, 1) := by decide +kernel
theorem smd_L_law_563 : decode code 563 = .ok (.ireturn, 1) := by decide +kernel
theorem smd_L_law_564 : decode code 564 = .ok (.aload_n 1, 1) := by decide +kernel
theorem smd_L_law_565 : decode code 565 = .ok (.aload_n 0, 1) := by decide +kernel
theorem smd_L_law_566 : decode code 566 = .ok (.iload_n 3, 1) := by decide +kernel
theorem smd_L_law_567 : decode code 567 = .ok (.iconst 1, 1) := by decide +kernel
theorem smd_L_law_568 : decode code 568 = .ok (.iadd, 1) := by decide +kernel
theorem smd_L_law_569 : decode code 569 = .ok (.iaload, 1) := by decide +kernel
theorem smd_L_law_570 : decode code 570 = .ok (.invokevirtual 77, 3) := by decide +kernel
theorem smd_L_law_573 : decode code 573 = .ok (.aload_n 2, 1) := by decide +kernel
theorem smd_L_law_574 : decode code 574 = .ok (.aload_n 0, 1) := by decide +kernel
theorem smd_L_law_575 : decode code 575 = .ok (.iload_n 3, 1) := by decide +kernel
theorem smd_L_law_576 : decode code 576 = .ok (.iconst 1, 1) := by decide +kernel
theorem smd_L_law_577 : decode code 577 = .ok (.iadd, 1) := by decide +kernel
theorem smd_L_law_578 : decode code 578 = .ok (.iaload, 1) := by decide +kernel
theorem smd_L_law_579 : decode code 579 = .ok (.invokevirtual 80, 3) := by decide +kernel
theorem smd_L_law_582 : decode code 582 = .ok (.if_icmp .eq 199, 3) := by decide +kernel
theorem smd_L_law_585 : decode code 585 = .ok (.iconst 0, 1) := by decide +kernel
theorem smd_L_law_586 : decode code 586 = .ok (.ireturn, 1) := by decide +kernel
theorem smd_L_law_587 : decode code 587 = .ok (.aload_n 1, 1) := by decide +kernel
theorem smd_L_law_588 : decode code 588 = .ok (.aload_n 0, 1) := by decide +kernel
theorem smd_L_law_589 : decode code 589 = .ok (.iload_n 3, 1) := by decide +kernel
theorem smd_L_law_590 : decode code 590 = .ok (.iconst 1, 1) := by decide +kernel
theorem smd_L_law_591 : decode code 591 = .ok (.iadd, 1) := by decide +kernel
theorem smd_L_law_592 : decode code 592 = .ok (.iaload, 1) := by decide +kernel
theorem smd_L_law_593 : decode code 593 = .ok (.invokevirtual 81, 3) := by decide +kernel
theorem smd_L_law_596 : decode code 596 = .ok (.aload_n 2, 1) := by decide +kernel
theorem smd_L_law_597 : decode code 597 = .ok (.aload_n 0, 1) := by decide +kernel
theorem smd_L_law_598 : decode code 598 = .ok (.iload_n 3, 1) := by decide +kernel
theorem smd_L_law_599 : decode code 599 = .ok (.iconst 1, 1) := by decide +kernel
theorem smd_L_law_600 : decode code 600 = .ok (.iadd, 1) := by decide +kernel
theorem smd_L_law_601 : decode code 601 = .ok (.iaload, 1) := by decide +kernel
theorem smd_L_law_602 : decode code 602 = .ok (.invokevirtual 84, 3) := by decide +kernel
theorem smd_L_law_605 : decode code 605 = .ok (.if_icmp .eq 176, 3) := by decide +kernel
theorem smd_L_law_608 : decode code 608 = .ok (.iconst 0, 1) := by decide +kernel
theorem smd_L_law_609 : decode code 609 = .ok (.ireturn, 1) := by decide +kernel
theorem smd_L_law_610 : decode code 610 = .ok (.aload_n 1, 1) := by decide +kernel
theorem smd_L_law_611 : decode code 611 = .ok (.aload_n 0, 1) := by decide +kernel
theorem smd_L_law_612 : decode code 612 = .ok (.iload_n 3, 1) := by decide +kernel
theorem smd_L_law_613 : decode code 613 = .ok (.iconst 1, 1) := by decide +kernel
theorem smd_L_law_614 : decode code 614 = .ok (.iadd, 1) := by decide +kernel
theorem smd_L_law_615 : decode code 615 = .ok (.iaload, 1) := by decide +kernel
theorem smd_L_law_616 : decode code 616 = .ok (.invokevirtual 85, 3) := by decide +kernel
theorem smd_L_law_619 : decode code 619 = .ok (.aload_n 2, 1) := by decide +kernel
theorem smd_L_law_620 : decode code 620 = .ok (.aload_n 0, 1) := by decide +kernel
theorem smd_L_law_621 : decode code 621 = .ok (.iload_n 3, 1) := by decide +kernel
theorem smd_L_law_622 : decode code 622 = .ok (.iconst 1, 1) := by decide +kernel
theorem smd_L_law_623 : decode code 623 = .ok (.iadd, 1) := by decide +kernel
theorem smd_L_law_624 : decode code 624 = .ok (.iaload, 1) := by decide +kernel
theorem smd_L_law_625 : decode code 625 = .ok (.invokevirtual 88, 3) := by decide +kernel
theorem smd_L_law_628 : decode code 628 = .ok (.if_icmp .eq 153, 3) := by decide +kernel
theorem smd_L_law_631 : decode code 631 = .ok (.iconst 0, 1) := by decide +kernel
theorem smd_L_law_632 : decode code 632 = .ok (.ireturn, 1) := by decide +kernel
theorem smd_L_law_633 : decode code 633 = .ok (.aload_n 1, 1) := by decide +kernel
theorem smd_L_law_634 : decode code 634 = .ok (.aload_n 0, 1) := by decide +kernel
theorem smd_L_law_635 : decode code 635 = .ok (.iload_n 3, 1) := by decide +kernel
theorem smd_L_law_636 : decode code 636 = .ok (.iconst 1, 1) := by decide +kernel
theorem smd_L_law_637 : decode code 637 = .ok (.iadd, 1) := by decide +kernel
theorem smd_L_law_638 : decode code 638 = .ok (.iaload, 1) := by decide +kernel
theorem smd_L_law_639 : decode code 639 = .ok (.aload_n 0, 1) := by decide +kernel
theorem smd_L_law_640 : decode code 640 = .ok (.iload_n 3, 1) := by decide +kernel
theorem smd_L_law_641 : decode code 641 = .ok (.iconst 2, 1) := by decide +kernel
theorem smd_L_law_642 : decode code 642 = .ok (.iadd, 1) := by decide +kernel
theorem smd_L_law_643 : decode code 643 = .ok (.iaload, 1) := by decide +kernel
theorem smd_L_law_644 : decode code 644 = .ok (.aload_n 0, 1) := by decide +kernel
theorem smd_L_law_645 : decode code 645 = .ok (.iload_n 3, 1) := by decide +kernel
theorem smd_L_law_646 : decode code 646 = .ok (.iconst 3, 1) := by decide +kernel
theorem smd_L_law_647 : decode code 647 = .ok (.iadd, 1) := by decide +kernel
theorem smd_L_law_648 : decode code 648 = .ok (.iaload, 1) := by decide +kernel
theorem smd_L_law_649 : decode code 649 = .ok (.invokevirtual 89, 3) := by decide +kernel
theorem smd_L_law_652 : decode code 652 = .ok (.aload_n 2, 1) := by decide +kernel
theorem smd_L_law_653 : decode code 653 = .ok (.aload_n 0, 1) := by decide +kernel
theorem smd_L_law_654 : decode code 654 = .ok (.iload_n 3, 1) := by decide +kernel
theorem smd_L_law_655 : decode code 655 = .ok (.iconst 1, 1) := by decide +kernel
theorem smd_L_law_656 : decode code 656 = .ok (.iadd, 1) := by decide +kernel
theorem smd_L_law_657 : decode code 657 = .ok (.iaload, 1) := by decide +kernel
theorem smd_L_law_658 : decode code 658 = .ok (.aload_n 0, 1) := by decide +kernel
theorem smd_L_law_659 : decode code 659 = .ok (.iload_n 3, 1) := by decide +kernel
theorem smd_L_law_660 : decode code 660 = .ok (.iconst 2, 1) := by decide +kernel
theorem smd_L_law_661 : decode code 661 = .ok (.iadd, 1) := by decide +kernel
theorem smd_L_law_662 : decode code 662 = .ok (.iaload, 1) := by decide +kernel
theorem smd_L_law_663 : decode code 663 = .ok (.aload_n 0, 1) := by decide +kernel
theorem smd_L_law_664 : decode code 664 = .ok (.iload_n 3, 1) := by decide +kernel
theorem smd_L_law_665 : decode code 665 = .ok (.iconst 3, 1) := by decide +kernel
theorem smd_L_law_666 : decode code 666 = .ok (.iadd, 1) := by decide +kernel
theorem smd_L_law_667 : decode code 667 = .ok (.iaload, 1) := by decide +kernel
theorem smd_L_law_668 : decode code 668 = .ok (.invokevirtual 93, 3) := by decide +kernel
theorem smd_L_law_671 : decode code 671 = .ok (.if_icmp .eq 110, 3) := by decide +kernel
theorem smd_L_law_674 : decode code 674 = .ok (.iconst 0, 1) := by decide +kernel
theorem smd_L_law_675 : decode code 675 = .ok (.ireturn, 1) := by decide +kernel
theorem smd_L_law_676 : decode code 676 = .ok (.aload_n 1, 1) := by decide +kernel
theorem smd_L_law_677 : decode code 677 = .ok (.aload_n 0, 1) := by decide +kernel
theorem smd_L_law_678 : decode code 678 = .ok (.iload_n 3, 1) := by decide +kernel
theorem smd_L_law_679 : decode code 679 = .ok (.iconst 1, 1) := by decide +kernel
theorem smd_L_law_680 : decode code 680 = .ok (.iadd, 1) := by decide +kernel
theorem smd_L_law_681 : decode code 681 = .ok (.iaload, 1) := by decide +kernel
theorem smd_L_law_682 : decode code 682 = .ok (.invokevirtual 94, 3) := by decide +kernel
theorem smd_L_law_685 : decode code 685 = .ok (.aload_n 2, 1) := by decide +kernel
theorem smd_L_law_686 : decode code 686 = .ok (.aload_n 0, 1) := by decide +kernel
theorem smd_L_law_687 : decode code 687 = .ok (.iload_n 3, 1) := by decide +kernel
theorem smd_L_law_688 : decode code 688 = .ok (.iconst 1, 1) := by decide +kernel
theorem smd_L_law_689 : decode code 689 = .ok (.iadd, 1) := by decide +kernel
theorem smd_L_law_690 : decode code 690 = .ok (.iaload, 1) := by decide +kernel
theorem smd_L_law_691 : decode code 691 = .ok (.invokevirtual 97, 3) := by decide +kernel
theorem smd_L_law_694 : decode code 694 = .ok (.if_icmp .eq 87, 3) := by decide +kernel
theorem smd_L_law_697 : decode code 697 = .ok (.iconst 0, 1) := by decide +kernel
theorem smd_L_law_698 : decode code 698 = .ok (.ireturn, 1) := by decide +kernel
theorem smd_L_law_699 : decode code 699 = .ok (.aload_n 1, 1) := by decide +kernel
theorem smd_L_law_700 : decode code 700 = .ok (.aload_n 0, 1) := by decide +kernel
theorem smd_L_law_701 : decode code 701 = .ok (.iload_n 3, 1) := by decide +kernel
theorem smd_L_law_702 : decode code 702 = .ok (.iconst 1, 1) := by decide +kernel
theorem smd_L_law_703 : decode code 703 = .ok (.iadd, 1) := by decide +kernel
theorem smd_L_law_704 : decode code 704 = .ok (.iaload, 1) := by decide +kernel
theorem smd_L_law_705 : decode code 705 = .ok (.invokevirtual 98, 3) := by decide +kernel
theorem smd_L_law_708 : decode code 708 = .ok (.aload_n 2, 1) := by decide +kernel
theorem smd_L_law_709 : decode code 709 = .ok (.aload_n 0, 1) := by decide +kernel
theorem smd_L_law_710 : decode code 710 = .ok (.iload_n 3, 1) := by decide +kernel
theorem smd_L_law_711 : decode code 711 = .ok (.iconst 1, 1) := by decide +kernel
theorem smd_L_law_712 : decode code 712 = .ok (.iadd, 1) := by decide +kernel
theorem smd_L_law_713 : decode code 713 = .ok (.iaload, 1) := by decide +kernel
theorem smd_L_law_714 : decode code 714 = .ok (.invokevirtual 101, 3) := by decide +kernel
theorem smd_L_law_717 : decode code 717 = .ok (.if_icmp .eq 64, 3) := by decide +kernel
theorem smd_L_law_720 : decode code 720 = .ok (.iconst 0, 1) := by decide +kernel
theorem smd_L_law_721 : decode code 721 = .ok (.ireturn, 1) := by decide +kernel
theorem smd_L_law_722 : decode code 722 = .ok (.aload_n 1, 1) := by decide +kernel
theorem smd_L_law_723 : decode code 723 = .ok (.aload_n 0, 1) := by decide +kernel
theorem smd_L_law_724 : decode code 724 = .ok (.iload_n 3, 1) := by decide +kernel
theorem smd_L_law_725 : decode code 725 = .ok (.iconst 1, 1) := by decide +kernel
theorem smd_L_law_726 : decode code 726 = .ok (.iadd, 1) := by decide +kernel
theorem smd_L_law_727 : decode code 727 = .ok (.iaload, 1) := by decide +kernel
theorem smd_L_law_728 : decode code 728 = .ok (.aload_n 0, 1) := by decide +kernel
theorem smd_L_law_729 : decode code 729 = .ok (.iload_n 3, 1) := by decide +kernel
theorem smd_L_law_730 : decode code 730 = .ok (.iconst 2, 1) := by decide +kernel
theorem smd_L_law_731 : decode code 731 = .ok (.iadd, 1) := by decide +kernel
theorem smd_L_law_732 : decode code 732 = .ok (.iaload, 1) := by decide +kernel
theorem smd_L_law_733 : decode code 733 = .ok (.invokevirtual 102, 3) := by decide +kernel
theorem smd_L_law_736 : decode code 736 = .ok (.aload_n 2, 1) := by decide +kernel
theorem smd_L_law_737 : decode code 737 = .ok (.aload_n 0, 1) := by decide +kernel
theorem smd_L_law_738 : decode code 738 = .ok (.iload_n 3, 1) := by decide +kernel
theorem smd_L_law_739 : decode code 739 = .ok (.iconst 1, 1) := by decide +kernel
theorem smd_L_law_740 : decode code 740 = .ok (.iadd, 1) := by decide +kernel
theorem smd_L_law_741 : decode code 741 = .ok (.iaload, 1) := by decide +kernel
theorem smd_L_law_742 : decode code 742 = .ok (.aload_n 0, 1) := by decide +kernel
theorem smd_L_law_743 : decode code 743 = .ok (.iload_n 3, 1) := by decide +kernel
theorem smd_L_law_744 : decode code 744 = .ok (.iconst 2, 1) := by decide +kernel
theorem smd_L_law_745 : decode code 745 = .ok (.iadd, 1) := by decide +kernel
theorem smd_L_law_746 : decode code 746 = .ok (.iaload, 1) := by decide +kernel
theorem smd_L_law_747 : decode code 747 = .ok (.invokevirtual 105, 3) := by decide +kernel
theorem smd_L_law_750 : decode code 750 = .ok (.if_icmp .eq 31, 3) := by decide +kernel
theorem smd_L_law_753 : decode code 753 = .ok (.iconst 0, 1) := by decide +kernel
theorem smd_L_law_754 : decode code 754 = .ok (.ireturn, 1) := by decide +kernel
theorem smd_L_law_755 : decode code 755 = .ok (.aload_n 1, 1) := by decide +kernel
theorem smd_L_law_756 : decode code 756 = .ok (.invokevirtual 106, 3) := by decide +kernel
theorem smd_L_law_759 : decode code 759 = .ok (.aload_n 2, 1) := by decide +kernel
theorem smd_L_law_760 : decode code 760 = .ok (.invokevirtual 109, 3) := by decide +kernel
theorem smd_L_law_763 : decode code 763 = .ok (.if_icmp .eq 18, 3) := by decide +kernel
theorem smd_L_law_766 : decode code 766 = .ok (.iconst 0, 1) := by decide +kernel
theorem smd_L_law_767 : decode code 767 = .ok (.ireturn, 1) := by decide +kernel
theorem smd_L_law_768 : decode code 768 = .ok (.aload_n 1, 1) := by decide +kernel
theorem smd_L_law_769 : decode code 769 = .ok (.invokevirtual 110, 3) := by decide +kernel
theorem smd_L_law_772 : decode code 772 = .ok (.aload_n 2, 1) := by decide +kernel
theorem smd_L_law_773 : decode code 773 = .ok (.invokevirtual 113, 3) := by decide +kernel
theorem smd_L_law_776 : decode code 776 = .ok (.if_icmp .eq 5, 3) := by decide +kernel
theorem smd_L_law_779 : decode code 779 = .ok (.iconst 0, 1) := by decide +kernel
theorem smd_L_law_780 : decode code 780 = .ok (.ireturn, 1) := by decide +kernel
theorem smd_L_law_781 : decode code 781 = .ok (.iinc 3 7, 3) := by decide +kernel
theorem smd_L_law_784 : decode code 784 = .ok (.goto (-766), 3) := by decide +kernel
theorem smd_L_law_787 : decode code 787 = .ok (.iconst 1, 1) := by decide +kernel
theorem smd_L_law_788 : decode code 788 = .ok (.ireturn, 1) := by decide +kernel
end
section
/-! the small machine: one memory of rows of ints, the shape of all objects fixed; a judgement over W with it, a rule an instruction -/
abbrev mm_Mem : Type := Nat → Nat → Int32
abbrev mm_Ctx : Type := Launch × Nat × va_G × ClassId × ClassId × ClassId
abbrev mm_MD : Type := MethodName × ByteArray × Nat × Option FieldType × Nat
abbrev mm_B (Γ : mm_Ctx) : Nat := Γ.2.1
abbrev mm_D (Γ : mm_Ctx) : va_G := Γ.2.2.1
abbrev mm_cI (Γ : mm_Ctx) : ClassId := Γ.2.2.2.1
abbrev mm_cZ (Γ : mm_Ctx) : ClassId := Γ.2.2.2.2.1
abbrev mm_cT (Γ : mm_Ctx) : ClassId := Γ.2.2.2.2.2
/-! words -/
def mm_all : List Cond := lw_tbl.filter goodWord
theorem mm_mem {w : Cond} (n : Nat) (h : lw_tbl[n]? = some w) (g : goodWord w = true) : w ∈ mm_all := List.mem_filter.mpr ⟨List.mem_of_getElem? h, g⟩
abbrev mm_wsM (M : mm_MD) : List Cond := Cond.code M.1 M.2.1 M.2.2.1 M.2.2.2.1 :: mm_all
theorem mm_goodIn {M' : mm_MD} {big : List Cond} (hb : ∀ w ∈ mm_all, w ∈ big) (hc : Cond.code M'.1 M'.2.1 M'.2.2.1 M'.2.2.2.1 ∈ mm_all) : GoodIn big (mm_wsM M') := by
  intro w hw
  have h : w ∈ mm_all := by
    rcases List.mem_cons.mp hw with rfl | h
    · exact hc
    · exact h
  exact ⟨hb w h, good_of_word (List.mem_filter.mp h).2⟩
def mm_rm (M : mm_MD) : Room := { frames := M.2.2.2.2, cells := 0, slots := 0, locals := 36 * M.2.2.2.2 }
/-! the world -/
abbrev mm_cl : List vw_C := [(smR_H, smF_H, 6), (smR_R, smF_R, 4), (smR_T, smF_T, 9), (smR_V, smF_V, 6), (smR_S, smF_S, 9), (smR_M, smF_M, 19)]
abbrev mm_tys (Γ : mm_Ctx) : List (ClassId × FieldType) := [(mm_cI Γ, .int), (mm_cZ Γ, .boolean), (mm_cT Γ, .object "SwitchedModules$Task")]
def mm_lens : List Nat := [0, 0, 6, 72, 72, 72, 72, 3, 0, 6, 72, 72, 72, 72, 3, 0, 3, 12, 12, 12, 0, 17, 68, 68, 17, 16, 4, 6, 0, 6, 6, 18, 6, 8, 0, 6, 6, 18, 6, 8, 0, 6, 6, 18, 6, 8, 0, 6, 6, 18, 6, 8, 0, 6, 6, 18, 6, 8, 0, 6, 6, 18, 6, 8, 0, 576, 12, 6, 36, 3, 4, 17, 68, 68, 17, 7, 7, 7, 252, 7, 56]
def mm_cell (Γ : mm_Ctx) (k : Nat) (r : Nat → Int32) : va_E :=
  if k = 0 then .inr (4, [.ref (mm_B Γ + 1), .ref (mm_B Γ + 8), .ref (mm_B Γ + 15), .ref (mm_B Γ + 20), .ref (mm_B Γ + 26), .ref (mm_B Γ + 27), .int (r 6), .int (r 7), .int (r 8)])
  else if k = 1 ∨ k = 8 then .inr (3, [.ref (mm_B Γ + (k + 1)), .ref (mm_B Γ + (k + 2)), .ref (mm_B Γ + (k + 3)), .ref (mm_B Γ + (k + 4)), .ref (mm_B Γ + (k + 5)), .ref (mm_B Γ + (k + 6))])
  else if k = 15 then .inr (1, [.ref (mm_B Γ + 16), .ref (mm_B Γ + 17), .ref (mm_B Γ + 18), .ref (mm_B Γ + 19)])
  else if k = 20 then .inr (0, [.ref (mm_B Γ + 21), .ref (mm_B Γ + 22), .ref (mm_B Γ + 23), .ref (mm_B Γ + 24), .ref (mm_B Γ + 25), .int (r 5)])
  else if k = 27 then .inl (mm_cT Γ, 6, .inr (.inr (.inr (.inr (fun i => some (mm_B Γ + (28 + 6 * i)))))))
  else if k = 64 then .inr (5, [.ref (mm_B Γ + 65), .ref (mm_B Γ + 66), .ref (mm_B Γ + 67), .ref (mm_B Γ + 68), .ref (mm_B Γ + 69), .int (r 5), .int (r 6), .ref (mm_B Γ + 70), .ref (mm_B Γ + 71), .ref (mm_B Γ + 72), .ref (mm_B Γ + 73), .ref (mm_B Γ + 74), .int (r 12), .ref (mm_B Γ + 75), .ref (mm_B Γ + 76), .ref (mm_B Γ + 77), .ref (mm_B Γ + 78), .ref (mm_B Γ + 79), .ref (mm_B Γ + 80)])
  else if 28 ≤ k ∧ k < 64 ∧ (k - 28) % 6 = 0 then .inr (2, [.ref (mm_B Γ + (k + 1)), .ref (mm_B Γ + (k + 2)), .ref (mm_B Γ + (k + 3)), .ref (mm_B Γ + (k + 4)), .ref (mm_B Γ + (k + 5)), .int (r 5), .int (r 6), .int (r 7), .int (r 8)])
  else if k = 16 ∨ k = 24 ∨ k = 69 ∨ k = 74 then .inl (mm_cZ Γ, mm_lens.getD k 0, .inl r)
  else .inl (mm_cI Γ, mm_lens.getD k 0, .inl r)
def mm_ws (Γ : mm_Ctx) (h : mm_Mem) : va_W := (List.range 81).map (fun k => (mm_B Γ + k, mm_cell Γ k (h k)))
theorem mm_ws_at {Γ : mm_Ctx} {h : mm_Mem} {k : Nat} (hk : k < 81) : (mm_ws Γ h)[k]? = some (mm_B Γ + k, mm_cell Γ k (h k)) := by
  simp [mm_ws, hk]
theorem mm_ws_of {Γ : mm_Ctx} {h : mm_Mem} {k : Nat} {q : Nat × va_E} (hk : (mm_ws Γ h)[k]? = some q) : k < 81 ∧ q = (mm_B Γ + k, mm_cell Γ k (h k)) := by
  by_cases hl : k < 81
  · rw [mm_ws_at hl] at hk
    exact ⟨hl, (Option.some.inj hk).symm⟩
  · exfalso
    have : (mm_ws Γ h).length ≤ k := by simp [mm_ws]; omega
    rw [List.getElem?_eq_none this] at hk
    cases hk
theorem mm_ws_set {Γ : mm_Ctx} {h : mm_Mem} {k : Nat} (r : Nat → Int32) (hk : k < 81) : (mm_ws Γ h).set k (mm_B Γ + k, mm_cell Γ k r) = mm_ws Γ (va_up h k r) := by
  apply List.ext_getElem?
  intro j
  rw [List.getElem?_set]
  by_cases hj : k = j
  · subst hj
    have hl : k < (mm_ws Γ h).length := by simp [mm_ws, hk]
    rw [if_pos rfl, if_pos hl, mm_ws_at hk]
    simp [va_up]
  · rw [if_neg hj]
    by_cases hl : j < 81
    · rw [mm_ws_at hl, mm_ws_at hl]
      have : ¬ j = k := fun e => hj e.symm
      simp [va_up, this]
    · have h1 : (mm_ws Γ h).length ≤ j := by simp [mm_ws]; omega
      have h2 : (mm_ws Γ (va_up h k r)).length ≤ j := by simp [mm_ws]; omega
      rw [List.getElem?_eq_none h1, List.getElem?_eq_none h2]
def mm_A (Γ : mm_Ctx) : Nat → Prop := fun q => mm_B Γ ≤ q ∧ q < mm_B Γ + 81
theorem mm_DD {Γ : mm_Ctx} {h : mm_Mem} : va_D (mm_A Γ) (mm_ws Γ h) := by
  refine ⟨fun i j p q hi hj e => ?_, fun k q hk => ?_⟩
  · obtain ⟨h1, rfl⟩ := mm_ws_of hi
    obtain ⟨h2, rfl⟩ := mm_ws_of hj
    have e' : mm_B Γ + i = mm_B Γ + j := e
    omega
  · obtain ⟨h1, rfl⟩ := mm_ws_of hk
    exact ⟨Nat.le_add_right _ _, Nat.add_lt_add_left h1 _⟩
abbrev mm_PW (Γ : mm_Ctx) (h : mm_Mem) (H : Heap) : Prop := va_P (mm_D Γ) mm_cl (mm_ws Γ h) H
abbrev mm_nest : Cond := Cond.methodLinkNest "SwitchedModules$Version" 30 smy_S_isWithin "SwitchedModules"
def mm_KW (Γ : mm_Ctx) (U : State) : Prop := va_K (mm_D Γ) mm_cl (mm_tys Γ) U ∧ va_Nw mm_nest U
theorem mm_KW_warm {Γ : mm_Ctx} {s U : State} (hW : s.WarmedH U.vm) (h : mm_KW Γ s) : mm_KW Γ U := ⟨va_K.moved hW.alike h.1, va_Nw.warmM hW h.2⟩
def mm_wr (h : mm_Mem) (q i : Nat) (x : Int32) : mm_Mem := va_up h q (upd (h q) i x)
def mm_cp (h : mm_Mem) (q0 q1 n : Nat) : mm_Mem := va_up h q1 (va_cpy (h q0) (h q1) 0 0 n)
/-! what a handle is -/
def mm_ai (Γ : mm_Ctx) (q n : Nat) : Prop := q < 81 ∧ ∀ r, mm_cell Γ q r = .inl (mm_cI Γ, n, .inl r)
def mm_az (Γ : mm_Ctx) (q n : Nat) : Prop := q < 81 ∧ ∀ r, mm_cell Γ q r = .inl (mm_cZ Γ, n, .inl r)
def mm_ob (Γ : mm_Ctx) (q ci : Nat) (F : (Nat → Int32) → List Value) : Prop := q < 81 ∧ ∀ r, mm_cell Γ q r = .inr (ci, F r)
/-! locals -/
def mm_kn : Nat → List (Option Value) → List (Nat × Value)
  | _, [] => []
  | i, none :: l => mm_kn (i + 1) l
  | i, some v :: l => (i, v) :: mm_kn (i + 1) l
theorem mm_kn_mem : ∀ (L : List (Option Value)) (i j : Nat) (v : Value), (j, v) ∈ mm_kn i L ↔ ∃ t, j = i + t ∧ L[t]? = some (some v)
  | [], i, j, v => by simp [mm_kn]
  | none :: l, i, j, v => by
    rw [mm_kn, mm_kn_mem l (i + 1) j v]
    constructor
    · rintro ⟨t, rfl, h⟩
      exact ⟨t + 1, by omega, by simpa using h⟩
    · rintro ⟨t, rfl, h⟩
      cases t with
      | zero => simp at h
      | succ t => exact ⟨t, by omega, by simpa using h⟩
  | some w :: l, i, j, v => by
    rw [mm_kn, List.mem_cons, mm_kn_mem l (i + 1) j v]
    constructor
    · rintro (h | ⟨t, rfl, h⟩)
      · cases h
        exact ⟨0, by omega, by simp⟩
      · exact ⟨t + 1, by omega, by simpa using h⟩
    · rintro ⟨t, rfl, h⟩
      cases t with
      | zero =>
        simp at h
        left
        rw [h]
        rfl
      | succ t => exact Or.inr ⟨t, by omega, by simpa using h⟩
def mm_L (ls : Array Slot) (nL : Nat) (L : List (Option Value)) : Prop := lv_has ls nL (mm_kn 0 L) ∧ ∀ (i : Nat) (v : Value), L[i]? = some (some v) → v.category = 1
theorem mm_L_at {ls : Array Slot} {nL : Nat} {L : List (Option Value)} (h : mm_L ls nL L) {i : Nat} {v : Value} (hi : L[i]? = some (some v)) : ls[i]? = some (.val v) :=
  h.1.2.2 (i, v) ((mm_kn_mem L 0 i v).mpr ⟨i, by omega, hi⟩)
theorem mm_L_set {ls ls' : Array Slot} {nL i : Nat} {L : List (Option Value)} {v : Value} (h : mm_L ls nL L) (hv : v.category = 1) (h' : lv_has ls' nL ((i, v) :: (mm_kn 0 L).filter (fun q => !(q.1 == i) && !(q.1 + 1 == i && q.2.category == 2)))) : mm_L ls' nL (L.set i (some v)) := by
  refine ⟨⟨h'.1, h'.2.1, fun q hq => h'.2.2 q ?_⟩, fun j w hj => ?_⟩
  · obtain ⟨j, w⟩ := q
    obtain ⟨t, e1, e2⟩ := (mm_kn_mem _ 0 j w).mp hq
    have e3 : j = t := by omega
    subst e3
    rw [List.getElem?_set] at e2
    by_cases hji : i = j
    · subst hji
      rw [if_pos rfl] at e2
      split at e2
      · cases e2
        exact List.mem_cons_self
      · cases e2
    · rw [if_neg hji] at e2
      refine List.mem_cons_of_mem _ (List.mem_filter.mpr ⟨(mm_kn_mem L 0 j w).mpr ⟨j, by omega, e2⟩, ?_⟩)
      have hc := h.2 j w e2
      have : ¬ j = i := fun e => hji e.symm
      simp [hc, this]
  · rw [List.getElem?_set] at hj
    by_cases hji : i = j
    · subst hji
      rw [if_pos rfl] at hj
      split at hj
      · cases hj
        exact hv
      · cases hj
    · rw [if_neg hji] at hj
      exact h.2 j w hj
/-- fewer known locals -/
theorem mm_L_sub {ls : Array Slot} {nL : Nat} {L L' : List (Option Value)} (h : mm_L ls nL L) (hs : ∀ (i : Nat) (v : Value), L'[i]? = some (some v) → L[i]? = some (some v)) : mm_L ls nL L' := by
  refine ⟨⟨h.1.1, h.1.2.1, fun q hq => ?_⟩, fun j w hj => h.2 j w (hs j w hj)⟩
  obtain ⟨j, w⟩ := q
  obtain ⟨t, e1, e2⟩ := (mm_kn_mem _ 0 j w).mp hq
  have e3 : j = t := by omega
  subst e3
  exact mm_L_at h (hs j w e2)
def mm_le : List (Option Value) → List (Option Value) → Prop
  | [], _ => True
  | none :: l, [] => mm_le l []
  | some _ :: _, [] => False
  | none :: l, _ :: r => mm_le l r
  | some v :: l, w :: r => w = some v ∧ mm_le l r
theorem mm_le_at : ∀ (L' L : List (Option Value)), mm_le L' L → ∀ (i : Nat) (v : Value), L'[i]? = some (some v) → L[i]? = some (some v)
  | [], _, _, i, v, hi => by simp at hi
  | none :: l, [], h, i, v, hi => by
    cases i with
    | zero => simp at hi
    | succ i =>
      have := mm_le_at l [] h i v (by simpa using hi)
      simp at this
  | some _ :: _, [], h, _, _, _ => h.elim
  | none :: l, w :: r, h, i, v, hi => by
    cases i with
    | zero => simp at hi
    | succ i =>
      have := mm_le_at l r h i v (by simpa using hi)
      simpa using this
  | some u :: l, w :: r, h, i, v, hi => by
    cases i with
    | zero =>
      simp at hi
      simp [h.1, hi]
    | succ i =>
      have := mm_le_at l r h.2 i v (by simpa using hi)
      simpa using this
/-! the judgement -/
abbrev mm_E : Type := Room × Nat × Nat × (Array Value → State → Prop) × (List Frame → Array Value → State → State → Prop)
def mm_Fx (Γ : mm_Ctx) (M : mm_MD) (p : Program) (s : State) (m : MethodId) (args : Array Value) (meth : Method) (c : Code) : Prop :=
  p.tables.exec = Jvm.exec ∧ c.code = M.2.1 ∧ meth.sig.returnType = M.2.2.2.1 ∧ c.maxLocals = M.2.2.1 ∧ s.vm.findClass M.1.cls = some m.cls ∧ (∀ w ∈ mm_all, w.before args s = true) ∧ meth.locks = false ∧ mm_KW Γ s
def mm_WG (Γ : mm_Ctx) (M : mm_MD) (E : mm_E) (pc : Nat) (L : List (Option Value)) (st : List Value) (h : mm_Mem) : Prop :=
  ∀ (p : Program) (e : Env) (s : State) (m : MethodId) (args : Array Value) (below : List Frame) (meth : Method) (c : Code), mm_Fx Γ M p s m args meth c → E.2.2.2.1 args s →
    ∀ (H : Heap) (locs : List Loc) (ls : Array Slot), mm_PW Γ h H → va_S (mm_A Γ) s.heap H locs → mm_L ls M.2.2.1 L →
      W p Γ.1 e E.1 s m args below meth c H locs E.2.1 E.2.2.1 (E.2.2.2.2 below args s) (F0 m pc ls st)
def mm_Q (Γ : mm_Ctx) (post : Option Value → mm_Mem → Prop) : Array Value → State → Outcome → State → Prop := fun _ st oc t =>
  (∃ (r : Option Value) (h' : mm_Mem), oc = .returned r ∧ post r h' ∧ mm_PW Γ h' t.heap ∧ mm_KW Γ t) ∧ va_F (mm_A Γ) st t
abbrev mm_Em (Γ : mm_Ctx) (M : mm_MD) (post : Option Value → mm_Mem → Prop) : mm_E := (mm_rm M, 0, 0, (fun _ _ => True), (fun below args s => MQ below (mm_Q Γ post) args s 0 0 (mm_A Γ)))
abbrev mm_W (Γ : mm_Ctx) (M : mm_MD) (post : Option Value → mm_Mem → Prop) (pc : Nat) (L : List (Option Value)) (st : List Value) (h : mm_Mem) : Prop := mm_WG Γ M (mm_Em Γ M post) pc L st h
def mm_S (Γ : mm_Ctx) (M : mm_MD) (args : List Value) (h : mm_Mem) (post : Option Value → mm_Mem → Prop) : Prop :=
  Met Γ.1 M.1 (mm_wsM M) (mm_rm M) (va_Pc args (fun U => mm_PW Γ h U.heap ∧ mm_KW Γ U)) (mm_Q Γ post) 0 0 (mm_A Γ)
abbrev mm_pI (post : Int32 → mm_Mem → Prop) : Option Value → mm_Mem → Prop := fun r h' => ∃ x, r = some (.int x) ∧ post x h'
abbrev mm_pV (post : mm_Mem → Prop) : Option Value → mm_Mem → Prop := fun r h' => r = none ∧ post h'
abbrev mm_SI (Γ : mm_Ctx) (M : mm_MD) (args : List Value) (h : mm_Mem) (post : Int32 → mm_Mem → Prop) : Prop := mm_S Γ M args h (mm_pI post)
abbrev mm_SV (Γ : mm_Ctx) (M : mm_MD) (args : List Value) (h : mm_Mem) (post : mm_Mem → Prop) : Prop := mm_S Γ M args h (mm_pV post)
end
section
section MR
variable {Γ : mm_Ctx} {M : mm_MD} {E : mm_E} {pc n : Nat} {L L' : List (Option Value)} {st : List Value} {h : mm_Mem}
theorem mm_iconst {z : Int} {v : Int32} (hd : decode M.2.1 pc = .ok (.iconst z, 1)) (hn : pc + 1 = n) (hv : Int32.ofInt z = v) (k : mm_WG Γ M E n L (.int v :: st) h) : mm_WG Γ M E pc L (st) h := by
  subst hn
  intro p e s m args below meth c F X H locs ls hP hS hL
  exact lv_iconst F.1 F.2.1 hd hv (k p e s m args below meth c F X H locs ls hP hS hL)
theorem mm_bipush {z : Int} {v : Int32} (hd : decode M.2.1 pc = .ok (.bipush z, 2)) (hn : pc + 2 = n) (hv : (Int8.ofInt z).toInt32 = v) (k : mm_WG Γ M E n L (.int v :: st) h) : mm_WG Γ M E pc L (st) h := by
  subst hn
  intro p e s m args below meth c F X H locs ls hP hS hL
  exact lv_bipush F.1 F.2.1 hd hv (k p e s m args below meth c F X H locs ls hP hS hL)
theorem mm_sipush {z : Int} {v : Int32} (hd : decode M.2.1 pc = .ok (.sipush z, 3)) (hn : pc + 3 = n) (hv : (Int16.ofInt z).toInt32 = v) (k : mm_WG Γ M E n L (.int v :: st) h) : mm_WG Γ M E pc L (st) h := by
  subst hn
  intro p e s m args below meth c F X H locs ls hP hS hL
  exact lv_sipush F.1 F.2.1 hd hv (k p e s m args below meth c F X H locs ls hP hS hL)
theorem mm_iload_n {k0 : Fin 4} {i : Nat} {x : Int32} (hd : decode M.2.1 pc = .ok (.iload_n k0, 1)) (hn : pc + 1 = n) (hi : (k0 : Nat) = i) (hl : L[i]? = some (some (.int x))) (k : mm_WG Γ M E n L (.int x :: st) h) : mm_WG Γ M E pc L (st) h := by
  subst hn
  intro p e s m args below meth c F X H locs ls hP hS hL
  exact lv_iload_n F.1 F.2.1 hd hi (mm_L_at hL hl) (k p e s m args below meth c F X H locs ls hP hS hL)
theorem mm_aload_n {k0 : Fin 4} {i : Nat} {x : Nat} (hd : decode M.2.1 pc = .ok (.aload_n k0, 1)) (hn : pc + 1 = n) (hi : (k0 : Nat) = i) (hl : L[i]? = some (some (.ref x))) (k : mm_WG Γ M E n L (.ref x :: st) h) : mm_WG Γ M E pc L (st) h := by
  subst hn
  intro p e s m args below meth c F X H locs ls hP hS hL
  exact lv_aload_n F.1 F.2.1 hd hi (mm_L_at hL hl) (k p e s m args below meth c F X H locs ls hP hS hL)
theorem mm_iload {i : Nat} {x : Int32} (hd : decode M.2.1 pc = .ok (.iload i, 2)) (hn : pc + 2 = n) (hl : L[i]? = some (some (.int x))) (k : mm_WG Γ M E n L (.int x :: st) h) : mm_WG Γ M E pc L (st) h := by
  subst hn
  intro p e s m args below meth c F X H locs ls hP hS hL
  exact lv_iload F.1 F.2.1 hd (mm_L_at hL hl) (k p e s m args below meth c F X H locs ls hP hS hL)
theorem mm_aload {i : Nat} {x : Nat} (hd : decode M.2.1 pc = .ok (.aload i, 2)) (hn : pc + 2 = n) (hl : L[i]? = some (some (.ref x))) (k : mm_WG Γ M E n L (.ref x :: st) h) : mm_WG Γ M E pc L (st) h := by
  subst hn
  intro p e s m args below meth c F X H locs ls hP hS hL
  exact lv_aload F.1 F.2.1 hd (mm_L_at hL hl) (k p e s m args below meth c F X H locs ls hP hS hL)
theorem mm_istore_n {k0 : Fin 4} {i : Nat} {x : Int32} (hd : decode M.2.1 pc = .ok (.istore_n k0, 1)) (hn : pc + 1 = n) (hi : (k0 : Nat) = i) (hm : i < M.2.2.1) (hs : L.set i (some (.int x)) = L') (k : mm_WG Γ M E n L' st h) : mm_WG Γ M E pc L (.int x :: st) h := by
  subst hn
  subst hs
  intro p e s m args below meth c F X H locs ls hP hS hL
  exact lv_istore_n F.1 F.2.1 hd hi hL.1 hm rfl (fun ls' h' => k p e s m args below meth c F X H locs ls' hP hS (mm_L_set hL rfl h'))
theorem mm_astore_n {k0 : Fin 4} {i : Nat} {x : Nat} (hd : decode M.2.1 pc = .ok (.astore_n k0, 1)) (hn : pc + 1 = n) (hi : (k0 : Nat) = i) (hm : i < M.2.2.1) (hs : L.set i (some (.ref x)) = L') (k : mm_WG Γ M E n L' st h) : mm_WG Γ M E pc L (.ref x :: st) h := by
  subst hn
  subst hs
  intro p e s m args below meth c F X H locs ls hP hS hL
  exact lv_astore_n F.1 F.2.1 hd hi hL.1 hm rfl (fun ls' h' => k p e s m args below meth c F X H locs ls' hP hS (mm_L_set hL rfl h'))
theorem mm_istore {i : Nat} {x : Int32} (hd : decode M.2.1 pc = .ok (.istore i, 2)) (hn : pc + 2 = n) (hm : i < M.2.2.1) (hs : L.set i (some (.int x)) = L') (k : mm_WG Γ M E n L' st h) : mm_WG Γ M E pc L (.int x :: st) h := by
  subst hn
  subst hs
  intro p e s m args below meth c F X H locs ls hP hS hL
  exact lv_istore F.1 F.2.1 hd hL.1 hm rfl (fun ls' h' => k p e s m args below meth c F X H locs ls' hP hS (mm_L_set hL rfl h'))
theorem mm_astore {i : Nat} {x : Nat} (hd : decode M.2.1 pc = .ok (.astore i, 2)) (hn : pc + 2 = n) (hm : i < M.2.2.1) (hs : L.set i (some (.ref x)) = L') (k : mm_WG Γ M E n L' st h) : mm_WG Γ M E pc L (.ref x :: st) h := by
  subst hn
  subst hs
  intro p e s m args below meth c F X H locs ls hP hS hL
  exact lv_astore F.1 F.2.1 hd hL.1 hm rfl (fun ls' h' => k p e s m args below meth c F X H locs ls' hP hS (mm_L_set hL rfl h'))
theorem mm_iinc {i : Nat} {z : Int} {x d : Int32} (hd : decode M.2.1 pc = .ok (.iinc i z, 3)) (hn : pc + 3 = n) (hl : L[i]? = some (some (.int x))) (hv : Int32.ofInt z = d) (hm : i < M.2.2.1) (hs : L.set i (some (.int (x + d))) = L') (k : mm_WG Γ M E n L' st h) : mm_WG Γ M E pc L st h := by
  subst hn
  subst hs
  subst hv
  intro p e s m args below meth c F X H locs ls hP hS hL
  obtain ⟨j, hj⟩ := List.getElem?_of_mem ((mm_kn_mem L 0 i (.int x)).mpr ⟨i, by omega, hl⟩)
  exact lv_iinc F.1 F.2.1 hd hL.1 hj rfl hm rfl (fun ls' h' => k p e s m args below meth c F X H locs ls' hP hS (mm_L_set hL rfl h'))
theorem mm_iadd {a b : Int32} (hd : decode M.2.1 pc = .ok (.iadd, 1)) (hn : pc + 1 = n) (k : mm_WG Γ M E n L (.int (a + b) :: st) h) : mm_WG Γ M E pc L (.int b :: .int a :: st) h := by
  subst hn
  intro p e s m args below meth c F X H locs ls hP hS hL
  exact lv_iadd F.1 F.2.1 hd (k p e s m args below meth c F X H locs ls hP hS hL)
theorem mm_isub {a b : Int32} (hd : decode M.2.1 pc = .ok (.isub, 1)) (hn : pc + 1 = n) (k : mm_WG Γ M E n L (.int (a - b) :: st) h) : mm_WG Γ M E pc L (.int b :: .int a :: st) h := by
  subst hn
  intro p e s m args below meth c F X H locs ls hP hS hL
  exact lv_isub F.1 F.2.1 hd (k p e s m args below meth c F X H locs ls hP hS hL)
theorem mm_imul {a b : Int32} (hd : decode M.2.1 pc = .ok (.imul, 1)) (hn : pc + 1 = n) (k : mm_WG Γ M E n L (.int (a * b) :: st) h) : mm_WG Γ M E pc L (.int b :: .int a :: st) h := by
  subst hn
  intro p e s m args below meth c F X H locs ls hP hS hL
  exact lv_imul F.1 F.2.1 hd (k p e s m args below meth c F X H locs ls hP hS hL)
theorem mm_iand {a b : Int32} (hd : decode M.2.1 pc = .ok (.iand, 1)) (hn : pc + 1 = n) (k : mm_WG Γ M E n L (.int (a &&& b) :: st) h) : mm_WG Γ M E pc L (.int b :: .int a :: st) h := by
  subst hn
  intro p e s m args below meth c F X H locs ls hP hS hL
  exact lv_iand F.1 F.2.1 hd (k p e s m args below meth c F X H locs ls hP hS hL)
theorem mm_idiv {a b : Int32} (hd : decode M.2.1 pc = .ok (.idiv, 1)) (hn : pc + 1 = n) (hb : ¬ b = 0) (k : mm_WG Γ M E n L (.int (a / b) :: st) h) : mm_WG Γ M E pc L (.int b :: .int a :: st) h := by
  subst hn
  intro p e s m args below meth c F X H locs ls hP hS hL
  exact lv_idiv F.1 F.2.1 hd hb (k p e s m args below meth c F X H locs ls hP hS hL)
theorem mm_irem {a b : Int32} (hd : decode M.2.1 pc = .ok (.irem, 1)) (hn : pc + 1 = n) (hb : ¬ b = 0) (k : mm_WG Γ M E n L (.int (a - a / b * b) :: st) h) : mm_WG Γ M E pc L (.int b :: .int a :: st) h := by
  subst hn
  intro p e s m args below meth c F X H locs ls hP hS hL
  exact lv_irem F.1 F.2.1 hd hb (k p e s m args below meth c F X H locs ls hP hS hL)
theorem mm_dup {v : Value} (hd : decode M.2.1 pc = .ok (.dup, 1)) (hn : pc + 1 = n) (hv : v.category = 1) (k : mm_WG Γ M E n L (v :: v :: st) h) : mm_WG Γ M E pc L (v :: st) h := by
  subst hn
  intro p e s m args below meth c F X H locs ls hP hS hL
  exact lv_dup F.1 F.2.1 hd hv (k p e s m args below meth c F X H locs ls hP hS hL)
theorem mm_pop {v : Value} (hd : decode M.2.1 pc = .ok (.pop, 1)) (hn : pc + 1 = n) (hv : v.category = 1) (k : mm_WG Γ M E n L (st) h) : mm_WG Γ M E pc L (v :: st) h := by
  subst hn
  intro p e s m args below meth c F X H locs ls hP hS hL
  exact lv_pop F.1 F.2.1 hd hv (k p e s m args below meth c F X H locs ls hP hS hL)
theorem mm_dup2 {v u : Value} (hd : decode M.2.1 pc = .ok (.dup2, 1)) (hn : pc + 1 = n) (hv : v.category = 1) (hu : u.category = 1) (k : mm_WG Γ M E n L (v :: u :: v :: u :: st) h) : mm_WG Γ M E pc L (v :: u :: st) h := by
  subst hn
  intro p e s m args below meth c F X H locs ls hP hS hL
  exact lv_dup2_11 F.1 F.2.1 hd hv hu (k p e s m args below meth c F X H locs ls hP hS hL)
theorem mm_if_eq {x : Int32} {off : Int} {tgt : Nat} (hd : decode M.2.1 pc = .ok (.ifCond .eq off, 3)) (hn : pc + 3 = n) (ht : (pc : Int) + off = (tgt : Int)) (kt : x = 0 → mm_WG Γ M E tgt L st h) (kf : ¬ x = 0 → mm_WG Γ M E n L st h) : mm_WG Γ M E pc L (.int x :: st) h := by
  subst hn
  intro p e s m args below meth c F X H locs ls hP hS hL
  exact lv_if_eq F.1 F.2.1 hd ht (fun q => kt q p e s m args below meth c F X H locs ls hP hS hL) (fun q => kf q p e s m args below meth c F X H locs ls hP hS hL)
theorem mm_if_ne {x : Int32} {off : Int} {tgt : Nat} (hd : decode M.2.1 pc = .ok (.ifCond .ne off, 3)) (hn : pc + 3 = n) (ht : (pc : Int) + off = (tgt : Int)) (kt : ¬ x = 0 → mm_WG Γ M E tgt L st h) (kf : x = 0 → mm_WG Γ M E n L st h) : mm_WG Γ M E pc L (.int x :: st) h := by
  subst hn
  intro p e s m args below meth c F X H locs ls hP hS hL
  exact lv_if_ne F.1 F.2.1 hd ht (fun q => kt q p e s m args below meth c F X H locs ls hP hS hL) (fun q => kf q p e s m args below meth c F X H locs ls hP hS hL)
theorem mm_if_lt {x : Int32} {off : Int} {tgt : Nat} (hd : decode M.2.1 pc = .ok (.ifCond .lt off, 3)) (hn : pc + 3 = n) (ht : (pc : Int) + off = (tgt : Int)) (kt : x < 0 → mm_WG Γ M E tgt L st h) (kf : ¬ x < 0 → mm_WG Γ M E n L st h) : mm_WG Γ M E pc L (.int x :: st) h := by
  subst hn
  intro p e s m args below meth c F X H locs ls hP hS hL
  exact lv_if_lt F.1 F.2.1 hd ht (fun q => kt q p e s m args below meth c F X H locs ls hP hS hL) (fun q => kf q p e s m args below meth c F X H locs ls hP hS hL)
theorem mm_if_ge {x : Int32} {off : Int} {tgt : Nat} (hd : decode M.2.1 pc = .ok (.ifCond .ge off, 3)) (hn : pc + 3 = n) (ht : (pc : Int) + off = (tgt : Int)) (kt : 0 ≤ x → mm_WG Γ M E tgt L st h) (kf : ¬ 0 ≤ x → mm_WG Γ M E n L st h) : mm_WG Γ M E pc L (.int x :: st) h := by
  subst hn
  intro p e s m args below meth c F X H locs ls hP hS hL
  exact lv_if_ge F.1 F.2.1 hd ht (fun q => kt q p e s m args below meth c F X H locs ls hP hS hL) (fun q => kf q p e s m args below meth c F X H locs ls hP hS hL)
theorem mm_if_gt {x : Int32} {off : Int} {tgt : Nat} (hd : decode M.2.1 pc = .ok (.ifCond .gt off, 3)) (hn : pc + 3 = n) (ht : (pc : Int) + off = (tgt : Int)) (kt : 0 < x → mm_WG Γ M E tgt L st h) (kf : ¬ 0 < x → mm_WG Γ M E n L st h) : mm_WG Γ M E pc L (.int x :: st) h := by
  subst hn
  intro p e s m args below meth c F X H locs ls hP hS hL
  exact lv_if_gt F.1 F.2.1 hd ht (fun q => kt q p e s m args below meth c F X H locs ls hP hS hL) (fun q => kf q p e s m args below meth c F X H locs ls hP hS hL)
theorem mm_if_le {x : Int32} {off : Int} {tgt : Nat} (hd : decode M.2.1 pc = .ok (.ifCond .le off, 3)) (hn : pc + 3 = n) (ht : (pc : Int) + off = (tgt : Int)) (kt : x ≤ 0 → mm_WG Γ M E tgt L st h) (kf : ¬ x ≤ 0 → mm_WG Γ M E n L st h) : mm_WG Γ M E pc L (.int x :: st) h := by
  subst hn
  intro p e s m args below meth c F X H locs ls hP hS hL
  exact lv_if_le F.1 F.2.1 hd ht (fun q => kt q p e s m args below meth c F X H locs ls hP hS hL) (fun q => kf q p e s m args below meth c F X H locs ls hP hS hL)
theorem mm_icmp_eq {x y : Int32} {off : Int} {tgt : Nat} (hd : decode M.2.1 pc = .ok (.if_icmp .eq off, 3)) (hn : pc + 3 = n) (ht : (pc : Int) + off = (tgt : Int)) (kt : x = y → mm_WG Γ M E tgt L st h) (kf : ¬ x = y → mm_WG Γ M E n L st h) : mm_WG Γ M E pc L (.int y :: .int x :: st) h := by
  subst hn
  intro p e s m args below meth c F X H locs ls hP hS hL
  exact lv_icmp_eq F.1 F.2.1 hd ht (fun q => kt q p e s m args below meth c F X H locs ls hP hS hL) (fun q => kf q p e s m args below meth c F X H locs ls hP hS hL)
theorem mm_icmp_ne {x y : Int32} {off : Int} {tgt : Nat} (hd : decode M.2.1 pc = .ok (.if_icmp .ne off, 3)) (hn : pc + 3 = n) (ht : (pc : Int) + off = (tgt : Int)) (kt : ¬ x = y → mm_WG Γ M E tgt L st h) (kf : x = y → mm_WG Γ M E n L st h) : mm_WG Γ M E pc L (.int y :: .int x :: st) h := by
  subst hn
  intro p e s m args below meth c F X H locs ls hP hS hL
  exact lv_icmp_ne F.1 F.2.1 hd ht (fun q => kt q p e s m args below meth c F X H locs ls hP hS hL) (fun q => kf q p e s m args below meth c F X H locs ls hP hS hL)
theorem mm_icmp_lt {x y : Int32} {off : Int} {tgt : Nat} (hd : decode M.2.1 pc = .ok (.if_icmp .lt off, 3)) (hn : pc + 3 = n) (ht : (pc : Int) + off = (tgt : Int)) (kt : x < y → mm_WG Γ M E tgt L st h) (kf : ¬ x < y → mm_WG Γ M E n L st h) : mm_WG Γ M E pc L (.int y :: .int x :: st) h := by
  subst hn
  intro p e s m args below meth c F X H locs ls hP hS hL
  exact lv_icmp_lt F.1 F.2.1 hd ht (fun q => kt q p e s m args below meth c F X H locs ls hP hS hL) (fun q => kf q p e s m args below meth c F X H locs ls hP hS hL)
theorem mm_icmp_ge {x y : Int32} {off : Int} {tgt : Nat} (hd : decode M.2.1 pc = .ok (.if_icmp .ge off, 3)) (hn : pc + 3 = n) (ht : (pc : Int) + off = (tgt : Int)) (kt : y ≤ x → mm_WG Γ M E tgt L st h) (kf : ¬ y ≤ x → mm_WG Γ M E n L st h) : mm_WG Γ M E pc L (.int y :: .int x :: st) h := by
  subst hn
  intro p e s m args below meth c F X H locs ls hP hS hL
  exact lv_icmp_ge F.1 F.2.1 hd ht (fun q => kt q p e s m args below meth c F X H locs ls hP hS hL) (fun q => kf q p e s m args below meth c F X H locs ls hP hS hL)
theorem mm_icmp_gt {x y : Int32} {off : Int} {tgt : Nat} (hd : decode M.2.1 pc = .ok (.if_icmp .gt off, 3)) (hn : pc + 3 = n) (ht : (pc : Int) + off = (tgt : Int)) (kt : y < x → mm_WG Γ M E tgt L st h) (kf : ¬ y < x → mm_WG Γ M E n L st h) : mm_WG Γ M E pc L (.int y :: .int x :: st) h := by
  subst hn
  intro p e s m args below meth c F X H locs ls hP hS hL
  exact lv_icmp_gt F.1 F.2.1 hd ht (fun q => kt q p e s m args below meth c F X H locs ls hP hS hL) (fun q => kf q p e s m args below meth c F X H locs ls hP hS hL)
theorem mm_icmp_le {x y : Int32} {off : Int} {tgt : Nat} (hd : decode M.2.1 pc = .ok (.if_icmp .le off, 3)) (hn : pc + 3 = n) (ht : (pc : Int) + off = (tgt : Int)) (kt : x ≤ y → mm_WG Γ M E tgt L st h) (kf : ¬ x ≤ y → mm_WG Γ M E n L st h) : mm_WG Γ M E pc L (.int y :: .int x :: st) h := by
  subst hn
  intro p e s m args below meth c F X H locs ls hP hS hL
  exact lv_icmp_le F.1 F.2.1 hd ht (fun q => kt q p e s m args below meth c F X H locs ls hP hS hL) (fun q => kf q p e s m args below meth c F X H locs ls hP hS hL)
theorem mm_goto {off : Int} (hd : decode M.2.1 pc = .ok (.goto off, 3)) (ht : (pc : Int) + off = (n : Int)) (k : mm_WG Γ M E n L st h) : mm_WG Γ M E pc L st h := by
  intro p e s m args below meth c F X H locs ls hP hS hL
  exact lv_goto F.1 F.2.1 hd ht (k p e s m args below meth c F X H locs ls hP hS hL)
theorem mm_tIn {dflt lo hi : Int} {offs : Array Int} {len : Nat} {x : Int32} {off : Int} {tgt : Nat} (hd : decode M.2.1 pc = .ok (.tableswitch dflt lo hi offs, len)) (v : Int32) (hx : x = v) (h1 : ¬ v.toInt < lo) (h2 : ¬ hi < v.toInt) (ho : offs[(v.toInt - lo).toNat]? = some off) (ht : (pc : Int) + off = (tgt : Int)) (k : mm_WG Γ M E tgt L st h) : mm_WG Γ M E pc L (.int x :: st) h := by
  subst hx
  intro p e s m args below meth c F X H locs ls hP hS hL
  exact lv_tableIn F.1 F.2.1 hd h1 h2 ho ht (k p e s m args below meth c F X H locs ls hP hS hL)
theorem mm_tOut {dflt lo hi : Int} {offs : Array Int} {len : Nat} {x : Int32} {tgt : Nat} (hd : decode M.2.1 pc = .ok (.tableswitch dflt lo hi offs, len)) (h1 : x.toInt < lo ∨ hi < x.toInt) (ht : (pc : Int) + dflt = (tgt : Int)) (k : mm_WG Γ M E tgt L st h) : mm_WG Γ M E pc L (.int x :: st) h := by
  intro p e s m args below meth c F X H locs ls hP hS hL
  exact lv_tableOut F.1 F.2.1 hd h1 ht (k p e s m args below meth c F X H locs ls hP hS hL)
theorem mm_lsw {dflt : Int} {ps : Array (Int × Int)} {len : Nat} {x : Int32} {off : Int} {tgt : Nat} (hd : decode M.2.1 pc = .ok (.lookupswitch dflt ps, len)) (hp : (ps.toList.zip (ps.toList.drop 1)).all (fun (a, next) => a.1 < next.1) = true) (ho : Op.lookupswitch.offset ps.toList dflt x.toInt = off) (ht : (pc : Int) + off = (tgt : Int)) (k : mm_WG Γ M E tgt L st h) : mm_WG Γ M E pc L (.int x :: st) h := by
  intro p e s m args below meth c F X H locs ls hP hS hL
  exact lv_lookup F.1 F.2.1 hd hp ho ht (k p e s m args below meth c F X H locs ls hP hS hL)
theorem mm_top {x : Int32} (k : ∀ y : Int32, y = x → mm_WG Γ M E pc L (.int y :: st) h) : mm_WG Γ M E pc L (.int x :: st) h := k x rfl
theorem mm_weak (hl : mm_le L' L) (k : mm_WG Γ M E pc L' st h) : mm_WG Γ M E pc L st h := by
  intro p e s m args below meth c F X H locs ls hP hS hL
  exact k p e s m args below meth c F X H locs ls hP hS (mm_L_sub hL (mm_le_at _ _ hl))
theorem mm_nam (k : ∀ h' : mm_Mem, h' = h → mm_WG Γ M E pc L st h') : mm_WG Γ M E pc L st h := k h rfl
theorem mm_iald {q nn : Nat} {i : Int32} (ha : mm_ai Γ q nn) (hin : vp_in i nn) (hd : decode M.2.1 pc = .ok (.iaload, 1)) (hn : pc + 1 = n) (k : mm_WG Γ M E n L (.int (h q i.toNatClampNeg) :: st) h) : mm_WG Γ M E pc L (.int i :: .ref (mm_B Γ + q) :: st) h := by
  subst hn
  intro p e s m args below meth c F X H locs ls hP hS hL
  exact va_iald F.1 F.2.1 F.2.2.2.2.2.2.2.1 hP q 0 (by rw [mm_ws_at ha.1, ha.2]) rfl hin hd (k p e s m args below meth c F X H locs ls hP hS hL)
theorem mm_zald {q nn : Nat} {i : Int32} (ha : mm_az Γ q nn) (hin : vp_in i nn) (hd : decode M.2.1 pc = .ok (.baload, 1)) (hn : pc + 1 = n) (k : mm_WG Γ M E n L (.int (h q i.toNatClampNeg) :: st) h) : mm_WG Γ M E pc L (.int i :: .ref (mm_B Γ + q) :: st) h := by
  subst hn
  intro p e s m args below meth c F X H locs ls hP hS hL
  exact va_zald F.1 F.2.1 F.2.2.2.2.2.2.2.1 hP q 1 (by rw [mm_ws_at ha.1, ha.2]) rfl hin hd (k p e s m args below meth c F X H locs ls hP hS hL)
theorem mm_iast {q nn : Nat} {i x : Int32} (ha : mm_ai Γ q nn) (hin : vp_in i nn) (hd : decode M.2.1 pc = .ok (.iastore, 1)) (hn : pc + 1 = n) (k : mm_WG Γ M E n L st (mm_wr h q i.toNatClampNeg x)) : mm_WG Γ M E pc L (.int x :: .int i :: .ref (mm_B Γ + q) :: st) h := by
  subst hn
  intro p e s m args below meth c F X H locs ls hP hS hL
  refine va_iast F.1 F.2.1 F.2.2.2.2.2.2.2.1 hP mm_DD hS q 0 (by rw [mm_ws_at ha.1, ha.2]) rfl hin hd (fun H1 locs1 hP1 hD1 hS1 => ?_)
  refine k p e s m args below meth c F X H1 locs1 ls ?_ hS1 hL
  rw [← ha.2, mm_ws_set _ ha.1] at hP1
  exact hP1
theorem mm_zast {q nn : Nat} {i x : Int32} (ha : mm_az Γ q nn) (hin : vp_in i nn) (hx : x = 0 ∨ x = 1) (hd : decode M.2.1 pc = .ok (.bastore, 1)) (hn : pc + 1 = n) (k : mm_WG Γ M E n L st (mm_wr h q i.toNatClampNeg x)) : mm_WG Γ M E pc L (.int x :: .int i :: .ref (mm_B Γ + q) :: st) h := by
  subst hn
  have hx' : vp_nar .boolean x = x := by rcases hx with rfl | rfl <;> rfl
  intro p e s m args below meth c F X H locs ls hP hS hL
  refine va_zast F.1 F.2.1 F.2.2.2.2.2.2.2.1 hP mm_DD hS q 1 (by rw [mm_ws_at ha.1, ha.2]) rfl hin hd (fun H1 locs1 hP1 hD1 hS1 => ?_)
  refine k p e s m args below meth c F X H1 locs1 ls ?_ hS1 hL
  rw [hx', ← ha.2, mm_ws_set _ ha.1] at hP1
  exact hP1
theorem mm_alen {q nn : Nat} {v : Int32} (ha : mm_ai Γ q nn) (hv : Int32.ofNat nn = v) (hd : decode M.2.1 pc = .ok (.arraylength, 1)) (hn : pc + 1 = n) (k : mm_WG Γ M E n L (.int v :: st) h) : mm_WG Γ M E pc L (.ref (mm_B Γ + q) :: st) h := by
  subst hn
  intro p e s m args below meth c F X H locs ls hP hS hL
  exact va_alen F.1 F.2.1 F.2.2.2.2.2.2.2.1 hP q 0 (by rw [mm_ws_at ha.1, ha.2]) rfl hv hd (k p e s m args below meth c F X H locs ls hP hS hL)
theorem mm_aald {i : Int32} (hin : vp_in i 6) (hd : decode M.2.1 pc = .ok (.aaload, 1)) (hn : pc + 1 = n) (k : mm_WG Γ M E n L (.ref (mm_B Γ + (28 + 6 * i.toNatClampNeg)) :: st) h) : mm_WG Γ M E pc L (.int i :: .ref (mm_B Γ + 27) :: st) h := by
  subst hn
  intro p e s m args below meth c F X H locs ls hP hS hL
  exact va_aldq F.1 F.2.1 F.2.2.2.2.2.2.2.1 hP 27 2 (f := fun i => some (mm_B Γ + (28 + 6 * i))) (n := 6) (by rw [mm_ws_at (by omega)]; rfl) rfl hin hd (k p e s m args below meth c F X H locs ls hP hS hL)
def mm_isT (t : Nat) : Prop := ∃ i, i < 6 ∧ t = 28 + 6 * i
theorem mm_taald {i : Int32} (hin : vp_in i 6) (hd : decode M.2.1 pc = .ok (.aaload, 1)) (hn : pc + 1 = n) (k : ∀ t : Nat, t = 28 + 6 * i.toNatClampNeg → mm_isT t → mm_WG Γ M E n L (.ref (mm_B Γ + t) :: st) h) : mm_WG Γ M E pc L (.int i :: .ref (mm_B Γ + 27) :: st) h :=
  mm_aald hin hd hn (k _ rfl ⟨i.toNatClampNeg, Nat.not_le.mp (fun q => hin (Or.inr q)), rfl⟩)
def mm_lk (own : String) (idx ci k : Nat) : Prop := ∃ (C : String) (T : u_T) (N : Nat), mm_cl[ci]? = some (C, T, N) ∧ (∀ w ∈ u_ws C T N, w ∈ mm_all) ∧ Cond.fieldLink own idx (T k).1 (T k).2.1 (T k).2.2.1 ∈ mm_all ∧ k < N
theorem mm_get {q ci kf idx : Nat} {Fd : (Nat → Int32) → List Value} {v : Value} (lk : mm_lk M.1.cls idx ci kf) (ho : mm_ob Γ q ci Fd) (hv : (Fd (h q))[kf]? = some v) (hd : decode M.2.1 pc = .ok (.getfield idx, 3)) (hn : pc + 3 = n) (k : mm_WG Γ M E n L (v :: st) h) : mm_WG Γ M E pc L (.ref (mm_B Γ + q) :: st) h := by
  subst hn
  obtain ⟨C, T, N, h1, h2, h3, h4⟩ := lk
  intro p e s m args below meth c F X H locs ls hP hS hL
  exact va_get (D := mm_D Γ) F.1 F.2.1 F.2.2.2.2.2.1 h2 F.2.2.2.2.1 F.2.2.2.2.2.2.2.1 hP q (by rw [mm_ws_at ho.1, ho.2]) h1 kf h4 (F.2.2.2.2.2.1 _ h3) (fun _ h9 => h9) hv hd (k p e s m args below meth c F X H locs ls hP hS hL)
def mm_lp (ci k : Nat) (ty : FieldType) : Prop := ∃ (C : String) (T : u_T) (N : Nat) (ty0 : Nat → FieldType), mm_cl[ci]? = some (C, T, N) ∧ (∀ k, k < N → parseFieldDescriptor (T k).2.2.1 = some (ty0 k)) ∧ (∀ a, a < N → ∀ b, b < N → a ≠ b → (T a).2.1 ≠ (T b).2.1) ∧ (T k).2.2.2 = false ∧ parseFieldDescriptor (T k).2.2.1 = some ty
theorem mm_put {q ci kf idx : Nat} {Fd : (Nat → Int32) → List Value} {x : Int32} {ty : FieldType} (lk : mm_lk M.1.cls idx ci kf) (lp : mm_lp ci kf ty) (ho : mm_ob Γ q ci Fd) (hF : (Fd (h q)).set kf (.int x) = Fd (upd (h q) kf x)) (hl : kf < (Fd (h q)).length) (hna : narrow ty (.int x) = .int x) (hfi : fits ty (.int x) = true) (hd : decode M.2.1 pc = .ok (.putfield idx, 3)) (hn : pc + 3 = n) (k : mm_WG Γ M E n L st (mm_wr h q kf x)) : mm_WG Γ M E pc L (.int x :: .ref (mm_B Γ + q) :: st) h := by
  subst hn
  obtain ⟨C, T, N, h1, h2, h3, h4⟩ := lk
  obtain ⟨C', T', N', ty0, g1, g2, g3, g4, g5⟩ := lp
  cases h1.symm.trans g1
  intro p e s m args below meth c F X H locs ls hP hS hL
  refine va_put (D := mm_D Γ) F.1 F.2.1 F.2.2.2.2.2.1 h2 ty0 g2 g3 F.2.2.2.2.1 F.2.2.2.2.2.2.2.1 hP mm_DD hS q (by rw [mm_ws_at ho.1, ho.2]) h1 kf h4 (F.2.2.2.2.2.1 _ h3) (fun _ h9 => h9) g4 g5 hna hfi hl hd (fun H1 locs1 hP1 hD1 hS1 => ?_)
  refine k p e s m args below meth c F X H1 locs1 ls ?_ hS1 hL
  rw [hF, ← ho.2, mm_ws_set _ ho.1] at hP1
  exact hP1
end MR
end
section
section MC
variable {Γ : mm_Ctx} {M M' : mm_MD} {E : mm_E} {pc n : Nat} {L : List (Option Value)} {st rest As : List Value} {h : mm_Mem} {post : Option Value → mm_Mem → Prop}
theorem mm_blind {av : List Value} : FrameBlind (va_Pc av (fun U => mm_PW Γ h U.heap ∧ mm_KW Γ U)) := fun a U g mk q => by
  obtain ⟨q0, qP, qK⟩ := q
  exact ⟨q0, qP, va_K.moved (u := U) (U := U.calling g mk a) (Vm.Alike.refl U.vm) qK.1, va_Nw.same rfl rfl qK.2⟩
theorem mm_after {p : Program} {e : Env} {R : Room} {s : State} {m : MethodId} {args : Array Value} {below : List Frame} {meth : Method} {c : Code} {H : Heap} {locs : List Loc} {cs sl : Nat} {ls : Array Slot} {st0 : List Value} {a : Array Value} {Q : State → Prop} (hr : va_Run p Γ.1 e R s m args below meth c H locs cs sl 0 0 (F0 m pc ls st0) rest (mm_Q Γ post a) (mm_A Γ)) (hS : va_S (mm_A Γ) s.heap H locs)
    (kk : ∀ (r : Option Value) (h' : mm_Mem) (H1 : Heap) (locs1 : List Loc), post r h' → mm_PW Γ h' H1 → va_S (mm_A Γ) s.heap H1 locs1 → W p Γ.1 e R s m args below meth c H1 locs1 cs sl Q (F0 m (pc + 3) ls (r.toList ++ rest))) : W p Γ.1 e R s m args below meth c H locs cs sl Q (F0 m pc ls st0) := by
  intro T hT X
  obtain ⟨v, st₀, t, T', L1, h0, X', hL, e1, e2, ⟨⟨r, h', hv, hp, hP, hK⟩, hz, hk⟩, stp⟩ := hr T hT X
  cases hv
  rw [h0] at hz hk
  obtain ⟨t2, a1, b1⟩ := kk v h' T'.heap (locs ++ L1) hp (by rw [e1]; exact hP) ⟨Nat.le_trans hS.1 (by rw [e1]; exact hz), fun q h1 h2 => by rw [e1, hk q (Nat.lt_of_lt_of_le h1 hS.1) h2]; exact hS.2.1 q h1 h2, fun q hq => by
      rcases List.mem_append.mp hq with h | h
      · exact hS.2.2 q h
      · exact hL q h⟩ T' rfl X'
  exact ⟨t2, stp t2 a1, b1⟩
def mm_cB (M' : mm_MD) (na : Nat) : Prop := Cond.code M'.1 M'.2.1 M'.2.2.1 M'.2.2.2.1 ∈ mm_all ∧ Cond.initialized M'.1.cls ∈ mm_all ∧ M'.1.cls ≠ "java/lang/invoke/MethodHandle" ∧ M'.1.cls ≠ "java/lang/invoke/VarHandle" ∧ (parseMethodDescriptor M'.1.desc).map (fun d => d.parameters.length) = some na
def mm_cV (M' : mm_MD) (na ci : Nat) : Prop := mm_cB M' na ∧ Cond.instanceMethod M'.1 ∈ mm_all ∧ Cond.selects M'.1.cls M'.1 M'.1 ∈ mm_all ∧ ∃ (T : u_T) (N : Nat), mm_cl[ci]? = some (M'.1.cls, T, N)
def mm_cS (M' : mm_MD) (na : Nat) : Prop := mm_cB M' na ∧ Cond.static M'.1 ∈ mm_all
abbrev mm_hR (M' : mm_MD) (E : mm_E) : Prop := M'.2.2.2.2 + 1 ≤ E.1.frames ∧ 8 + (M'.2.2.1 + 11) + 36 * M'.2.2.2.2 ≤ E.1.locals ∧ E.2.1 ≤ E.1.cells ∧ E.2.2.1 ≤ E.1.slots
theorem mm_hRm (h1 : M'.2.2.2.2 + 1 ≤ M.2.2.2.2) (h2 : M'.2.2.1 ≤ 17) : mm_hR M' (mm_Em Γ M post) := ⟨h1, (by show 8 + (M'.2.2.1 + 11) + 36 * M'.2.2.2.2 ≤ 36 * M.2.2.2.2; omega), Nat.le_refl _, Nat.le_refl _⟩
theorem mm_callV {q ci idx : Nat} {Fd : (Nat → Int32) → List Value} (cv : mm_cV M' As.length ci) (lk : Cond.methodLink M.1.cls idx M'.1 ∈ mm_all) (ho : mm_ob Γ q ci Fd) (hR : mm_hR M' E) (hM : mm_S Γ M' (.ref (mm_B Γ + q) :: As) h post) (hd : decode M.2.1 pc = .ok (.invokevirtual idx, 3)) (hn : pc + 3 = n) (hst : st = As.reverse ++ .ref (mm_B Γ + q) :: rest) (hr : (rest.map fun v => v.category).sum ≤ 8)
    (k : ∀ (r : Option Value) (h' : mm_Mem), post r h' → mm_WG Γ M E n L (r.toList ++ rest) h') : mm_WG Γ M E pc L st h := by
  subst hn
  subst hst
  intro p e s m args below meth c F X H locs ls hP hS hL
  obtain ⟨⟨c1, c2, c3, c4, c5⟩, c6, c7, T, N, c8⟩ := cv
  have hw := F.2.2.2.2.2.1
  have hK := F.2.2.2.2.2.2.2
  refine mm_after (post := post) (va_runV (C := M'.1.cls) (As := As) (rest := rest) (nL := M.2.2.1) (Ts := mm_all) (own := M.1.cls) (b := mm_B Γ + q) ⟨F.1, F.2.1, F.2.2.2.1, F.2.2.2.2.1, hw⟩ hM ⟨callB_of As.length hw (mm_goodIn (fun _ h => h) c1) rfl rfl rfl (hw _ c2) (hw _ lk) ⟨c3, c4, c5⟩ ⟨hR.1, hR.2.1⟩, hw _ c6, hw _ c7⟩ ⟨mm_blind, va_recv hK.1 hP c8 (by rw [mm_ws_at ho.1, ho.2]), fun U hU hW => ⟨rfl, by rw [hU]; exact hP, mm_KW_warm hW hK⟩⟩ rfl rfl hL.1.1 rfl (lv_room hr) hd ⟨hR.2.2.1, hR.2.2.2⟩) hS (fun r h' H1 locs1 hp hP1 hS1 => ?_)
  exact k r h' hp p e s m args below meth c F X H1 locs1 ls hP1 hS1 hL
theorem mm_callS {idx : Nat} (cv : mm_cS M' As.length) (lk : Cond.methodLink M.1.cls idx M'.1 ∈ mm_all) (hR : mm_hR M' E) (hM : mm_S Γ M' As h post) (hd : decode M.2.1 pc = .ok (.invokestatic idx, 3)) (hn : pc + 3 = n) (hst : st = As.reverse ++ rest) (hr : (rest.map fun v => v.category).sum ≤ 8)
    (k : ∀ (r : Option Value) (h' : mm_Mem), post r h' → mm_WG Γ M E n L (r.toList ++ rest) h') : mm_WG Γ M E pc L st h := by
  subst hn
  subst hst
  intro p e s m args below meth c F X H locs ls hP hS hL
  obtain ⟨⟨c1, c2, c3, c4, c5⟩, c6⟩ := cv
  have hw := F.2.2.2.2.2.1
  have hK := F.2.2.2.2.2.2.2
  refine mm_after (post := post) (va_runS (As := As) (rest := rest) (nL := M.2.2.1) (Ts := mm_all) (own := M.1.cls) ⟨F.1, F.2.1, F.2.2.2.1, F.2.2.2.2.1, hw⟩ hM ⟨callB_of As.length hw (mm_goodIn (fun _ h => h) c1) rfl rfl rfl (hw _ c2) (hw _ lk) ⟨c3, c4, c5⟩ ⟨hR.1, hR.2.1⟩, hw _ c6⟩ ⟨mm_blind, fun U hU hW => ⟨rfl, by rw [hU]; exact hP, mm_KW_warm hW hK⟩⟩ rfl rfl hL.1.1 rfl (lv_room hr) hd ⟨hR.2.2.1, hR.2.2.2⟩) hS (fun r h' H1 locs1 hp hP1 hS1 => ?_)
  exact k r h' hp p e s m args below meth c F X H1 locs1 ls hP1 hS1 hL
theorem mm_callSN {idx : Nat} {host : String} (cv : mm_cS M' As.length) (lk : mm_nest = Cond.methodLinkNest M.1.cls idx M'.1 host) (hR : mm_hR M' E) (hM : mm_S Γ M' As h post) (hd : decode M.2.1 pc = .ok (.invokestatic idx, 3)) (hn : pc + 3 = n) (hst : st = As.reverse ++ rest) (hr : (rest.map fun v => v.category).sum ≤ 8)
    (k : ∀ (r : Option Value) (h' : mm_Mem), post r h' → mm_WG Γ M E n L (r.toList ++ rest) h') : mm_WG Γ M E pc L st h := by
  subst hn
  subst hst
  intro p e s m args below meth c F X H locs ls hP hS hL
  obtain ⟨⟨c1, c2, c3, c4, c5⟩, c6⟩ := cv
  have hw := F.2.2.2.2.2.1
  have hK := F.2.2.2.2.2.2.2
  have hB : va_CN E.1 s args M.1.cls idx M'.1 host M'.2.1 M'.2.2.1 M'.2.2.2.1 (mm_wsM M') (mm_rm M') 0 0 As.length := by
    refine ⟨⟨rfl, rfl, hR.1, hR.2.1, pay_in hw (mm_goodIn (fun _ h => h) c1), List.mem_cons_self⟩, hw _ c1, hw _ c2, ⟨c3, c4⟩, fun sig hs => ?_, va_Nw.use rfl (by rw [← lk]; exact hK.2)⟩
    rw [hs] at c5
    exact (Option.some.inj c5).symm
  refine mm_after (post := post) (va_runSN (As := As) (rest := rest) (nL := M.2.2.1) (Ts := mm_all) (own := M.1.cls) ⟨F.1, F.2.1, F.2.2.2.1, F.2.2.2.2.1, hw⟩ hM ⟨hB, hw _ c6, trivial⟩ ⟨mm_blind, fun U hU hW => ⟨rfl, by rw [hU]; exact hP, mm_KW_warm hW hK⟩⟩ rfl rfl hL.1.1 rfl (lv_room hr) hd ⟨hR.2.2.1, hR.2.2.2⟩) hS (fun r h' H1 locs1 hp hP1 hS1 => ?_)
  exact k r h' hp p e s m args below meth c F X H1 locs1 ls hP1 hS1 hL
theorem mm_callVI {q ci idx : Nat} {Fd : (Nat → Int32) → List Value} {pI : Int32 → mm_Mem → Prop} (cv : mm_cV M' As.length ci) (lk : Cond.methodLink M.1.cls idx M'.1 ∈ mm_all) (ho : mm_ob Γ q ci Fd) (hR : mm_hR M' E) (hd : decode M.2.1 pc = .ok (.invokevirtual idx, 3)) (hn : pc + 3 = n) (hst : st = As.reverse ++ .ref (mm_B Γ + q) :: rest) (hr : (rest.map fun v => v.category).sum ≤ 8) (hM : mm_SI Γ M' (.ref (mm_B Γ + q) :: As) h pI)
    (k : ∀ (x : Int32) (h' : mm_Mem), pI x h' → mm_WG Γ M E n L (.int x :: rest) h') : mm_WG Γ M E pc L st h :=
  mm_callV cv lk ho hR hM hd hn hst hr (fun r h' hp => by
    obtain ⟨x, rfl, hp⟩ := hp
    exact k x h' hp)
theorem mm_callVV {q ci idx : Nat} {Fd : (Nat → Int32) → List Value} {pV : mm_Mem → Prop} (cv : mm_cV M' As.length ci) (lk : Cond.methodLink M.1.cls idx M'.1 ∈ mm_all) (ho : mm_ob Γ q ci Fd) (hR : mm_hR M' E) (hd : decode M.2.1 pc = .ok (.invokevirtual idx, 3)) (hn : pc + 3 = n) (hst : st = As.reverse ++ .ref (mm_B Γ + q) :: rest) (hr : (rest.map fun v => v.category).sum ≤ 8) (hM : mm_SV Γ M' (.ref (mm_B Γ + q) :: As) h pV)
    (k : ∀ (h' : mm_Mem), pV h' → mm_WG Γ M E n L rest h') : mm_WG Γ M E pc L st h :=
  mm_callV cv lk ho hR hM hd hn hst hr (fun r h' hp => by
    obtain ⟨rfl, hp⟩ := hp
    exact k h' hp)
theorem mm_callSI {idx : Nat} {pI : Int32 → mm_Mem → Prop} (cv : mm_cS M' As.length) (lk : Cond.methodLink M.1.cls idx M'.1 ∈ mm_all) (hR : mm_hR M' E) (hd : decode M.2.1 pc = .ok (.invokestatic idx, 3)) (hn : pc + 3 = n) (hst : st = As.reverse ++ rest) (hr : (rest.map fun v => v.category).sum ≤ 8) (hM : mm_SI Γ M' As h pI)
    (k : ∀ (x : Int32) (h' : mm_Mem), pI x h' → mm_WG Γ M E n L (.int x :: rest) h') : mm_WG Γ M E pc L st h :=
  mm_callS cv lk hR hM hd hn hst hr (fun r h' hp => by
    obtain ⟨x, rfl, hp⟩ := hp
    exact k x h' hp)
theorem mm_callSV {idx : Nat} {pV : mm_Mem → Prop} (cv : mm_cS M' As.length) (lk : Cond.methodLink M.1.cls idx M'.1 ∈ mm_all) (hR : mm_hR M' E) (hd : decode M.2.1 pc = .ok (.invokestatic idx, 3)) (hn : pc + 3 = n) (hst : st = As.reverse ++ rest) (hr : (rest.map fun v => v.category).sum ≤ 8) (hM : mm_SV Γ M' As h pV)
    (k : ∀ (h' : mm_Mem), pV h' → mm_WG Γ M E n L rest h') : mm_WG Γ M E pc L st h :=
  mm_callS cv lk hR hM hd hn hst hr (fun r h' hp => by
    obtain ⟨rfl, hp⟩ := hp
    exact k h' hp)
theorem mm_callSNI {idx : Nat} {host : String} {pI : Int32 → mm_Mem → Prop} (cv : mm_cS M' As.length) (lk : mm_nest = Cond.methodLinkNest M.1.cls idx M'.1 host) (hR : mm_hR M' E) (hd : decode M.2.1 pc = .ok (.invokestatic idx, 3)) (hn : pc + 3 = n) (hst : st = As.reverse ++ rest) (hr : (rest.map fun v => v.category).sum ≤ 8) (hM : mm_SI Γ M' As h pI)
    (k : ∀ (x : Int32) (h' : mm_Mem), pI x h' → mm_WG Γ M E n L (.int x :: rest) h') : mm_WG Γ M E pc L st h :=
  mm_callSN cv lk hR hM hd hn hst hr (fun r h' hp => by
    obtain ⟨x, rfl, hp⟩ := hp
    exact k x h' hp)
/-! Math.max, System.arraycopy -/
def mm_cX (own : String) (idx : Nat) : Prop := Cond.methodLink own idx Lib.Math.max.name ∈ mm_all ∧ Cond.static Lib.Math.max.name ∈ mm_all ∧ Cond.initialized "java/lang/Math" ∈ mm_all ∧ Cond.code Lib.Math.max.name Lib.Math.max.code 2 (some .int) ∈ mm_all
theorem mm_max {idx : Nat} {x y : Int32} (cv : mm_cX M.1.cls idx) (hR : 1 ≤ E.1.frames ∧ (rest.map fun v => v.category).sum + 13 ≤ E.1.locals ∧ E.2.1 ≤ E.1.cells ∧ E.2.2.1 ≤ E.1.slots) (hd : decode M.2.1 pc = .ok (.invokestatic idx, 3)) (hn : pc + 3 = n) (k : mm_WG Γ M E n L (.int (if x < y then y else x) :: rest) h) : mm_WG Γ M E pc L (.int y :: .int x :: rest) h := by
  subst hn
  intro p e s m args below meth c F X H locs ls hP hS hL
  have hw := F.2.2.2.2.2.1
  exact va_mmax F.1 F.2.1 (by rw [F.2.2.2.1]; exact hL.1.1.symm) F.2.2.2.2.1 (hw _ cv.1) (hw _ cv.2.1) (hw _ cv.2.2.1) (hw _ cv.2.2.2) hR.1 hR.2.1 hR.2.2.1 hR.2.2.2 hd (k p e s m args below meth c F X H locs ls hP hS hL)
def mm_cC (own : String) (idx : Nat) : Prop := Cond.methodLink own idx arraycopyName ∈ mm_all ∧ Cond.native arraycopyName ∈ mm_all ∧ Cond.static arraycopyName ∈ mm_all ∧ Cond.initialized "java/lang/System" ∈ mm_all
theorem mm_copy {idx q0 q1 nn : Nat} {z : Int32} (cv : mm_cC M.1.cls idx) (ha0 : mm_ai Γ q0 nn) (ha1 : mm_ai Γ q1 nn) (hz0 : ¬ z < 0) (hz : z.toNatClampNeg = nn) (hR : 1 ≤ E.1.frames ∧ (rest.map fun v => v.category).sum + (nativeFrameWords "java/lang/System" "arraycopy" 5 + 11) ≤ E.1.locals) (hd : decode M.2.1 pc = .ok (.invokestatic idx, 3)) (hn : pc + 3 = n) (k : mm_WG Γ M E n L rest (mm_cp h q0 q1 nn)) : mm_WG Γ M E pc L (.int z :: .int 0 :: .ref (mm_B Γ + q1) :: .int 0 :: .ref (mm_B Γ + q0) :: rest) h := by
  subst hn
  intro p e s m args below meth c F X H locs ls hP hS hL
  have hw := F.2.2.2.2.2.1
  have e0 : (0 : Int32).toNatClampNeg = 0 := by decide
  refine va_copyi F.1 F.2.1 (by rw [F.2.2.2.1]; exact hL.1.1.symm) F.2.2.2.2.1 (hw _ cv.1) (hw _ cv.2.1) (hw _ cv.2.2.1) (hw _ cv.2.2.2) F.2.2.2.2.2.2.2.1 hP mm_DD hS q0 q1 0 0 (by rw [mm_ws_at ha0.1, ha0.2]) (by rw [mm_ws_at ha1.1, ha1.2]) rfl rfl rfl (by decide) (by decide) hz0 (by rw [e0, hz]; omega) (by rw [e0, hz]; omega) (fun _ _ => rfl) hR.1 hR.2 hd (fun H1 locs1 hP1 hD1 hS1 => ?_)
  refine k p e s m args below meth c F X H1 locs1 ls ?_ hS1 hL
  rw [e0, hz, ← ha1.2, mm_ws_set _ ha1.1] at hP1
  exact hP1
end MC
section ME
variable {Γ : mm_Ctx} {M : mm_MD} {pc : Nat} {L : List (Option Value)} {h : mm_Mem} {post : Option Value → mm_Mem → Prop}
theorem mm_iret {x : Int32} (hr : M.2.2.2.1 = some .int) (hd : decode M.2.1 pc = .ok (.ireturn, 1)) (hp : post (some (.int x)) h) : mm_W Γ M post pc L [.int x] h := by
  intro p e s m args below meth c F X H locs ls hP hS hL
  exact W.iret F.1 F.2.1 (F.2.2.1.trans hr) (fun t ht hW => ⟨⟨_, h, rfl, hp, by rw [ht]; exact hP, mm_KW_warm hW F.2.2.2.2.2.2.2⟩, hS.F ht⟩) hS.2.2 hd F.2.2.2.2.2.2.1
theorem mm_zret {x : Int32} (hr : M.2.2.2.1 = some .boolean) (hx : x = 0 ∨ x = 1) (hd : decode M.2.1 pc = .ok (.ireturn, 1)) (hp : post (some (.int x)) h) : mm_W Γ M post pc L [.int x] h := by
  intro p e s m args below meth c F X H locs ls hP hS hL
  exact W.zret F.1 F.2.1 (F.2.2.1.trans hr) (by rcases hx with rfl | rfl <;> rfl) (fun t ht hW => ⟨⟨_, h, rfl, hp, by rw [ht]; exact hP, mm_KW_warm hW F.2.2.2.2.2.2.2⟩, hS.F ht⟩) hS.2.2 hd F.2.2.2.2.2.2.1
theorem mm_vret (hr : M.2.2.2.1 = none) (hd : decode M.2.1 pc = .ok (.return_, 1)) (hp : post none h) : mm_W Γ M post pc L [] h := by
  intro p e s m args below meth c F X H locs ls hP hS hL
  exact W.vret F.1 F.2.1 (F.2.2.1.trans hr) (fun t ht hW => ⟨⟨_, h, rfl, hp, by rw [ht]; exact hP, mm_KW_warm hW F.2.2.2.2.2.2.2⟩, hS.F ht⟩) hS.2.2 hd F.2.2.2.2.2.2.1
theorem mm_args : ∀ (vs : List Value) (i j : Nat) (v : Value), (∀ u ∈ vs, u.category = 1) → vs[i]? = some v → (j + i, v) ∈ lv_args j vs
  | [], i, j, v, _, h => by simp at h
  | w :: vs, i, j, v, hc, h => by
    have hw : w.category = 1 := hc w List.mem_cons_self
    rw [lv_args, if_neg (by omega)]
    cases i with
    | zero =>
      simp at h
      rw [h]
      exact List.mem_cons_self
    | succ i =>
      have := mm_args vs i (j + 1) v (fun u hu => hc u (List.mem_cons_of_mem _ hu)) (by simpa using h)
      rw [show j + (i + 1) = j + 1 + i by omega]
      exact List.mem_cons_of_mem _ this
theorem mm_spec {av : List Value} (hy : plainName M.1.cls = true) (hc : ∀ u ∈ av, u.category = 1) (hl : (lg_sl av).length ≤ M.2.2.1) (hL : ∀ (i : Nat) (v : Value), L[i]? = some (some v) → av[i]? = some v) (k : mm_W Γ M post 0 L [] h) : mm_S Γ M av h post := by
  refine Met.ofW (cc := M.2.1) (maxL := M.2.2.1) (ret := M.2.2.2.1) hy rfl ?_
  intro p e s m args' below meth c s₁ B hml hv
  obtain ⟨rfl, hP, hK⟩ := hv
  have hts := atoms_spec (ws := mm_wsM M) B.pre
  rw [lg_entry_eq]
  refine k p e s m _ below meth c ⟨B.exec, B.bytes, B.returns, hml, findClass_of_methodNamed B.named, fun w hw => hts w (List.mem_cons_of_mem _ hw), B.notSynchronized, hK⟩ trivial s.heap [] _ hP va_S.rf ?_
  have h0 := lv_entry av (n := M.2.2.1) hl
  refine ⟨⟨h0.1, h0.2.1, fun q hq => h0.2.2 q ?_⟩, fun i v hi => hc v (List.mem_of_getElem? (hL i v hi))⟩
  obtain ⟨j, w⟩ := q
  obtain ⟨t, e1, e2⟩ := (mm_kn_mem _ 0 j w).mp hq
  have e3 : j = 0 + t := e1
  rw [e3]
  exact mm_args av t 0 w hc (hL t w e2)
theorem mm_spec0 {av : List Value} (j : Nat) (hy : plainName M.1.cls = true) (hc : av.all (fun u => u.category == 1) = true) (hl : (lg_sl av).length ≤ M.2.2.1) (k : mm_W Γ M post 0 (av.map some ++ List.replicate j none) [] h) : mm_S Γ M av h post := by
  refine mm_spec hy (fun u hu => by simpa using List.all_eq_true.mp hc u hu) hl (fun i v hi => ?_) k
  by_cases hl2 : i < av.length
  · rw [List.getElem?_append_left (by simpa using hl2), List.getElem?_map] at hi
    cases ha : av[i]? with
    | none => rw [ha] at hi; cases hi
    | some w => rw [ha] at hi; cases hi; rfl
  · rw [List.getElem?_append_right (by simpa using hl2)] at hi
    have := List.eq_of_mem_replicate (List.mem_of_getElem? hi)
    cases this
end ME
end
section
abbrev smM_S_init : mm_MD := (smy_S_init, prog_1_method_1_code, 2, none, 2)
abbrev smM_S_word : mm_MD := (smy_S_word, prog_1_method_2_code, 7, (some .int), 2)
abbrev smM_S_cut : mm_MD := (smy_S_cut, prog_1_method_3_code, 3, (some .boolean), 1)
abbrev smM_S_fields : mm_MD := (smy_S_fields, prog_1_method_4_code, 3, (some .boolean), 2)
abbrev smM_S_rule : mm_MD := (smy_S_rule, prog_1_method_5_code, 6, (some .int), 1)
abbrev smM_S_reset : mm_MD := (smy_S_reset, prog_1_method_6_code, 1, (some .boolean), 3)
abbrev smM_S_stage : mm_MD := (smy_S_stage, prog_1_method_7_code, 3, (some .int), 4)
abbrev smM_S_withdraw : mm_MD := (smy_S_withdraw, prog_1_method_8_code, 2, (some .boolean), 0)
abbrev smM_S_changed : mm_MD := (smy_S_changed, prog_1_method_9_code, 2, (some .boolean), 3)
abbrev smM_S_blocker : mm_MD := (smy_S_blocker, prog_1_method_10_code, 2, (some .int), 5)
abbrev smM_S_attempt : mm_MD := (smy_S_attempt, prog_1_method_11_code, 2, (some .int), 5)
abbrev smM_S_version : mm_MD := (smy_S_version, prog_1_method_12_code, 1, (some .int), 0)
abbrev smM_S_spawn : mm_MD := (smy_S_spawn, prog_1_method_13_code, 3, (some .int), 2)
abbrev smM_S_step : mm_MD := (smy_S_step, prog_1_method_14_code, 5, (some .int), 6)
abbrev smM_S_send : mm_MD := (smy_S_send, prog_1_method_15_code, 4, (some .int), 1)
abbrev smM_S_state : mm_MD := (smy_S_state, prog_1_method_16_code, 2, (some .int), 1)
abbrev smM_S_result : mm_MD := (smy_S_result, prog_1_method_17_code, 2, (some .int), 1)
abbrev smM_S_frames : mm_MD := (smy_S_frames, prog_1_method_18_code, 2, (some .int), 1)
abbrev smM_S_frame : mm_MD := (smy_S_frame, prog_1_method_19_code, 5, (some .int), 1)
abbrev smM_S_global : mm_MD := (smy_S_global, prog_1_method_20_code, 2, (some .int), 1)
abbrev smM_S_typeOf : mm_MD := (smy_S_typeOf, prog_1_method_21_code, 2, (some .int), 1)
abbrev smM_S_field : mm_MD := (smy_S_field, prog_1_method_22_code, 3, (some .int), 1)
abbrev smM_S_heap : mm_MD := (smy_S_heap, prog_1_method_23_code, 1, (some .int), 2)
abbrev smM_S_collect : mm_MD := (smy_S_collect, prog_1_method_24_code, 1, (some .int), 4)
abbrev smM_S_isWithin : mm_MD := (smy_S_isWithin, prog_1_method_25_code, 2, (some .boolean), 0)
abbrev smM_S_isTask : mm_MD := (smy_S_isTask, prog_1_method_26_code, 2, (some .boolean), 0)
abbrev smM_S_draftChanges : mm_MD := (smy_S_draftChanges, prog_1_method_27_code, 2, (some .boolean), 2)
abbrev smM_S_firstTaskInTheWay : mm_MD := (smy_S_firstTaskInTheWay, prog_1_method_28_code, 3, (some .int), 4)
abbrev smM_S_isInTheWay : mm_MD := (smy_S_isInTheWay, prog_1_method_29_code, 4, (some .boolean), 3)
abbrev smM_S_placeInDraft : mm_MD := (smy_S_placeInDraft, prog_1_method_30_code, 4, (some .int), 2)
abbrev smM_S_takeThePlace : mm_MD := (smy_S_takeThePlace, prog_1_method_31_code, 1, none, 4)
abbrev smM_S_moveFrames : mm_MD := (smy_S_moveFrames, prog_1_method_32_code, 3, none, 3)
abbrev smM_S_dropUnreachable : mm_MD := (smy_S_dropUnreachable, prog_1_method_33_code, 4, (some .int), 3)
abbrev smM_S_perform : mm_MD := (smy_S_perform, prog_1_method_34_code, 7, none, 5)
abbrev smM_S_call : mm_MD := (smy_S_call, prog_1_method_35_code, 4, none, 2)
abbrev smM_S_makeObject : mm_MD := (smy_S_makeObject, prog_1_method_36_code, 5, none, 4)
abbrev smM_S_get : mm_MD := (smy_S_get, prog_1_method_37_code, 6, none, 2)
abbrev smM_S_put : mm_MD := (smy_S_put, prog_1_method_38_code, 6, none, 2)
abbrev smM_M_init : mm_MD := (smy_M_init, prog_7_method_1_code, 2, none, 1)
abbrev smM_M_isProcedure : mm_MD := (smy_M_isProcedure, prog_7_method_2_code, 1, (some .boolean), 0)
abbrev smM_M_isType : mm_MD := (smy_M_isType, prog_7_method_3_code, 1, (some .boolean), 0)
abbrev smM_M_isLocal : mm_MD := (smy_M_isLocal, prog_7_method_4_code, 1, (some .boolean), 0)
abbrev smM_M_word : mm_MD := (smy_M_word, prog_7_method_5_code, 8, (some .int), 1)
abbrev smM_M_cut : mm_MD := (smy_M_cut, prog_7_method_6_code, 3, (some .boolean), 1)
abbrev smM_M_clearRules : mm_MD := (smy_M_clearRules, prog_7_method_7_code, 3, none, 0)
abbrev smM_M_fields : mm_MD := (smy_M_fields, prog_7_method_8_code, 3, (some .boolean), 1)
abbrev smM_M_rule : mm_MD := (smy_M_rule, prog_7_method_9_code, 6, (some .int), 1)
abbrev smM_M_settle : mm_MD := (smy_M_settle, prog_7_method_10_code, 2, none, 1)
abbrev smM_M_reset : mm_MD := (smy_M_reset, prog_7_method_11_code, 2, (some .boolean), 2)
abbrev smM_M_isField : mm_MD := (smy_M_isField, prog_7_method_12_code, 2, (some .boolean), 0)
abbrev smM_M_isRight : mm_MD := (smy_M_isRight, prog_7_method_13_code, 8, (some .boolean), 1)
abbrev smM_M_stage : mm_MD := (smy_M_stage, prog_7_method_14_code, 4, (some .int), 2)
abbrev smM_M_withdraw : mm_MD := (smy_M_withdraw, prog_7_method_15_code, 2, (some .boolean), 0)
abbrev smM_M_isOther : mm_MD := (smy_M_isOther, prog_7_method_16_code, 4, (some .boolean), 0)
abbrev smM_M_usesTouched : mm_MD := (smy_M_usesTouched, prog_7_method_17_code, 6, (some .boolean), 0)
abbrev smM_M_isChanged : mm_MD := (smy_M_isChanged, prog_7_method_18_code, 2, (some .boolean), 1)
abbrev smM_M_changed : mm_MD := (smy_M_changed, prog_7_method_19_code, 2, (some .boolean), 2)
abbrev smM_M_pointOf : mm_MD := (smy_M_pointOf, prog_7_method_20_code, 6, (some .int), 0)
abbrev smM_M_frameAt : mm_MD := (smy_M_frameAt, prog_7_method_21_code, 2, (some .int), 0)
abbrev smM_M_isInTheWay : mm_MD := (smy_M_isInTheWay, prog_7_method_22_code, 5, (some .boolean), 2)
abbrev smM_M_blocker : mm_MD := (smy_M_blocker, prog_7_method_23_code, 4, (some .int), 3)
abbrev smM_M_isObject : mm_MD := (smy_M_isObject, prog_7_method_24_code, 2, (some .boolean), 0)
abbrev smM_M_mark : mm_MD := (smy_M_mark, prog_7_method_25_code, 2, none, 1)
abbrev smM_M_countMarked : mm_MD := (smy_M_countMarked, prog_7_method_26_code, 3, (some .int), 0)
abbrev smM_M_sweep : mm_MD := (smy_M_sweep, prog_7_method_27_code, 4, (some .int), 2)
abbrev smM_M_collect : mm_MD := (smy_M_collect, prog_7_method_28_code, 1, (some .int), 3)
abbrev smM_M_free : mm_MD := (smy_M_free, prog_7_method_29_code, 2, (some .int), 0)
abbrev smM_M_make : mm_MD := (smy_M_make, prog_7_method_30_code, 4, (some .int), 3)
abbrev smM_M_typeOf : mm_MD := (smy_M_typeOf, prog_7_method_31_code, 2, (some .int), 1)
abbrev smM_M_field : mm_MD := (smy_M_field, prog_7_method_32_code, 3, (some .int), 1)
abbrev smM_M_heap : mm_MD := (smy_M_heap, prog_7_method_33_code, 3, (some .int), 0)
abbrev smM_M_isMadeOver : mm_MD := (smy_M_isMadeOver, prog_7_method_34_code, 7, (some .boolean), 0)
abbrev smM_M_areMadeOver : mm_MD := (smy_M_areMadeOver, prog_7_method_35_code, 5, (some .boolean), 1)
abbrev smM_M_moveFrames : mm_MD := (smy_M_moveFrames, prog_7_method_36_code, 5, none, 2)
abbrev smM_M_attempt : mm_MD := (smy_M_attempt, prog_7_method_37_code, 3, (some .int), 4)
abbrev smM_M_version : mm_MD := (smy_M_version, prog_7_method_38_code, 1, (some .int), 0)
abbrev smM_M_isTask : mm_MD := (smy_M_isTask, prog_7_method_39_code, 2, (some .boolean), 0)
abbrev smM_M_push : mm_MD := (smy_M_push, prog_7_method_40_code, 6, none, 1)
abbrev smM_M_spawn : mm_MD := (smy_M_spawn, prog_7_method_41_code, 3, (some .int), 2)
abbrev smM_M_fault : mm_MD := (smy_M_fault, prog_7_method_42_code, 2, (some .int), 0)
abbrev smM_M_giveBack : mm_MD := (smy_M_giveBack, prog_7_method_43_code, 4, (some .int), 1)
abbrev smM_M_take : mm_MD := (smy_M_take, prog_7_method_44_code, 4, (some .int), 0)
abbrev smM_M_act : mm_MD := (smy_M_act, prog_7_method_45_code, 9, (some .int), 5)
abbrev smM_M_create : mm_MD := (smy_M_create, prog_7_method_46_code, 5, (some .int), 4)
abbrev smM_M_access : mm_MD := (smy_M_access, prog_7_method_47_code, 8, (some .int), 1)
abbrev smM_M_step : mm_MD := (smy_M_step, prog_7_method_48_code, 5, (some .int), 6)
abbrev smM_M_send : mm_MD := (smy_M_send, prog_7_method_49_code, 3, (some .int), 1)
abbrev smM_M_state : mm_MD := (smy_M_state, prog_7_method_50_code, 2, (some .int), 1)
abbrev smM_M_result : mm_MD := (smy_M_result, prog_7_method_51_code, 2, (some .int), 1)
abbrev smM_M_frames : mm_MD := (smy_M_frames, prog_7_method_52_code, 2, (some .int), 1)
abbrev smM_M_frame : mm_MD := (smy_M_frame, prog_7_method_53_code, 4, (some .int), 1)
abbrev smM_M_global : mm_MD := (smy_M_global, prog_7_method_54_code, 2, (some .int), 0)
abbrev smM_H_init : mm_MD := (smy_H_init, prog_2_method_1_code, 2, none, 1)
abbrev smM_H_has : mm_MD := (smy_H_has, prog_2_method_2_code, 2, (some .boolean), 0)
abbrev smM_H_count : mm_MD := (smy_H_count, prog_2_method_3_code, 3, (some .int), 1)
abbrev smM_H_leastFree : mm_MD := (smy_H_leastFree, prog_2_method_4_code, 2, (some .int), 1)
abbrev smM_H_begin : mm_MD := (smy_H_begin, prog_2_method_5_code, 4, none, 0)
abbrev smM_H_cellOf : mm_MD := (smy_H_cellOf, prog_2_method_6_code, 3, (some .int), 1)
abbrev smM_H_unmarkAll : mm_MD := (smy_H_unmarkAll, prog_2_method_7_code, 2, none, 0)
abbrev smM_H_mark : mm_MD := (smy_H_mark, prog_2_method_8_code, 2, none, 1)
abbrev smM_H_markFromMarked : mm_MD := (smy_H_markFromMarked, prog_2_method_9_code, 3, none, 2)
abbrev smM_H_dropUnmarked : mm_MD := (smy_H_dropUnmarked, prog_2_method_10_code, 3, (some .int), 1)
abbrev smM_H_makeOver : mm_MD := (smy_H_makeOver, prog_2_method_11_code, 7, (some .boolean), 2)
abbrev smM_H_makeOverOne : mm_MD := (smy_H_makeOverOne, prog_2_method_12_code, 6, (some .boolean), 1)
abbrev smM_R_init : mm_MD := (smy_R_init, prog_3_method_1_code, 1, none, 1)
abbrev smM_R_write : mm_MD := (smy_R_write, prog_3_method_2_code, 7, none, 0)
abbrev smM_R_forgetType : mm_MD := (smy_R_forgetType, prog_3_method_3_code, 3, none, 1)
abbrev smM_R_forgetAll : mm_MD := (smy_R_forgetAll, prog_3_method_4_code, 2, none, 2)
abbrev smM_R_firstWithoutSource : mm_MD := (smy_R_firstWithoutSource, prog_3_method_5_code, 6, (some .int), 0)
abbrev smM_R_isFaulty : mm_MD := (smy_R_isFaulty, prog_3_method_6_code, 4, (some .boolean), 0)
abbrev smM_R_valueOf : mm_MD := (smy_R_valueOf, prog_3_method_7_code, 5, (some .int), 0)
abbrev smM_T_init : mm_MD := (smy_T_init, prog_4_method_1_code, 1, none, 1)
abbrev smM_T_local : mm_MD := (smy_T_local, prog_4_method_2_code, 2, (some .int), 0)
abbrev smM_T_setLocal : mm_MD := (smy_T_setLocal, prog_4_method_3_code, 3, none, 0)
abbrev smM_T_push : mm_MD := (smy_T_push, prog_4_method_4_code, 5, none, 1)
abbrev smM_T_giveBack : mm_MD := (smy_T_giveBack, prog_4_method_5_code, 2, none, 1)
abbrev smM_T_fail : mm_MD := (smy_T_fail, prog_4_method_6_code, 1, none, 0)
abbrev smM_T_enqueue : mm_MD := (smy_T_enqueue, prog_4_method_7_code, 2, none, 0)
abbrev smM_T_takeOldest : mm_MD := (smy_T_takeOldest, prog_4_method_8_code, 3, (some .int), 0)
abbrev smM_V_init : mm_MD := (smy_V_init, prog_5_method_1_code, 1, none, 1)
abbrev smM_V_at : mm_MD := (smy_V_at, prog_5_method_2_code, 2, (some .int), 0)
abbrev smM_V_hasProcedure : mm_MD := (smy_V_hasProcedure, prog_5_method_3_code, 2, (some .boolean), 1)
abbrev smM_V_write : mm_MD := (smy_V_write, prog_5_method_4_code, 8, none, 1)
abbrev smM_V_copyFrom : mm_MD := (smy_V_copyFrom, prog_5_method_5_code, 2, none, 1)
abbrev smM_V_hasSameProcedure : mm_MD := (smy_V_hasSameProcedure, prog_5_method_6_code, 4, (some .boolean), 1)
abbrev smM_V_usesTouchedType : mm_MD := (smy_V_usesTouchedType, prog_5_method_7_code, 5, (some .boolean), 1)
abbrev smM_V_typeUsed : mm_MD := (smy_V_typeUsed, prog_5_method_8_code, 2, (some .int), 0)
abbrev smM_V_firstPoint : mm_MD := (smy_V_firstPoint, prog_5_method_9_code, 4, (some .int), 1)
abbrev smM_V_firstWrongWord : mm_MD := (smy_V_firstWrongWord, prog_5_method_10_code, 5, (some .int), 3)
abbrev smM_V_isRight : mm_MD := (smy_V_isRight, prog_5_method_11_code, 3, (some .boolean), 2)
abbrev smM_V_isLocal : mm_MD := (smy_V_isLocal, prog_5_method_12_code, 1, (some .boolean), 1)
abbrev smM_V_isFieldOfType : mm_MD := (smy_V_isFieldOfType, prog_5_method_13_code, 2, (some .boolean), 1)
theorem mm_subs (ws : List Cond) (ps : List Nat) (hp : ws = ps.filterMap (fun i => lw_tbl[i]?)) (h : ws.all goodWord = true) : ∀ w ∈ ws, w ∈ mm_all := by
  intro w hw
  have h1 := List.all_eq_true.mp h w hw
  rw [hp] at hw
  obtain ⟨i, -, hi⟩ := List.mem_filterMap.mp hw
  exact mm_mem i hi h1
theorem smU_H : ∀ w ∈ u_ws smR_H smF_H 6, w ∈ mm_all := mm_subs _ [129, 131, 133, 135, 137, 139] (by decide +kernel) (by decide +kernel)
theorem smU_R : ∀ w ∈ u_ws smR_R smF_R 4, w ∈ mm_all := mm_subs _ [105, 107, 109, 111] (by decide +kernel) (by decide +kernel)
theorem smU_T : ∀ w ∈ u_ws smR_T smF_T 9, w ∈ mm_all := mm_subs _ [165, 167, 169, 171, 173, 175, 177, 179, 181] (by decide +kernel) (by decide +kernel)
theorem smU_V : ∀ w ∈ u_ws smR_V smF_V 6, w ∈ mm_all := mm_subs _ [79, 81, 83, 85, 87, 89] (by decide +kernel) (by decide +kernel)
theorem smU_S : ∀ w ∈ u_ws smR_S smF_S 9, w ∈ mm_all := mm_subs _ [193, 195, 197, 199, 201, 203, 205, 207, 209] (by decide +kernel) (by decide +kernel)
theorem smU_M : ∀ w ∈ u_ws smR_M smF_M 19, w ∈ mm_all := mm_subs _ [541, 543, 545, 547, 549, 551, 553, 555, 557, 559, 561, 563, 565, 567, 569, 571, 573, 575, 577] (by decide +kernel) (by decide +kernel)
theorem smw_184 : (Cond.fieldLink "SwitchedModules" 10 "SwitchedModules" "present" "LSwitchedModules$Version;") ∈ mm_all := mm_mem 184 (by decide +kernel) (by decide +kernel)
theorem smk_S_10 : mm_lk "SwitchedModules" 10 4 0 := ⟨smR_S, smF_S, 9, rfl, smU_S, smw_184, by decide⟩
theorem smw_185 : (Cond.fieldLink "SwitchedModules" 16 "SwitchedModules" "draft" "LSwitchedModules$Version;") ∈ mm_all := mm_mem 185 (by decide +kernel) (by decide +kernel)
theorem smk_S_16 : mm_lk "SwitchedModules" 16 4 1 := ⟨smR_S, smF_S, 9, rfl, smU_S, smw_185, by decide⟩
theorem smw_186 : (Cond.fieldLink "SwitchedModules" 22 "SwitchedModules" "rules" "LSwitchedModules$Rules;") ∈ mm_all := mm_mem 186 (by decide +kernel) (by decide +kernel)
theorem smk_S_22 : mm_lk "SwitchedModules" 22 4 2 := ⟨smR_S, smF_S, 9, rfl, smU_S, smw_186, by decide⟩
theorem smw_187 : (Cond.fieldLink "SwitchedModules" 29 "SwitchedModules" "objects" "LSwitchedModules$Heap;") ∈ mm_all := mm_mem 187 (by decide +kernel) (by decide +kernel)
theorem smk_S_29 : mm_lk "SwitchedModules" 29 4 3 := ⟨smR_S, smF_S, 9, rfl, smU_S, smw_187, by decide⟩
theorem smw_188 : (Cond.fieldLink "SwitchedModules" 33 "SwitchedModules" "globals" "[I") ∈ mm_all := mm_mem 188 (by decide +kernel) (by decide +kernel)
theorem smk_S_33 : mm_lk "SwitchedModules" 33 4 4 := ⟨smR_S, smF_S, 9, rfl, smU_S, smw_188, by decide⟩
theorem smw_189 : (Cond.fieldLink "SwitchedModules" 39 "SwitchedModules" "tasks" "[LSwitchedModules$Task;") ∈ mm_all := mm_mem 189 (by decide +kernel) (by decide +kernel)
theorem smk_S_39 : mm_lk "SwitchedModules" 39 4 5 := ⟨smR_S, smF_S, 9, rfl, smU_S, smw_189, by decide⟩
theorem smw_66 : (Cond.fieldLink "SwitchedModules" 48 "SwitchedModules$Version" "length" "[I") ∈ mm_all := mm_mem 66 (by decide +kernel) (by decide +kernel)
theorem smk_S_48 : mm_lk "SwitchedModules" 48 3 0 := ⟨smR_V, smF_V, 6, rfl, smU_V, smw_66, by decide⟩
theorem smw_192 : (Cond.fieldLink "SwitchedModules" 51 "SwitchedModules" "staged" "Z") ∈ mm_all := mm_mem 192 (by decide +kernel) (by decide +kernel)
theorem smk_S_51 : mm_lk "SwitchedModules" 51 4 8 := ⟨smR_S, smF_S, 9, rfl, smU_S, smw_192, by decide⟩
theorem smw_76 : (Cond.fieldLink "SwitchedModules" 59 "SwitchedModules$Version" "fieldCount" "[I") ∈ mm_all := mm_mem 76 (by decide +kernel) (by decide +kernel)
theorem smk_S_59 : mm_lk "SwitchedModules" 59 3 5 := ⟨smR_V, smF_V, 6, rfl, smU_V, smw_76, by decide⟩
theorem smw_100 : (Cond.fieldLink "SwitchedModules" 66 "SwitchedModules$Rules" "touched" "[Z") ∈ mm_all := mm_mem 100 (by decide +kernel) (by decide +kernel)
theorem smk_S_66 : mm_lk "SwitchedModules" 66 1 0 := ⟨smR_R, smF_R, 4, rfl, smU_R, smw_100, by decide⟩
theorem smw_191 : (Cond.fieldLink "SwitchedModules" 106 "SwitchedModules" "number" "I") ∈ mm_all := mm_mem 191 (by decide +kernel) (by decide +kernel)
theorem smk_S_106 : mm_lk "SwitchedModules" 106 4 7 := ⟨smR_S, smF_S, 9, rfl, smU_S, smw_191, by decide⟩
theorem smw_190 : (Cond.fieldLink "SwitchedModules" 113 "SwitchedModules" "begun" "I") ∈ mm_all := mm_mem 190 (by decide +kernel) (by decide +kernel)
theorem smk_S_113 : mm_lk "SwitchedModules" 113 4 6 := ⟨smR_S, smF_S, 9, rfl, smU_S, smw_190, by decide⟩
theorem smw_162 : (Cond.fieldLink "SwitchedModules" 123 "SwitchedModules$Task" "condition" "I") ∈ mm_all := mm_mem 162 (by decide +kernel) (by decide +kernel)
theorem smk_S_123 : mm_lk "SwitchedModules" 123 2 7 := ⟨smR_T, smF_T, 9, rfl, smU_T, smw_162, by decide⟩
theorem smw_160 : (Cond.fieldLink "SwitchedModules" 130 "SwitchedModules$Task" "queued" "I") ∈ mm_all := mm_mem 160 (by decide +kernel) (by decide +kernel)
theorem smk_S_130 : mm_lk "SwitchedModules" 130 2 6 := ⟨smR_T, smF_T, 9, rfl, smU_T, smw_160, by decide⟩
theorem smw_164 : (Cond.fieldLink "SwitchedModules" 136 "SwitchedModules$Task" "outcome" "I") ∈ mm_all := mm_mem 164 (by decide +kernel) (by decide +kernel)
theorem smk_S_136 : mm_lk "SwitchedModules" 136 2 8 := ⟨smR_T, smF_T, 9, rfl, smU_T, smw_164, by decide⟩
theorem smw_158 : (Cond.fieldLink "SwitchedModules" 139 "SwitchedModules$Task" "depth" "I") ∈ mm_all := mm_mem 158 (by decide +kernel) (by decide +kernel)
theorem smk_S_139 : mm_lk "SwitchedModules" 139 2 5 := ⟨smR_T, smF_T, 9, rfl, smU_T, smw_158, by decide⟩
theorem smw_150 : (Cond.fieldLink "SwitchedModules" 142 "SwitchedModules$Task" "procedure" "[I") ∈ mm_all := mm_mem 150 (by decide +kernel) (by decide +kernel)
theorem smk_S_142 : mm_lk "SwitchedModules" 142 2 0 := ⟨smR_T, smF_T, 9, rfl, smU_T, smw_150, by decide⟩
theorem smw_152 : (Cond.fieldLink "SwitchedModules" 145 "SwitchedModules$Task" "place" "[I") ∈ mm_all := mm_mem 152 (by decide +kernel) (by decide +kernel)
theorem smk_S_145 : mm_lk "SwitchedModules" 145 2 1 := ⟨smR_T, smF_T, 9, rfl, smU_T, smw_152, by decide⟩
theorem smw_154 : (Cond.fieldLink "SwitchedModules" 148 "SwitchedModules$Task" "locals" "[I") ∈ mm_all := mm_mem 154 (by decide +kernel) (by decide +kernel)
theorem smk_S_148 : mm_lk "SwitchedModules" 148 2 2 := ⟨smR_T, smF_T, 9, rfl, smU_T, smw_154, by decide⟩
theorem smw_122 : (Cond.fieldLink "SwitchedModules" 154 "SwitchedModules$Heap" "type" "[I") ∈ mm_all := mm_mem 122 (by decide +kernel) (by decide +kernel)
theorem smk_S_154 : mm_lk "SwitchedModules" 154 0 0 := ⟨smR_H, smF_H, 6, rfl, smU_H, smw_122, by decide⟩
theorem smw_124 : (Cond.fieldLink "SwitchedModules" 157 "SwitchedModules$Heap" "cells" "[I") ∈ mm_all := mm_mem 124 (by decide +kernel) (by decide +kernel)
theorem smk_S_157 : mm_lk "SwitchedModules" 157 0 1 := ⟨smR_H, smF_H, 6, rfl, smU_H, smw_124, by decide⟩
theorem smw_68 : (Cond.fieldLink "SwitchedModules" 188 "SwitchedModules$Version" "op" "[I") ∈ mm_all := mm_mem 68 (by decide +kernel) (by decide +kernel)
theorem smk_S_188 : mm_lk "SwitchedModules" 188 3 1 := ⟨smR_V, smF_V, 6, rfl, smU_V, smw_68, by decide⟩
theorem smw_70 : (Cond.fieldLink "SwitchedModules" 191 "SwitchedModules$Version" "a" "[I") ∈ mm_all := mm_mem 70 (by decide +kernel) (by decide +kernel)
theorem smk_S_191 : mm_lk "SwitchedModules" 191 3 2 := ⟨smR_V, smF_V, 6, rfl, smU_V, smw_70, by decide⟩
theorem smw_72 : (Cond.fieldLink "SwitchedModules" 212 "SwitchedModules$Version" "b" "[I") ∈ mm_all := mm_mem 72 (by decide +kernel) (by decide +kernel)
theorem smk_S_212 : mm_lk "SwitchedModules" 212 3 3 := ⟨smR_V, smF_V, 6, rfl, smU_V, smw_72, by decide⟩
theorem smw_74 : (Cond.fieldLink "SwitchedModules" 215 "SwitchedModules$Version" "c" "[I") ∈ mm_all := mm_mem 74 (by decide +kernel) (by decide +kernel)
theorem smk_S_215 : mm_lk "SwitchedModules" 215 3 4 := ⟨smR_V, smF_V, 6, rfl, smU_V, smw_74, by decide⟩
theorem smw_522 : (Cond.fieldLink "SwitchedModulesModel" 7 "SwitchedModulesModel" "code" "[I") ∈ mm_all := mm_mem 522 (by decide +kernel) (by decide +kernel)
theorem smk_M_7 : mm_lk "SwitchedModulesModel" 7 5 0 := ⟨smR_M, smF_M, 19, rfl, smU_M, smw_522, by decide⟩
theorem smw_523 : (Cond.fieldLink "SwitchedModulesModel" 13 "SwitchedModulesModel" "lengths" "[I") ∈ mm_all := mm_mem 523 (by decide +kernel) (by decide +kernel)
theorem smk_M_13 : mm_lk "SwitchedModulesModel" 13 5 1 := ⟨smR_M, smF_M, 19, rfl, smU_M, smw_523, by decide⟩
theorem smw_524 : (Cond.fieldLink "SwitchedModulesModel" 16 "SwitchedModulesModel" "widths" "[I") ∈ mm_all := mm_mem 524 (by decide +kernel) (by decide +kernel)
theorem smk_M_16 : mm_lk "SwitchedModulesModel" 16 5 2 := ⟨smR_M, smF_M, 19, rfl, smU_M, smw_524, by decide⟩
theorem smw_525 : (Cond.fieldLink "SwitchedModulesModel" 19 "SwitchedModulesModel" "rules" "[I") ∈ mm_all := mm_mem 525 (by decide +kernel) (by decide +kernel)
theorem smk_M_19 : mm_lk "SwitchedModulesModel" 19 5 3 := ⟨smR_M, smF_M, 19, rfl, smU_M, smw_525, by decide⟩
theorem smw_526 : (Cond.fieldLink "SwitchedModulesModel" 22 "SwitchedModulesModel" "touched" "[Z") ∈ mm_all := mm_mem 526 (by decide +kernel) (by decide +kernel)
theorem smk_M_22 : mm_lk "SwitchedModulesModel" 22 5 4 := ⟨smR_M, smF_M, 19, rfl, smU_M, smw_526, by decide⟩
theorem smw_529 : (Cond.fieldLink "SwitchedModulesModel" 26 "SwitchedModulesModel" "globals" "[I") ∈ mm_all := mm_mem 529 (by decide +kernel) (by decide +kernel)
theorem smk_M_26 : mm_lk "SwitchedModulesModel" 26 5 7 := ⟨smR_M, smF_M, 19, rfl, smU_M, smw_529, by decide⟩
theorem smw_530 : (Cond.fieldLink "SwitchedModulesModel" 29 "SwitchedModulesModel" "types" "[I") ∈ mm_all := mm_mem 530 (by decide +kernel) (by decide +kernel)
theorem smk_M_29 : mm_lk "SwitchedModulesModel" 29 5 8 := ⟨smR_M, smF_M, 19, rfl, smU_M, smw_530, by decide⟩
theorem smw_531 : (Cond.fieldLink "SwitchedModulesModel" 32 "SwitchedModulesModel" "fields" "[I") ∈ mm_all := mm_mem 531 (by decide +kernel) (by decide +kernel)
theorem smk_M_32 : mm_lk "SwitchedModulesModel" 32 5 9 := ⟨smR_M, smF_M, 19, rfl, smU_M, smw_531, by decide⟩
theorem smw_532 : (Cond.fieldLink "SwitchedModulesModel" 35 "SwitchedModulesModel" "saved" "[I") ∈ mm_all := mm_mem 532 (by decide +kernel) (by decide +kernel)
theorem smk_M_35 : mm_lk "SwitchedModulesModel" 35 5 10 := ⟨smR_M, smF_M, 19, rfl, smU_M, smw_532, by decide⟩
theorem smw_533 : (Cond.fieldLink "SwitchedModulesModel" 38 "SwitchedModulesModel" "marked" "[Z") ∈ mm_all := mm_mem 533 (by decide +kernel) (by decide +kernel)
theorem smk_M_38 : mm_lk "SwitchedModulesModel" 38 5 11 := ⟨smR_M, smF_M, 19, rfl, smU_M, smw_533, by decide⟩
theorem smw_535 : (Cond.fieldLink "SwitchedModulesModel" 41 "SwitchedModulesModel" "states" "[I") ∈ mm_all := mm_mem 535 (by decide +kernel) (by decide +kernel)
theorem smk_M_41 : mm_lk "SwitchedModulesModel" 41 5 13 := ⟨smR_M, smF_M, 19, rfl, smU_M, smw_535, by decide⟩
theorem smw_536 : (Cond.fieldLink "SwitchedModulesModel" 44 "SwitchedModulesModel" "results" "[I") ∈ mm_all := mm_mem 536 (by decide +kernel) (by decide +kernel)
theorem smk_M_44 : mm_lk "SwitchedModulesModel" 44 5 14 := ⟨smR_M, smF_M, 19, rfl, smU_M, smw_536, by decide⟩
theorem smw_537 : (Cond.fieldLink "SwitchedModulesModel" 47 "SwitchedModulesModel" "depths" "[I") ∈ mm_all := mm_mem 537 (by decide +kernel) (by decide +kernel)
theorem smk_M_47 : mm_lk "SwitchedModulesModel" 47 5 15 := ⟨smR_M, smF_M, 19, rfl, smU_M, smw_537, by decide⟩
theorem smw_538 : (Cond.fieldLink "SwitchedModulesModel" 50 "SwitchedModulesModel" "frames" "[I") ∈ mm_all := mm_mem 538 (by decide +kernel) (by decide +kernel)
theorem smk_M_50 : mm_lk "SwitchedModulesModel" 50 5 16 := ⟨smR_M, smF_M, 19, rfl, smU_M, smw_538, by decide⟩
theorem smw_539 : (Cond.fieldLink "SwitchedModulesModel" 53 "SwitchedModulesModel" "queued" "[I") ∈ mm_all := mm_mem 539 (by decide +kernel) (by decide +kernel)
theorem smk_M_53 : mm_lk "SwitchedModulesModel" 53 5 17 := ⟨smR_M, smF_M, 19, rfl, smU_M, smw_539, by decide⟩
theorem smw_540 : (Cond.fieldLink "SwitchedModulesModel" 56 "SwitchedModulesModel" "queues" "[I") ∈ mm_all := mm_mem 540 (by decide +kernel) (by decide +kernel)
theorem smk_M_56 : mm_lk "SwitchedModulesModel" 56 5 18 := ⟨smR_M, smF_M, 19, rfl, smU_M, smw_540, by decide⟩
theorem smw_527 : (Cond.fieldLink "SwitchedModulesModel" 63 "SwitchedModulesModel" "staged" "Z") ∈ mm_all := mm_mem 527 (by decide +kernel) (by decide +kernel)
theorem smk_M_63 : mm_lk "SwitchedModulesModel" 63 5 5 := ⟨smR_M, smF_M, 19, rfl, smU_M, smw_527, by decide⟩
theorem smw_534 : (Cond.fieldLink "SwitchedModulesModel" 103 "SwitchedModulesModel" "tasks" "I") ∈ mm_all := mm_mem 534 (by decide +kernel) (by decide +kernel)
theorem smk_M_103 : mm_lk "SwitchedModulesModel" 103 5 12 := ⟨smR_M, smF_M, 19, rfl, smU_M, smw_534, by decide⟩
theorem smw_528 : (Cond.fieldLink "SwitchedModulesModel" 139 "SwitchedModulesModel" "version" "I") ∈ mm_all := mm_mem 528 (by decide +kernel) (by decide +kernel)
theorem smk_M_139 : mm_lk "SwitchedModulesModel" 139 5 6 := ⟨smR_M, smF_M, 19, rfl, smU_M, smw_528, by decide⟩
theorem smw_121 : (Cond.fieldLink "SwitchedModules$Heap" 9 "SwitchedModules$Heap" "type" "[I") ∈ mm_all := mm_mem 121 (by decide +kernel) (by decide +kernel)
theorem smk_H_9 : mm_lk "SwitchedModules$Heap" 9 0 0 := ⟨smR_H, smF_H, 6, rfl, smU_H, smw_121, by decide⟩
theorem smw_123 : (Cond.fieldLink "SwitchedModules$Heap" 15 "SwitchedModules$Heap" "cells" "[I") ∈ mm_all := mm_mem 123 (by decide +kernel) (by decide +kernel)
theorem smk_H_15 : mm_lk "SwitchedModules$Heap" 15 0 1 := ⟨smR_H, smF_H, 6, rfl, smU_H, smw_123, by decide⟩
theorem smw_125 : (Cond.fieldLink "SwitchedModules$Heap" 18 "SwitchedModules$Heap" "madeOver" "[I") ∈ mm_all := mm_mem 125 (by decide +kernel) (by decide +kernel)
theorem smk_H_18 : mm_lk "SwitchedModules$Heap" 18 0 2 := ⟨smR_H, smF_H, 6, rfl, smU_H, smw_125, by decide⟩
theorem smw_126 : (Cond.fieldLink "SwitchedModules$Heap" 21 "SwitchedModules$Heap" "marked" "[Z") ∈ mm_all := mm_mem 126 (by decide +kernel) (by decide +kernel)
theorem smk_H_21 : mm_lk "SwitchedModules$Heap" 21 0 3 := ⟨smR_H, smF_H, 6, rfl, smU_H, smw_126, by decide⟩
theorem smw_127 : (Cond.fieldLink "SwitchedModules$Heap" 25 "SwitchedModules$Heap" "found" "[I") ∈ mm_all := mm_mem 127 (by decide +kernel) (by decide +kernel)
theorem smk_H_25 : mm_lk "SwitchedModules$Heap" 25 0 4 := ⟨smR_H, smF_H, 6, rfl, smU_H, smw_127, by decide⟩
theorem smw_128 : (Cond.fieldLink "SwitchedModules$Heap" 32 "SwitchedModules$Heap" "foundCount" "I") ∈ mm_all := mm_mem 128 (by decide +kernel) (by decide +kernel)
theorem smk_H_32 : mm_lk "SwitchedModules$Heap" 32 0 5 := ⟨smR_H, smF_H, 6, rfl, smU_H, smw_128, by decide⟩
theorem smw_101 : (Cond.fieldLink "SwitchedModules$Heap" 46 "SwitchedModules$Rules" "touched" "[Z") ∈ mm_all := mm_mem 101 (by decide +kernel) (by decide +kernel)
theorem smk_H_46 : mm_lk "SwitchedModules$Heap" 46 1 0 := ⟨smR_R, smF_R, 4, rfl, smU_R, smw_101, by decide⟩
theorem smw_78 : (Cond.fieldLink "SwitchedModules$Heap" 51 "SwitchedModules$Version" "fieldCount" "[I") ∈ mm_all := mm_mem 78 (by decide +kernel) (by decide +kernel)
theorem smk_H_51 : mm_lk "SwitchedModules$Heap" 51 3 5 := ⟨smR_V, smF_V, 6, rfl, smU_V, smw_78, by decide⟩
theorem smw_99 : (Cond.fieldLink "SwitchedModules$Rules" 9 "SwitchedModules$Rules" "touched" "[Z") ∈ mm_all := mm_mem 99 (by decide +kernel) (by decide +kernel)
theorem smk_R_9 : mm_lk "SwitchedModules$Rules" 9 1 0 := ⟨smR_R, smF_R, 4, rfl, smU_R, smw_99, by decide⟩
theorem smw_102 : (Cond.fieldLink "SwitchedModules$Rules" 15 "SwitchedModules$Rules" "kind" "[I") ∈ mm_all := mm_mem 102 (by decide +kernel) (by decide +kernel)
theorem smk_R_15 : mm_lk "SwitchedModules$Rules" 15 1 1 := ⟨smR_R, smF_R, 4, rfl, smU_R, smw_102, by decide⟩
theorem smw_103 : (Cond.fieldLink "SwitchedModules$Rules" 19 "SwitchedModules$Rules" "from" "[I") ∈ mm_all := mm_mem 103 (by decide +kernel) (by decide +kernel)
theorem smk_R_19 : mm_lk "SwitchedModules$Rules" 19 1 2 := ⟨smR_R, smF_R, 4, rfl, smU_R, smw_103, by decide⟩
theorem smw_104 : (Cond.fieldLink "SwitchedModules$Rules" 22 "SwitchedModules$Rules" "k" "[I") ∈ mm_all := mm_mem 104 (by decide +kernel) (by decide +kernel)
theorem smk_R_22 : mm_lk "SwitchedModules$Rules" 22 1 3 := ⟨smR_R, smF_R, 4, rfl, smU_R, smw_104, by decide⟩
theorem smw_77 : (Cond.fieldLink "SwitchedModules$Rules" 33 "SwitchedModules$Version" "fieldCount" "[I") ∈ mm_all := mm_mem 77 (by decide +kernel) (by decide +kernel)
theorem smk_R_33 : mm_lk "SwitchedModules$Rules" 33 3 5 := ⟨smR_V, smF_V, 6, rfl, smU_V, smw_77, by decide⟩
theorem smw_149 : (Cond.fieldLink "SwitchedModules$Task" 9 "SwitchedModules$Task" "procedure" "[I") ∈ mm_all := mm_mem 149 (by decide +kernel) (by decide +kernel)
theorem smk_T_9 : mm_lk "SwitchedModules$Task" 9 2 0 := ⟨smR_T, smF_T, 9, rfl, smU_T, smw_149, by decide⟩
theorem smw_151 : (Cond.fieldLink "SwitchedModules$Task" 15 "SwitchedModules$Task" "place" "[I") ∈ mm_all := mm_mem 151 (by decide +kernel) (by decide +kernel)
theorem smk_T_15 : mm_lk "SwitchedModules$Task" 15 2 1 := ⟨smR_T, smF_T, 9, rfl, smU_T, smw_151, by decide⟩
theorem smw_153 : (Cond.fieldLink "SwitchedModules$Task" 18 "SwitchedModules$Task" "locals" "[I") ∈ mm_all := mm_mem 153 (by decide +kernel) (by decide +kernel)
theorem smk_T_18 : mm_lk "SwitchedModules$Task" 18 2 2 := ⟨smR_T, smF_T, 9, rfl, smU_T, smw_153, by decide⟩
theorem smw_155 : (Cond.fieldLink "SwitchedModules$Task" 21 "SwitchedModules$Task" "answerLocal" "[I") ∈ mm_all := mm_mem 155 (by decide +kernel) (by decide +kernel)
theorem smk_T_21 : mm_lk "SwitchedModules$Task" 21 2 3 := ⟨smR_T, smF_T, 9, rfl, smU_T, smw_155, by decide⟩
theorem smw_156 : (Cond.fieldLink "SwitchedModules$Task" 24 "SwitchedModules$Task" "queue" "[I") ∈ mm_all := mm_mem 156 (by decide +kernel) (by decide +kernel)
theorem smk_T_24 : mm_lk "SwitchedModules$Task" 24 2 4 := ⟨smR_T, smF_T, 9, rfl, smU_T, smw_156, by decide⟩
theorem smw_157 : (Cond.fieldLink "SwitchedModules$Task" 27 "SwitchedModules$Task" "depth" "I") ∈ mm_all := mm_mem 157 (by decide +kernel) (by decide +kernel)
theorem smk_T_27 : mm_lk "SwitchedModules$Task" 27 2 5 := ⟨smR_T, smF_T, 9, rfl, smU_T, smw_157, by decide⟩
theorem smw_161 : (Cond.fieldLink "SwitchedModules$Task" 35 "SwitchedModules$Task" "condition" "I") ∈ mm_all := mm_mem 161 (by decide +kernel) (by decide +kernel)
theorem smk_T_35 : mm_lk "SwitchedModules$Task" 35 2 7 := ⟨smR_T, smF_T, 9, rfl, smU_T, smw_161, by decide⟩
theorem smw_163 : (Cond.fieldLink "SwitchedModules$Task" 38 "SwitchedModules$Task" "outcome" "I") ∈ mm_all := mm_mem 163 (by decide +kernel) (by decide +kernel)
theorem smk_T_38 : mm_lk "SwitchedModules$Task" 38 2 8 := ⟨smR_T, smF_T, 9, rfl, smU_T, smw_163, by decide⟩
theorem smw_159 : (Cond.fieldLink "SwitchedModules$Task" 41 "SwitchedModules$Task" "queued" "I") ∈ mm_all := mm_mem 159 (by decide +kernel) (by decide +kernel)
theorem smk_T_41 : mm_lk "SwitchedModules$Task" 41 2 6 := ⟨smR_T, smF_T, 9, rfl, smU_T, smw_159, by decide⟩
theorem smw_65 : (Cond.fieldLink "SwitchedModules$Version" 9 "SwitchedModules$Version" "length" "[I") ∈ mm_all := mm_mem 65 (by decide +kernel) (by decide +kernel)
theorem smk_V_9 : mm_lk "SwitchedModules$Version" 9 3 0 := ⟨smR_V, smF_V, 6, rfl, smU_V, smw_65, by decide⟩
theorem smw_67 : (Cond.fieldLink "SwitchedModules$Version" 15 "SwitchedModules$Version" "op" "[I") ∈ mm_all := mm_mem 67 (by decide +kernel) (by decide +kernel)
theorem smk_V_15 : mm_lk "SwitchedModules$Version" 15 3 1 := ⟨smR_V, smF_V, 6, rfl, smU_V, smw_67, by decide⟩
theorem smw_69 : (Cond.fieldLink "SwitchedModules$Version" 18 "SwitchedModules$Version" "a" "[I") ∈ mm_all := mm_mem 69 (by decide +kernel) (by decide +kernel)
theorem smk_V_18 : mm_lk "SwitchedModules$Version" 18 3 2 := ⟨smR_V, smF_V, 6, rfl, smU_V, smw_69, by decide⟩
theorem smw_71 : (Cond.fieldLink "SwitchedModules$Version" 21 "SwitchedModules$Version" "b" "[I") ∈ mm_all := mm_mem 71 (by decide +kernel) (by decide +kernel)
theorem smk_V_21 : mm_lk "SwitchedModules$Version" 21 3 3 := ⟨smR_V, smF_V, 6, rfl, smU_V, smw_71, by decide⟩
theorem smw_73 : (Cond.fieldLink "SwitchedModules$Version" 24 "SwitchedModules$Version" "c" "[I") ∈ mm_all := mm_mem 73 (by decide +kernel) (by decide +kernel)
theorem smk_V_24 : mm_lk "SwitchedModules$Version" 24 3 4 := ⟨smR_V, smF_V, 6, rfl, smU_V, smw_73, by decide⟩
theorem smw_75 : (Cond.fieldLink "SwitchedModules$Version" 27 "SwitchedModules$Version" "fieldCount" "[I") ∈ mm_all := mm_mem 75 (by decide +kernel) (by decide +kernel)
theorem smk_V_27 : mm_lk "SwitchedModules$Version" 27 3 5 := ⟨smR_V, smF_V, 6, rfl, smU_V, smw_75, by decide⟩
theorem smp_H_5 : mm_lp 0 5 .int := ⟨smR_H, smF_H, 6, smT_H, rfl, smO_H, smN_H, rfl, by decide +kernel⟩
theorem smp_T_5 : mm_lp 2 5 .int := ⟨smR_T, smF_T, 9, smT_T, rfl, smO_T, smN_T, rfl, by decide +kernel⟩
theorem smp_T_6 : mm_lp 2 6 .int := ⟨smR_T, smF_T, 9, smT_T, rfl, smO_T, smN_T, rfl, by decide +kernel⟩
theorem smp_T_7 : mm_lp 2 7 .int := ⟨smR_T, smF_T, 9, smT_T, rfl, smO_T, smN_T, rfl, by decide +kernel⟩
theorem smp_T_8 : mm_lp 2 8 .int := ⟨smR_T, smF_T, 9, smT_T, rfl, smO_T, smN_T, rfl, by decide +kernel⟩
theorem smp_S_6 : mm_lp 4 6 .int := ⟨smR_S, smF_S, 9, smT_S, rfl, smO_S, smN_S, rfl, by decide +kernel⟩
theorem smp_S_7 : mm_lp 4 7 .int := ⟨smR_S, smF_S, 9, smT_S, rfl, smO_S, smN_S, rfl, by decide +kernel⟩
theorem smp_S_8 : mm_lp 4 8 .boolean := ⟨smR_S, smF_S, 9, smT_S, rfl, smO_S, smN_S, rfl, by decide +kernel⟩
theorem smp_M_5 : mm_lp 5 5 .boolean := ⟨smR_M, smF_M, 19, smT_M, rfl, smO_M, smN_M, rfl, by decide +kernel⟩
theorem smp_M_6 : mm_lp 5 6 .int := ⟨smR_M, smF_M, 19, smT_M, rfl, smO_M, smN_M, rfl, by decide +kernel⟩
theorem smp_M_12 : mm_lp 5 12 .int := ⟨smR_M, smF_M, 19, smT_M, rfl, smO_M, smN_M, rfl, by decide +kernel⟩
theorem smw_218 : (Cond.code smy_S_isWithin prog_1_method_25_code 2 (some .boolean)) ∈ mm_all := mm_mem 218 (by decide +kernel) (by decide +kernel)
theorem smw_43 : (Cond.initialized "SwitchedModules") ∈ mm_all := mm_mem 43 (by decide +kernel) (by decide +kernel)
theorem smw_217 : (Cond.static smy_S_isWithin) ∈ mm_all := mm_mem 217 (by decide +kernel) (by decide +kernel)
theorem smv_S_isWithin : mm_cS smM_S_isWithin 2 := ⟨⟨smw_218, smw_43, by decide +kernel, by decide +kernel, by decide +kernel⟩, smw_217⟩
theorem smw_216 : (Cond.methodLink "SwitchedModules" 44 smy_S_isWithin) ∈ mm_all := mm_mem 216 (by decide +kernel) (by decide +kernel)
theorem smw_222 : (Cond.code smy_V_write prog_5_method_4_code 8 none) ∈ mm_all := mm_mem 222 (by decide +kernel) (by decide +kernel)
theorem smw_44 : (Cond.initialized "SwitchedModules$Version") ∈ mm_all := mm_mem 44 (by decide +kernel) (by decide +kernel)
theorem smw_220 : (Cond.instanceMethod smy_V_write) ∈ mm_all := mm_mem 220 (by decide +kernel) (by decide +kernel)
theorem smw_221 : (Cond.selects "SwitchedModules$Version" smy_V_write smy_V_write) ∈ mm_all := mm_mem 221 (by decide +kernel) (by decide +kernel)
theorem smv_V_write : mm_cV smM_V_write 6 3 := ⟨⟨smw_222, smw_44, by decide +kernel, by decide +kernel, by decide +kernel⟩, smw_220, smw_221, smF_V, 6, rfl⟩
theorem smw_219 : (Cond.methodLink "SwitchedModules" 55 smy_V_write) ∈ mm_all := mm_mem 219 (by decide +kernel) (by decide +kernel)
theorem smw_240 : (Cond.code smy_R_forgetType prog_3_method_3_code 3 none) ∈ mm_all := mm_mem 240 (by decide +kernel) (by decide +kernel)
theorem smw_45 : (Cond.initialized "SwitchedModules$Rules") ∈ mm_all := mm_mem 45 (by decide +kernel) (by decide +kernel)
theorem smw_238 : (Cond.instanceMethod smy_R_forgetType) ∈ mm_all := mm_mem 238 (by decide +kernel) (by decide +kernel)
theorem smw_239 : (Cond.selects "SwitchedModules$Rules" smy_R_forgetType smy_R_forgetType) ∈ mm_all := mm_mem 239 (by decide +kernel) (by decide +kernel)
theorem smv_R_forgetType : mm_cV smM_R_forgetType 1 1 := ⟨⟨smw_240, smw_45, by decide +kernel, by decide +kernel, by decide +kernel⟩, smw_238, smw_239, smF_R, 4, rfl⟩
theorem smw_237 : (Cond.methodLink "SwitchedModules" 62 smy_R_forgetType) ∈ mm_all := mm_mem 237 (by decide +kernel) (by decide +kernel)
theorem smw_244 : (Cond.code smy_R_write prog_3_method_2_code 7 none) ∈ mm_all := mm_mem 244 (by decide +kernel) (by decide +kernel)
theorem smw_242 : (Cond.instanceMethod smy_R_write) ∈ mm_all := mm_mem 242 (by decide +kernel) (by decide +kernel)
theorem smw_243 : (Cond.selects "SwitchedModules$Rules" smy_R_write smy_R_write) ∈ mm_all := mm_mem 243 (by decide +kernel) (by decide +kernel)
theorem smv_R_write : mm_cV smM_R_write 5 1 := ⟨⟨smw_244, smw_45, by decide +kernel, by decide +kernel, by decide +kernel⟩, smw_242, smw_243, smF_R, 4, rfl⟩
theorem smw_249 : (Cond.methodLink "SwitchedModules" 70 smy_R_write) ∈ mm_all := mm_mem 249 (by decide +kernel) (by decide +kernel)
theorem smw_257 : (Cond.code smy_V_copyFrom prog_5_method_5_code 2 none) ∈ mm_all := mm_mem 257 (by decide +kernel) (by decide +kernel)
theorem smw_255 : (Cond.instanceMethod smy_V_copyFrom) ∈ mm_all := mm_mem 255 (by decide +kernel) (by decide +kernel)
theorem smw_256 : (Cond.selects "SwitchedModules$Version" smy_V_copyFrom smy_V_copyFrom) ∈ mm_all := mm_mem 256 (by decide +kernel) (by decide +kernel)
theorem smv_V_copyFrom : mm_cV smM_V_copyFrom 1 3 := ⟨⟨smw_257, smw_44, by decide +kernel, by decide +kernel, by decide +kernel⟩, smw_255, smw_256, smF_V, 6, rfl⟩
theorem smw_254 : (Cond.methodLink "SwitchedModules" 73 smy_V_copyFrom) ∈ mm_all := mm_mem 254 (by decide +kernel) (by decide +kernel)
theorem smw_264 : (Cond.code smy_R_forgetAll prog_3_method_4_code 2 none) ∈ mm_all := mm_mem 264 (by decide +kernel) (by decide +kernel)
theorem smw_262 : (Cond.instanceMethod smy_R_forgetAll) ∈ mm_all := mm_mem 262 (by decide +kernel) (by decide +kernel)
theorem smw_263 : (Cond.selects "SwitchedModules$Rules" smy_R_forgetAll smy_R_forgetAll) ∈ mm_all := mm_mem 263 (by decide +kernel) (by decide +kernel)
theorem smv_R_forgetAll : mm_cV smM_R_forgetAll 0 1 := ⟨⟨smw_264, smw_45, by decide +kernel, by decide +kernel, by decide +kernel⟩, smw_262, smw_263, smF_R, 4, rfl⟩
theorem smw_261 : (Cond.methodLink "SwitchedModules" 77 smy_R_forgetAll) ∈ mm_all := mm_mem 261 (by decide +kernel) (by decide +kernel)
theorem smw_273 : (Cond.code smy_V_firstWrongWord prog_5_method_10_code 5 (some .int)) ∈ mm_all := mm_mem 273 (by decide +kernel) (by decide +kernel)
theorem smw_271 : (Cond.instanceMethod smy_V_firstWrongWord) ∈ mm_all := mm_mem 271 (by decide +kernel) (by decide +kernel)
theorem smw_272 : (Cond.selects "SwitchedModules$Version" smy_V_firstWrongWord smy_V_firstWrongWord) ∈ mm_all := mm_mem 272 (by decide +kernel) (by decide +kernel)
theorem smv_V_firstWrongWord : mm_cV smM_V_firstWrongWord 0 3 := ⟨⟨smw_273, smw_44, by decide +kernel, by decide +kernel, by decide +kernel⟩, smw_271, smw_272, smF_V, 6, rfl⟩
theorem smw_270 : (Cond.methodLink "SwitchedModules" 80 smy_V_firstWrongWord) ∈ mm_all := mm_mem 270 (by decide +kernel) (by decide +kernel)
theorem smw_293 : (Cond.code smy_R_firstWithoutSource prog_3_method_5_code 6 (some .int)) ∈ mm_all := mm_mem 293 (by decide +kernel) (by decide +kernel)
theorem smw_291 : (Cond.instanceMethod smy_R_firstWithoutSource) ∈ mm_all := mm_mem 291 (by decide +kernel) (by decide +kernel)
theorem smw_292 : (Cond.selects "SwitchedModules$Rules" smy_R_firstWithoutSource smy_R_firstWithoutSource) ∈ mm_all := mm_mem 292 (by decide +kernel) (by decide +kernel)
theorem smv_R_firstWithoutSource : mm_cV smM_R_firstWithoutSource 2 1 := ⟨⟨smw_293, smw_45, by decide +kernel, by decide +kernel, by decide +kernel⟩, smw_291, smw_292, smF_R, 4, rfl⟩
theorem smw_290 : (Cond.methodLink "SwitchedModules" 84 smy_R_firstWithoutSource) ∈ mm_all := mm_mem 290 (by decide +kernel) (by decide +kernel)
theorem smw_305 : (Cond.code smy_S_draftChanges prog_1_method_27_code 2 (some .boolean)) ∈ mm_all := mm_mem 305 (by decide +kernel) (by decide +kernel)
theorem smw_304 : (Cond.instanceMethod smy_S_draftChanges) ∈ mm_all := mm_mem 304 (by decide +kernel) (by decide +kernel)
theorem smw_2 : (Cond.selects "SwitchedModules" smy_S_draftChanges smy_S_draftChanges) ∈ mm_all := mm_mem 2 (by decide +kernel) (by decide +kernel)
theorem smv_S_draftChanges : mm_cV smM_S_draftChanges 1 4 := ⟨⟨smw_305, smw_43, by decide +kernel, by decide +kernel, by decide +kernel⟩, smw_304, smw_2, smF_S, 9, rfl⟩
theorem smw_302 : (Cond.methodLink "SwitchedModules" 88 smy_S_draftChanges) ∈ mm_all := mm_mem 302 (by decide +kernel) (by decide +kernel)
theorem smw_325 : (Cond.code smy_S_firstTaskInTheWay prog_1_method_28_code 3 (some .int)) ∈ mm_all := mm_mem 325 (by decide +kernel) (by decide +kernel)
theorem smw_324 : (Cond.instanceMethod smy_S_firstTaskInTheWay) ∈ mm_all := mm_mem 324 (by decide +kernel) (by decide +kernel)
theorem smw_4 : (Cond.selects "SwitchedModules" smy_S_firstTaskInTheWay smy_S_firstTaskInTheWay) ∈ mm_all := mm_mem 4 (by decide +kernel) (by decide +kernel)
theorem smv_S_firstTaskInTheWay : mm_cV smM_S_firstTaskInTheWay 1 4 := ⟨⟨smw_325, smw_43, by decide +kernel, by decide +kernel, by decide +kernel⟩, smw_324, smw_4, smF_S, 9, rfl⟩
theorem smw_322 : (Cond.methodLink "SwitchedModules" 92 smy_S_firstTaskInTheWay) ∈ mm_all := mm_mem 322 (by decide +kernel) (by decide +kernel)
theorem smw_347 : (Cond.code smy_S_dropUnreachable prog_1_method_33_code 4 (some .int)) ∈ mm_all := mm_mem 347 (by decide +kernel) (by decide +kernel)
theorem smw_346 : (Cond.instanceMethod smy_S_dropUnreachable) ∈ mm_all := mm_mem 346 (by decide +kernel) (by decide +kernel)
theorem smw_7 : (Cond.selects "SwitchedModules" smy_S_dropUnreachable smy_S_dropUnreachable) ∈ mm_all := mm_mem 7 (by decide +kernel) (by decide +kernel)
theorem smv_S_dropUnreachable : mm_cV smM_S_dropUnreachable 0 4 := ⟨⟨smw_347, smw_43, by decide +kernel, by decide +kernel, by decide +kernel⟩, smw_346, smw_7, smF_S, 9, rfl⟩
theorem smw_344 : (Cond.methodLink "SwitchedModules" 96 smy_S_dropUnreachable) ∈ mm_all := mm_mem 344 (by decide +kernel) (by decide +kernel)
theorem smw_372 : (Cond.code smy_H_makeOver prog_2_method_11_code 7 (some .boolean)) ∈ mm_all := mm_mem 372 (by decide +kernel) (by decide +kernel)
theorem smw_46 : (Cond.initialized "SwitchedModules$Heap") ∈ mm_all := mm_mem 46 (by decide +kernel) (by decide +kernel)
theorem smw_370 : (Cond.instanceMethod smy_H_makeOver) ∈ mm_all := mm_mem 370 (by decide +kernel) (by decide +kernel)
theorem smw_371 : (Cond.selects "SwitchedModules$Heap" smy_H_makeOver smy_H_makeOver) ∈ mm_all := mm_mem 371 (by decide +kernel) (by decide +kernel)
theorem smv_H_makeOver : mm_cV smM_H_makeOver 3 0 := ⟨⟨smw_372, smw_46, by decide +kernel, by decide +kernel, by decide +kernel⟩, smw_370, smw_371, smF_H, 6, rfl⟩
theorem smw_369 : (Cond.methodLink "SwitchedModules" 99 smy_H_makeOver) ∈ mm_all := mm_mem 369 (by decide +kernel) (by decide +kernel)
theorem smw_389 : (Cond.code smy_S_takeThePlace prog_1_method_31_code 1 none) ∈ mm_all := mm_mem 389 (by decide +kernel) (by decide +kernel)
theorem smw_388 : (Cond.instanceMethod smy_S_takeThePlace) ∈ mm_all := mm_mem 388 (by decide +kernel) (by decide +kernel)
theorem smw_9 : (Cond.selects "SwitchedModules" smy_S_takeThePlace smy_S_takeThePlace) ∈ mm_all := mm_mem 9 (by decide +kernel) (by decide +kernel)
theorem smv_S_takeThePlace : mm_cV smM_S_takeThePlace 0 4 := ⟨⟨smw_389, smw_43, by decide +kernel, by decide +kernel, by decide +kernel⟩, smw_388, smw_9, smF_S, 9, rfl⟩
theorem smw_386 : (Cond.methodLink "SwitchedModules" 103 smy_S_takeThePlace) ∈ mm_all := mm_mem 386 (by decide +kernel) (by decide +kernel)
theorem smw_285 : (Cond.code smy_V_hasProcedure prog_5_method_3_code 2 (some .boolean)) ∈ mm_all := mm_mem 285 (by decide +kernel) (by decide +kernel)
theorem smw_283 : (Cond.instanceMethod smy_V_hasProcedure) ∈ mm_all := mm_mem 283 (by decide +kernel) (by decide +kernel)
theorem smw_284 : (Cond.selects "SwitchedModules$Version" smy_V_hasProcedure smy_V_hasProcedure) ∈ mm_all := mm_mem 284 (by decide +kernel) (by decide +kernel)
theorem smv_V_hasProcedure : mm_cV smM_V_hasProcedure 1 3 := ⟨⟨smw_285, smw_44, by decide +kernel, by decide +kernel, by decide +kernel⟩, smw_283, smw_284, smF_V, 6, rfl⟩
theorem smw_402 : (Cond.methodLink "SwitchedModules" 110 smy_V_hasProcedure) ∈ mm_all := mm_mem 402 (by decide +kernel) (by decide +kernel)
theorem smw_406 : (Cond.code smy_T_push prog_4_method_4_code 5 none) ∈ mm_all := mm_mem 406 (by decide +kernel) (by decide +kernel)
theorem smw_47 : (Cond.initialized "SwitchedModules$Task") ∈ mm_all := mm_mem 47 (by decide +kernel) (by decide +kernel)
theorem smw_404 : (Cond.instanceMethod smy_T_push) ∈ mm_all := mm_mem 404 (by decide +kernel) (by decide +kernel)
theorem smw_405 : (Cond.selects "SwitchedModules$Task" smy_T_push smy_T_push) ∈ mm_all := mm_mem 405 (by decide +kernel) (by decide +kernel)
theorem smv_T_push : mm_cV smM_T_push 3 2 := ⟨⟨smw_406, smw_47, by decide +kernel, by decide +kernel, by decide +kernel⟩, smw_404, smw_405, smF_T, 9, rfl⟩
theorem smw_403 : (Cond.methodLink "SwitchedModules" 116 smy_T_push) ∈ mm_all := mm_mem 403 (by decide +kernel) (by decide +kernel)
theorem smw_418 : (Cond.code smy_S_isTask prog_1_method_26_code 2 (some .boolean)) ∈ mm_all := mm_mem 418 (by decide +kernel) (by decide +kernel)
theorem smw_417 : (Cond.instanceMethod smy_S_isTask) ∈ mm_all := mm_mem 417 (by decide +kernel) (by decide +kernel)
theorem smw_11 : (Cond.selects "SwitchedModules" smy_S_isTask smy_S_isTask) ∈ mm_all := mm_mem 11 (by decide +kernel) (by decide +kernel)
theorem smv_S_isTask : mm_cV smM_S_isTask 1 4 := ⟨⟨smw_418, smw_43, by decide +kernel, by decide +kernel, by decide +kernel⟩, smw_417, smw_11, smF_S, 9, rfl⟩
theorem smw_415 : (Cond.methodLink "SwitchedModules" 120 smy_S_isTask) ∈ mm_all := mm_mem 415 (by decide +kernel) (by decide +kernel)
theorem smw_422 : (Cond.code smy_S_perform prog_1_method_34_code 7 none) ∈ mm_all := mm_mem 422 (by decide +kernel) (by decide +kernel)
theorem smw_421 : (Cond.instanceMethod smy_S_perform) ∈ mm_all := mm_mem 421 (by decide +kernel) (by decide +kernel)
theorem smw_12 : (Cond.selects "SwitchedModules" smy_S_perform smy_S_perform) ∈ mm_all := mm_mem 12 (by decide +kernel) (by decide +kernel)
theorem smv_S_perform : mm_cV smM_S_perform 1 4 := ⟨⟨smw_422, smw_43, by decide +kernel, by decide +kernel, by decide +kernel⟩, smw_421, smw_12, smF_S, 9, rfl⟩
theorem smw_419 : (Cond.methodLink "SwitchedModules" 126 smy_S_perform) ∈ mm_all := mm_mem 419 (by decide +kernel) (by decide +kernel)
theorem smw_474 : (Cond.code smy_T_enqueue prog_4_method_7_code 2 none) ∈ mm_all := mm_mem 474 (by decide +kernel) (by decide +kernel)
theorem smw_472 : (Cond.instanceMethod smy_T_enqueue) ∈ mm_all := mm_mem 472 (by decide +kernel) (by decide +kernel)
theorem smw_473 : (Cond.selects "SwitchedModules$Task" smy_T_enqueue smy_T_enqueue) ∈ mm_all := mm_mem 473 (by decide +kernel) (by decide +kernel)
theorem smv_T_enqueue : mm_cV smM_T_enqueue 1 2 := ⟨⟨smw_474, smw_47, by decide +kernel, by decide +kernel, by decide +kernel⟩, smw_472, smw_473, smF_T, 9, rfl⟩
theorem smw_471 : (Cond.methodLink "SwitchedModules" 133 smy_T_enqueue) ∈ mm_all := mm_mem 471 (by decide +kernel) (by decide +kernel)
theorem smw_359 : (Cond.code smy_H_has prog_2_method_2_code 2 (some .boolean)) ∈ mm_all := mm_mem 359 (by decide +kernel) (by decide +kernel)
theorem smw_357 : (Cond.instanceMethod smy_H_has) ∈ mm_all := mm_mem 357 (by decide +kernel) (by decide +kernel)
theorem smw_358 : (Cond.selects "SwitchedModules$Heap" smy_H_has smy_H_has) ∈ mm_all := mm_mem 358 (by decide +kernel) (by decide +kernel)
theorem smv_H_has : mm_cV smM_H_has 1 0 := ⟨⟨smw_359, smw_46, by decide +kernel, by decide +kernel, by decide +kernel⟩, smw_357, smw_358, smF_H, 6, rfl⟩
theorem smw_499 : (Cond.methodLink "SwitchedModules" 151 smy_H_has) ∈ mm_all := mm_mem 499 (by decide +kernel) (by decide +kernel)
theorem smw_511 : (Cond.code smy_H_count prog_2_method_3_code 3 (some .int)) ∈ mm_all := mm_mem 511 (by decide +kernel) (by decide +kernel)
theorem smw_509 : (Cond.instanceMethod smy_H_count) ∈ mm_all := mm_mem 509 (by decide +kernel) (by decide +kernel)
theorem smw_510 : (Cond.selects "SwitchedModules$Heap" smy_H_count smy_H_count) ∈ mm_all := mm_mem 510 (by decide +kernel) (by decide +kernel)
theorem smv_H_count : mm_cV smM_H_count 0 0 := ⟨⟨smw_511, smw_46, by decide +kernel, by decide +kernel, by decide +kernel⟩, smw_509, smw_510, smF_H, 6, rfl⟩
theorem smw_508 : (Cond.methodLink "SwitchedModules" 160 smy_H_count) ∈ mm_all := mm_mem 508 (by decide +kernel) (by decide +kernel)
theorem smw_309 : (Cond.code smy_V_hasSameProcedure prog_5_method_6_code 4 (some .boolean)) ∈ mm_all := mm_mem 309 (by decide +kernel) (by decide +kernel)
theorem smw_307 : (Cond.instanceMethod smy_V_hasSameProcedure) ∈ mm_all := mm_mem 307 (by decide +kernel) (by decide +kernel)
theorem smw_308 : (Cond.selects "SwitchedModules$Version" smy_V_hasSameProcedure smy_V_hasSameProcedure) ∈ mm_all := mm_mem 308 (by decide +kernel) (by decide +kernel)
theorem smv_V_hasSameProcedure : mm_cV smM_V_hasSameProcedure 2 3 := ⟨⟨smw_309, smw_44, by decide +kernel, by decide +kernel, by decide +kernel⟩, smw_307, smw_308, smF_V, 6, rfl⟩
theorem smw_306 : (Cond.methodLink "SwitchedModules" 163 smy_V_hasSameProcedure) ∈ mm_all := mm_mem 306 (by decide +kernel) (by decide +kernel)
theorem smw_313 : (Cond.code smy_V_usesTouchedType prog_5_method_7_code 5 (some .boolean)) ∈ mm_all := mm_mem 313 (by decide +kernel) (by decide +kernel)
theorem smw_311 : (Cond.instanceMethod smy_V_usesTouchedType) ∈ mm_all := mm_mem 311 (by decide +kernel) (by decide +kernel)
theorem smw_312 : (Cond.selects "SwitchedModules$Version" smy_V_usesTouchedType smy_V_usesTouchedType) ∈ mm_all := mm_mem 312 (by decide +kernel) (by decide +kernel)
theorem smv_V_usesTouchedType : mm_cV smM_V_usesTouchedType 2 3 := ⟨⟨smw_313, smw_44, by decide +kernel, by decide +kernel, by decide +kernel⟩, smw_311, smw_312, smF_V, 6, rfl⟩
theorem smw_310 : (Cond.methodLink "SwitchedModules" 167 smy_V_usesTouchedType) ∈ mm_all := mm_mem 310 (by decide +kernel) (by decide +kernel)
theorem smw_326 : (Cond.methodLink "SwitchedModules" 171 Lib.Math.max.name) ∈ mm_all := mm_mem 326 (by decide +kernel) (by decide +kernel)
theorem smw_227 : (Cond.static Lib.Math.max.name) ∈ mm_all := mm_mem 227 (by decide +kernel) (by decide +kernel)
theorem smw_49 : (Cond.initialized "java/lang/Math") ∈ mm_all := mm_mem 49 (by decide +kernel) (by decide +kernel)
theorem smw_228 : (Cond.code Lib.Math.max.name Lib.Math.max.code 2 (some .int)) ∈ mm_all := mm_mem 228 (by decide +kernel) (by decide +kernel)
theorem smx_S_171 : mm_cX "SwitchedModules" 171 := ⟨smw_326, smw_227, smw_49, smw_228⟩
theorem smw_330 : (Cond.code smy_S_isInTheWay prog_1_method_29_code 4 (some .boolean)) ∈ mm_all := mm_mem 330 (by decide +kernel) (by decide +kernel)
theorem smw_329 : (Cond.instanceMethod smy_S_isInTheWay) ∈ mm_all := mm_mem 329 (by decide +kernel) (by decide +kernel)
theorem smw_5 : (Cond.selects "SwitchedModules" smy_S_isInTheWay smy_S_isInTheWay) ∈ mm_all := mm_mem 5 (by decide +kernel) (by decide +kernel)
theorem smv_S_isInTheWay : mm_cV smM_S_isInTheWay 1 4 := ⟨⟨smw_330, smw_43, by decide +kernel, by decide +kernel, by decide +kernel⟩, smw_329, smw_5, smF_S, 9, rfl⟩
theorem smw_327 : (Cond.methodLink "SwitchedModules" 177 smy_S_isInTheWay) ∈ mm_all := mm_mem 327 (by decide +kernel) (by decide +kernel)
theorem smw_334 : (Cond.code smy_S_placeInDraft prog_1_method_30_code 4 (some .int)) ∈ mm_all := mm_mem 334 (by decide +kernel) (by decide +kernel)
theorem smw_333 : (Cond.instanceMethod smy_S_placeInDraft) ∈ mm_all := mm_mem 333 (by decide +kernel) (by decide +kernel)
theorem smw_6 : (Cond.selects "SwitchedModules" smy_S_placeInDraft smy_S_placeInDraft) ∈ mm_all := mm_mem 6 (by decide +kernel) (by decide +kernel)
theorem smv_S_placeInDraft : mm_cV smM_S_placeInDraft 1 4 := ⟨⟨smw_334, smw_43, by decide +kernel, by decide +kernel, by decide +kernel⟩, smw_333, smw_6, smF_S, 9, rfl⟩
theorem smw_331 : (Cond.methodLink "SwitchedModules" 181 smy_S_placeInDraft) ∈ mm_all := mm_mem 331 (by decide +kernel) (by decide +kernel)
theorem smw_225 : (Cond.code smy_V_at prog_5_method_2_code 2 (some .int)) ∈ mm_all := mm_mem 225 (by decide +kernel) (by decide +kernel)
theorem smw_224 : (Cond.static smy_V_at) ∈ mm_all := mm_mem 224 (by decide +kernel) (by decide +kernel)
theorem smv_V_at : mm_cS smM_V_at 2 := ⟨⟨smw_225, smw_44, by decide +kernel, by decide +kernel, by decide +kernel⟩, smw_224⟩
theorem smw_335 : (Cond.methodLink "SwitchedModules" 185 smy_V_at) ∈ mm_all := mm_mem 335 (by decide +kernel) (by decide +kernel)
theorem smw_339 : (Cond.code smy_V_firstPoint prog_5_method_9_code 4 (some .int)) ∈ mm_all := mm_mem 339 (by decide +kernel) (by decide +kernel)
theorem smw_337 : (Cond.instanceMethod smy_V_firstPoint) ∈ mm_all := mm_mem 337 (by decide +kernel) (by decide +kernel)
theorem smw_338 : (Cond.selects "SwitchedModules$Version" smy_V_firstPoint smy_V_firstPoint) ∈ mm_all := mm_mem 338 (by decide +kernel) (by decide +kernel)
theorem smv_V_firstPoint : mm_cV smM_V_firstPoint 2 3 := ⟨⟨smw_339, smw_44, by decide +kernel, by decide +kernel, by decide +kernel⟩, smw_337, smw_338, smF_V, 6, rfl⟩
theorem smw_336 : (Cond.methodLink "SwitchedModules" 194 smy_V_firstPoint) ∈ mm_all := mm_mem 336 (by decide +kernel) (by decide +kernel)
theorem smw_393 : (Cond.code smy_S_moveFrames prog_1_method_32_code 3 none) ∈ mm_all := mm_mem 393 (by decide +kernel) (by decide +kernel)
theorem smw_392 : (Cond.instanceMethod smy_S_moveFrames) ∈ mm_all := mm_mem 392 (by decide +kernel) (by decide +kernel)
theorem smw_10 : (Cond.selects "SwitchedModules" smy_S_moveFrames smy_S_moveFrames) ∈ mm_all := mm_mem 10 (by decide +kernel) (by decide +kernel)
theorem smv_S_moveFrames : mm_cV smM_S_moveFrames 0 4 := ⟨⟨smw_393, smw_43, by decide +kernel, by decide +kernel, by decide +kernel⟩, smw_392, smw_10, smF_S, 9, rfl⟩
theorem smw_390 : (Cond.methodLink "SwitchedModules" 197 smy_S_moveFrames) ∈ mm_all := mm_mem 390 (by decide +kernel) (by decide +kernel)
theorem smw_351 : (Cond.code smy_H_unmarkAll prog_2_method_7_code 2 none) ∈ mm_all := mm_mem 351 (by decide +kernel) (by decide +kernel)
theorem smw_349 : (Cond.instanceMethod smy_H_unmarkAll) ∈ mm_all := mm_mem 349 (by decide +kernel) (by decide +kernel)
theorem smw_350 : (Cond.selects "SwitchedModules$Heap" smy_H_unmarkAll smy_H_unmarkAll) ∈ mm_all := mm_mem 350 (by decide +kernel) (by decide +kernel)
theorem smv_H_unmarkAll : mm_cV smM_H_unmarkAll 0 0 := ⟨⟨smw_351, smw_46, by decide +kernel, by decide +kernel, by decide +kernel⟩, smw_349, smw_350, smF_H, 6, rfl⟩
theorem smw_348 : (Cond.methodLink "SwitchedModules" 200 smy_H_unmarkAll) ∈ mm_all := mm_mem 348 (by decide +kernel) (by decide +kernel)
theorem smw_355 : (Cond.code smy_H_mark prog_2_method_8_code 2 none) ∈ mm_all := mm_mem 355 (by decide +kernel) (by decide +kernel)
theorem smw_353 : (Cond.instanceMethod smy_H_mark) ∈ mm_all := mm_mem 353 (by decide +kernel) (by decide +kernel)
theorem smw_354 : (Cond.selects "SwitchedModules$Heap" smy_H_mark smy_H_mark) ∈ mm_all := mm_mem 354 (by decide +kernel) (by decide +kernel)
theorem smv_H_mark : mm_cV smM_H_mark 1 0 := ⟨⟨smw_355, smw_46, by decide +kernel, by decide +kernel, by decide +kernel⟩, smw_353, smw_354, smF_H, 6, rfl⟩
theorem smw_352 : (Cond.methodLink "SwitchedModules" 203 smy_H_mark) ∈ mm_all := mm_mem 352 (by decide +kernel) (by decide +kernel)
theorem smw_363 : (Cond.code smy_H_markFromMarked prog_2_method_9_code 3 none) ∈ mm_all := mm_mem 363 (by decide +kernel) (by decide +kernel)
theorem smw_361 : (Cond.instanceMethod smy_H_markFromMarked) ∈ mm_all := mm_mem 361 (by decide +kernel) (by decide +kernel)
theorem smw_362 : (Cond.selects "SwitchedModules$Heap" smy_H_markFromMarked smy_H_markFromMarked) ∈ mm_all := mm_mem 362 (by decide +kernel) (by decide +kernel)
theorem smv_H_markFromMarked : mm_cV smM_H_markFromMarked 0 0 := ⟨⟨smw_363, smw_46, by decide +kernel, by decide +kernel, by decide +kernel⟩, smw_361, smw_362, smF_H, 6, rfl⟩
theorem smw_360 : (Cond.methodLink "SwitchedModules" 206 smy_H_markFromMarked) ∈ mm_all := mm_mem 360 (by decide +kernel) (by decide +kernel)
theorem smw_368 : (Cond.code smy_H_dropUnmarked prog_2_method_10_code 3 (some .int)) ∈ mm_all := mm_mem 368 (by decide +kernel) (by decide +kernel)
theorem smw_366 : (Cond.instanceMethod smy_H_dropUnmarked) ∈ mm_all := mm_mem 366 (by decide +kernel) (by decide +kernel)
theorem smw_367 : (Cond.selects "SwitchedModules$Heap" smy_H_dropUnmarked smy_H_dropUnmarked) ∈ mm_all := mm_mem 367 (by decide +kernel) (by decide +kernel)
theorem smv_H_dropUnmarked : mm_cV smM_H_dropUnmarked 0 0 := ⟨⟨smw_368, smw_46, by decide +kernel, by decide +kernel, by decide +kernel⟩, smw_366, smw_367, smF_H, 6, rfl⟩
theorem smw_365 : (Cond.methodLink "SwitchedModules" 209 smy_H_dropUnmarked) ∈ mm_all := mm_mem 365 (by decide +kernel) (by decide +kernel)
theorem smw_426 : (Cond.code smy_T_local prog_4_method_2_code 2 (some .int)) ∈ mm_all := mm_mem 426 (by decide +kernel) (by decide +kernel)
theorem smw_424 : (Cond.instanceMethod smy_T_local) ∈ mm_all := mm_mem 424 (by decide +kernel) (by decide +kernel)
theorem smw_425 : (Cond.selects "SwitchedModules$Task" smy_T_local smy_T_local) ∈ mm_all := mm_mem 425 (by decide +kernel) (by decide +kernel)
theorem smv_T_local : mm_cV smM_T_local 1 2 := ⟨⟨smw_426, smw_47, by decide +kernel, by decide +kernel, by decide +kernel⟩, smw_424, smw_425, smF_T, 9, rfl⟩
theorem smw_423 : (Cond.methodLink "SwitchedModules" 218 smy_T_local) ∈ mm_all := mm_mem 423 (by decide +kernel) (by decide +kernel)
theorem smw_430 : (Cond.code smy_T_giveBack prog_4_method_5_code 2 none) ∈ mm_all := mm_mem 430 (by decide +kernel) (by decide +kernel)
theorem smw_428 : (Cond.instanceMethod smy_T_giveBack) ∈ mm_all := mm_mem 428 (by decide +kernel) (by decide +kernel)
theorem smw_429 : (Cond.selects "SwitchedModules$Task" smy_T_giveBack smy_T_giveBack) ∈ mm_all := mm_mem 429 (by decide +kernel) (by decide +kernel)
theorem smv_T_giveBack : mm_cV smM_T_giveBack 1 2 := ⟨⟨smw_430, smw_47, by decide +kernel, by decide +kernel, by decide +kernel⟩, smw_428, smw_429, smF_T, 9, rfl⟩
theorem smw_427 : (Cond.methodLink "SwitchedModules" 221 smy_T_giveBack) ∈ mm_all := mm_mem 427 (by decide +kernel) (by decide +kernel)
theorem smw_410 : (Cond.code smy_T_setLocal prog_4_method_3_code 3 none) ∈ mm_all := mm_mem 410 (by decide +kernel) (by decide +kernel)
theorem smw_408 : (Cond.instanceMethod smy_T_setLocal) ∈ mm_all := mm_mem 408 (by decide +kernel) (by decide +kernel)
theorem smw_409 : (Cond.selects "SwitchedModules$Task" smy_T_setLocal smy_T_setLocal) ∈ mm_all := mm_mem 409 (by decide +kernel) (by decide +kernel)
theorem smv_T_setLocal : mm_cV smM_T_setLocal 2 2 := ⟨⟨smw_410, smw_47, by decide +kernel, by decide +kernel, by decide +kernel⟩, smw_408, smw_409, smF_T, 9, rfl⟩
theorem smw_431 : (Cond.methodLink "SwitchedModules" 224 smy_T_setLocal) ∈ mm_all := mm_mem 431 (by decide +kernel) (by decide +kernel)
theorem smw_434 : (Cond.code smy_S_call prog_1_method_35_code 4 none) ∈ mm_all := mm_mem 434 (by decide +kernel) (by decide +kernel)
theorem smw_433 : (Cond.static smy_S_call) ∈ mm_all := mm_mem 433 (by decide +kernel) (by decide +kernel)
theorem smv_S_call : mm_cS smM_S_call 4 := ⟨⟨smw_434, smw_43, by decide +kernel, by decide +kernel, by decide +kernel⟩, smw_433⟩
theorem smw_432 : (Cond.methodLink "SwitchedModules" 228 smy_S_call) ∈ mm_all := mm_mem 432 (by decide +kernel) (by decide +kernel)
theorem smw_442 : (Cond.code smy_S_makeObject prog_1_method_36_code 5 none) ∈ mm_all := mm_mem 442 (by decide +kernel) (by decide +kernel)
theorem smw_441 : (Cond.instanceMethod smy_S_makeObject) ∈ mm_all := mm_mem 441 (by decide +kernel) (by decide +kernel)
theorem smw_13 : (Cond.selects "SwitchedModules" smy_S_makeObject smy_S_makeObject) ∈ mm_all := mm_mem 13 (by decide +kernel) (by decide +kernel)
theorem smv_S_makeObject : mm_cV smM_S_makeObject 3 4 := ⟨⟨smw_442, smw_43, by decide +kernel, by decide +kernel, by decide +kernel⟩, smw_441, smw_13, smF_S, 9, rfl⟩
theorem smw_439 : (Cond.methodLink "SwitchedModules" 232 smy_S_makeObject) ∈ mm_all := mm_mem 439 (by decide +kernel) (by decide +kernel)
theorem smw_454 : (Cond.code smy_S_get prog_1_method_37_code 6 none) ∈ mm_all := mm_mem 454 (by decide +kernel) (by decide +kernel)
theorem smw_453 : (Cond.instanceMethod smy_S_get) ∈ mm_all := mm_mem 453 (by decide +kernel) (by decide +kernel)
theorem smw_14 : (Cond.selects "SwitchedModules" smy_S_get smy_S_get) ∈ mm_all := mm_mem 14 (by decide +kernel) (by decide +kernel)
theorem smv_S_get : mm_cV smM_S_get 4 4 := ⟨⟨smw_454, smw_43, by decide +kernel, by decide +kernel, by decide +kernel⟩, smw_453, smw_14, smF_S, 9, rfl⟩
theorem smw_451 : (Cond.methodLink "SwitchedModules" 236 smy_S_get) ∈ mm_all := mm_mem 451 (by decide +kernel) (by decide +kernel)
theorem smw_462 : (Cond.code smy_S_put prog_1_method_38_code 6 none) ∈ mm_all := mm_mem 462 (by decide +kernel) (by decide +kernel)
theorem smw_461 : (Cond.instanceMethod smy_S_put) ∈ mm_all := mm_mem 461 (by decide +kernel) (by decide +kernel)
theorem smw_15 : (Cond.selects "SwitchedModules" smy_S_put smy_S_put) ∈ mm_all := mm_mem 15 (by decide +kernel) (by decide +kernel)
theorem smv_S_put : mm_cV smM_S_put 4 4 := ⟨⟨smw_462, smw_43, by decide +kernel, by decide +kernel, by decide +kernel⟩, smw_461, smw_15, smF_S, 9, rfl⟩
theorem smw_459 : (Cond.methodLink "SwitchedModules" 239 smy_S_put) ∈ mm_all := mm_mem 459 (by decide +kernel) (by decide +kernel)
theorem smw_466 : (Cond.code smy_T_takeOldest prog_4_method_8_code 3 (some .int)) ∈ mm_all := mm_mem 466 (by decide +kernel) (by decide +kernel)
theorem smw_464 : (Cond.instanceMethod smy_T_takeOldest) ∈ mm_all := mm_mem 464 (by decide +kernel) (by decide +kernel)
theorem smw_465 : (Cond.selects "SwitchedModules$Task" smy_T_takeOldest smy_T_takeOldest) ∈ mm_all := mm_mem 465 (by decide +kernel) (by decide +kernel)
theorem smv_T_takeOldest : mm_cV smM_T_takeOldest 0 2 := ⟨⟨smw_466, smw_47, by decide +kernel, by decide +kernel, by decide +kernel⟩, smw_464, smw_465, smF_T, 9, rfl⟩
theorem smw_463 : (Cond.methodLink "SwitchedModules" 242 smy_T_takeOldest) ∈ mm_all := mm_mem 463 (by decide +kernel) (by decide +kernel)
theorem smw_438 : (Cond.code smy_T_fail prog_4_method_6_code 1 none) ∈ mm_all := mm_mem 438 (by decide +kernel) (by decide +kernel)
theorem smw_436 : (Cond.instanceMethod smy_T_fail) ∈ mm_all := mm_mem 436 (by decide +kernel) (by decide +kernel)
theorem smw_437 : (Cond.selects "SwitchedModules$Task" smy_T_fail smy_T_fail) ∈ mm_all := mm_mem 437 (by decide +kernel) (by decide +kernel)
theorem smv_T_fail : mm_cV smM_T_fail 0 2 := ⟨⟨smw_438, smw_47, by decide +kernel, by decide +kernel, by decide +kernel⟩, smw_436, smw_437, smF_T, 9, rfl⟩
theorem smw_435 : (Cond.methodLink "SwitchedModules" 245 smy_T_fail) ∈ mm_all := mm_mem 435 (by decide +kernel) (by decide +kernel)
theorem smw_446 : (Cond.code smy_H_leastFree prog_2_method_4_code 2 (some .int)) ∈ mm_all := mm_mem 446 (by decide +kernel) (by decide +kernel)
theorem smw_444 : (Cond.instanceMethod smy_H_leastFree) ∈ mm_all := mm_mem 444 (by decide +kernel) (by decide +kernel)
theorem smw_445 : (Cond.selects "SwitchedModules$Heap" smy_H_leastFree smy_H_leastFree) ∈ mm_all := mm_mem 445 (by decide +kernel) (by decide +kernel)
theorem smv_H_leastFree : mm_cV smM_H_leastFree 0 0 := ⟨⟨smw_446, smw_46, by decide +kernel, by decide +kernel, by decide +kernel⟩, smw_444, smw_445, smF_H, 6, rfl⟩
theorem smw_443 : (Cond.methodLink "SwitchedModules" 248 smy_H_leastFree) ∈ mm_all := mm_mem 443 (by decide +kernel) (by decide +kernel)
theorem smw_450 : (Cond.code smy_H_begin prog_2_method_5_code 4 none) ∈ mm_all := mm_mem 450 (by decide +kernel) (by decide +kernel)
theorem smw_448 : (Cond.instanceMethod smy_H_begin) ∈ mm_all := mm_mem 448 (by decide +kernel) (by decide +kernel)
theorem smw_449 : (Cond.selects "SwitchedModules$Heap" smy_H_begin smy_H_begin) ∈ mm_all := mm_mem 449 (by decide +kernel) (by decide +kernel)
theorem smv_H_begin : mm_cV smM_H_begin 2 0 := ⟨⟨smw_450, smw_46, by decide +kernel, by decide +kernel, by decide +kernel⟩, smw_448, smw_449, smF_H, 6, rfl⟩
theorem smw_447 : (Cond.methodLink "SwitchedModules" 251 smy_H_begin) ∈ mm_all := mm_mem 447 (by decide +kernel) (by decide +kernel)
theorem smw_458 : (Cond.code smy_H_cellOf prog_2_method_6_code 3 (some .int)) ∈ mm_all := mm_mem 458 (by decide +kernel) (by decide +kernel)
theorem smw_456 : (Cond.instanceMethod smy_H_cellOf) ∈ mm_all := mm_mem 456 (by decide +kernel) (by decide +kernel)
theorem smw_457 : (Cond.selects "SwitchedModules$Heap" smy_H_cellOf smy_H_cellOf) ∈ mm_all := mm_mem 457 (by decide +kernel) (by decide +kernel)
theorem smv_H_cellOf : mm_cV smM_H_cellOf 2 0 := ⟨⟨smw_458, smw_46, by decide +kernel, by decide +kernel, by decide +kernel⟩, smw_456, smw_457, smF_H, 6, rfl⟩
theorem smw_455 : (Cond.methodLink "SwitchedModules" 254 smy_H_cellOf) ∈ mm_all := mm_mem 455 (by decide +kernel) (by decide +kernel)
theorem smw_586 : (Cond.code smy_M_isProcedure prog_7_method_2_code 1 (some .boolean)) ∈ mm_all := mm_mem 586 (by decide +kernel) (by decide +kernel)
theorem smw_48 : (Cond.initialized "SwitchedModulesModel") ∈ mm_all := mm_mem 48 (by decide +kernel) (by decide +kernel)
theorem smw_585 : (Cond.static smy_M_isProcedure) ∈ mm_all := mm_mem 585 (by decide +kernel) (by decide +kernel)
theorem smv_M_isProcedure : mm_cS smM_M_isProcedure 1 := ⟨⟨smw_586, smw_48, by decide +kernel, by decide +kernel, by decide +kernel⟩, smw_585⟩
theorem smw_584 : (Cond.methodLink "SwitchedModulesModel" 59 smy_M_isProcedure) ∈ mm_all := mm_mem 584 (by decide +kernel) (by decide +kernel)
theorem smw_597 : (Cond.code smy_M_isType prog_7_method_3_code 1 (some .boolean)) ∈ mm_all := mm_mem 597 (by decide +kernel) (by decide +kernel)
theorem smw_596 : (Cond.static smy_M_isType) ∈ mm_all := mm_mem 596 (by decide +kernel) (by decide +kernel)
theorem smv_M_isType : mm_cS smM_M_isType 1 := ⟨⟨smw_597, smw_48, by decide +kernel, by decide +kernel, by decide +kernel⟩, smw_596⟩
theorem smw_595 : (Cond.methodLink "SwitchedModulesModel" 67 smy_M_isType) ∈ mm_all := mm_mem 595 (by decide +kernel) (by decide +kernel)
theorem smw_601 : (Cond.code smy_M_clearRules prog_7_method_7_code 3 none) ∈ mm_all := mm_mem 601 (by decide +kernel) (by decide +kernel)
theorem smw_600 : (Cond.instanceMethod smy_M_clearRules) ∈ mm_all := mm_mem 600 (by decide +kernel) (by decide +kernel)
theorem smw_16 : (Cond.selects "SwitchedModulesModel" smy_M_clearRules smy_M_clearRules) ∈ mm_all := mm_mem 16 (by decide +kernel) (by decide +kernel)
theorem smv_M_clearRules : mm_cV smM_M_clearRules 1 5 := ⟨⟨smw_601, smw_48, by decide +kernel, by decide +kernel, by decide +kernel⟩, smw_600, smw_16, smF_M, 19, rfl⟩
theorem smw_598 : (Cond.methodLink "SwitchedModulesModel" 70 smy_M_clearRules) ∈ mm_all := mm_mem 598 (by decide +kernel) (by decide +kernel)
theorem smw_613 : (Cond.code smy_M_settle prog_7_method_10_code 2 none) ∈ mm_all := mm_mem 613 (by decide +kernel) (by decide +kernel)
theorem smw_612 : (Cond.instanceMethod smy_M_settle) ∈ mm_all := mm_mem 612 (by decide +kernel) (by decide +kernel)
theorem smw_17 : (Cond.selects "SwitchedModulesModel" smy_M_settle smy_M_settle) ∈ mm_all := mm_mem 17 (by decide +kernel) (by decide +kernel)
theorem smv_M_settle : mm_cV smM_M_settle 0 5 := ⟨⟨smw_613, smw_48, by decide +kernel, by decide +kernel, by decide +kernel⟩, smw_612, smw_17, smF_M, 19, rfl⟩
theorem smw_610 : (Cond.methodLink "SwitchedModulesModel" 74 smy_M_settle) ∈ mm_all := mm_mem 610 (by decide +kernel) (by decide +kernel)
theorem smw_624 : (Cond.code smy_M_isLocal prog_7_method_4_code 1 (some .boolean)) ∈ mm_all := mm_mem 624 (by decide +kernel) (by decide +kernel)
theorem smw_623 : (Cond.static smy_M_isLocal) ∈ mm_all := mm_mem 623 (by decide +kernel) (by decide +kernel)
theorem smv_M_isLocal : mm_cS smM_M_isLocal 1 := ⟨⟨smw_624, smw_48, by decide +kernel, by decide +kernel, by decide +kernel⟩, smw_623⟩
theorem smw_622 : (Cond.methodLink "SwitchedModulesModel" 77 smy_M_isLocal) ∈ mm_all := mm_mem 622 (by decide +kernel) (by decide +kernel)
theorem smw_628 : (Cond.code smy_M_isField prog_7_method_12_code 2 (some .boolean)) ∈ mm_all := mm_mem 628 (by decide +kernel) (by decide +kernel)
theorem smw_627 : (Cond.instanceMethod smy_M_isField) ∈ mm_all := mm_mem 627 (by decide +kernel) (by decide +kernel)
theorem smw_19 : (Cond.selects "SwitchedModulesModel" smy_M_isField smy_M_isField) ∈ mm_all := mm_mem 19 (by decide +kernel) (by decide +kernel)
theorem smv_M_isField : mm_cV smM_M_isField 1 5 := ⟨⟨smw_628, smw_48, by decide +kernel, by decide +kernel, by decide +kernel⟩, smw_627, smw_19, smF_M, 19, rfl⟩
theorem smw_625 : (Cond.methodLink "SwitchedModulesModel" 80 smy_M_isField) ∈ mm_all := mm_mem 625 (by decide +kernel) (by decide +kernel)
theorem smw_621 : (Cond.code smy_M_isRight prog_7_method_13_code 8 (some .boolean)) ∈ mm_all := mm_mem 621 (by decide +kernel) (by decide +kernel)
theorem smw_620 : (Cond.instanceMethod smy_M_isRight) ∈ mm_all := mm_mem 620 (by decide +kernel) (by decide +kernel)
theorem smw_18 : (Cond.selects "SwitchedModulesModel" smy_M_isRight smy_M_isRight) ∈ mm_all := mm_mem 18 (by decide +kernel) (by decide +kernel)
theorem smv_M_isRight : mm_cV smM_M_isRight 2 5 := ⟨⟨smw_621, smw_48, by decide +kernel, by decide +kernel, by decide +kernel⟩, smw_620, smw_18, smF_M, 19, rfl⟩
theorem smw_618 : (Cond.methodLink "SwitchedModulesModel" 83 smy_M_isRight) ∈ mm_all := mm_mem 618 (by decide +kernel) (by decide +kernel)
theorem smw_644 : (Cond.code smy_M_isOther prog_7_method_16_code 4 (some .boolean)) ∈ mm_all := mm_mem 644 (by decide +kernel) (by decide +kernel)
theorem smw_643 : (Cond.instanceMethod smy_M_isOther) ∈ mm_all := mm_mem 643 (by decide +kernel) (by decide +kernel)
theorem smw_21 : (Cond.selects "SwitchedModulesModel" smy_M_isOther smy_M_isOther) ∈ mm_all := mm_mem 21 (by decide +kernel) (by decide +kernel)
theorem smv_M_isOther : mm_cV smM_M_isOther 1 5 := ⟨⟨smw_644, smw_48, by decide +kernel, by decide +kernel, by decide +kernel⟩, smw_643, smw_21, smF_M, 19, rfl⟩
theorem smw_641 : (Cond.methodLink "SwitchedModulesModel" 87 smy_M_isOther) ∈ mm_all := mm_mem 641 (by decide +kernel) (by decide +kernel)
theorem smw_648 : (Cond.code smy_M_usesTouched prog_7_method_17_code 6 (some .boolean)) ∈ mm_all := mm_mem 648 (by decide +kernel) (by decide +kernel)
theorem smw_647 : (Cond.instanceMethod smy_M_usesTouched) ∈ mm_all := mm_mem 647 (by decide +kernel) (by decide +kernel)
theorem smw_22 : (Cond.selects "SwitchedModulesModel" smy_M_usesTouched smy_M_usesTouched) ∈ mm_all := mm_mem 22 (by decide +kernel) (by decide +kernel)
theorem smv_M_usesTouched : mm_cV smM_M_usesTouched 1 5 := ⟨⟨smw_648, smw_48, by decide +kernel, by decide +kernel, by decide +kernel⟩, smw_647, smw_22, smF_M, 19, rfl⟩
theorem smw_645 : (Cond.methodLink "SwitchedModulesModel" 90 smy_M_usesTouched) ∈ mm_all := mm_mem 645 (by decide +kernel) (by decide +kernel)
theorem smw_640 : (Cond.code smy_M_isChanged prog_7_method_18_code 2 (some .boolean)) ∈ mm_all := mm_mem 640 (by decide +kernel) (by decide +kernel)
theorem smw_639 : (Cond.instanceMethod smy_M_isChanged) ∈ mm_all := mm_mem 639 (by decide +kernel) (by decide +kernel)
theorem smw_20 : (Cond.selects "SwitchedModulesModel" smy_M_isChanged smy_M_isChanged) ∈ mm_all := mm_mem 20 (by decide +kernel) (by decide +kernel)
theorem smv_M_isChanged : mm_cV smM_M_isChanged 1 5 := ⟨⟨smw_640, smw_48, by decide +kernel, by decide +kernel, by decide +kernel⟩, smw_639, smw_20, smF_M, 19, rfl⟩
theorem smw_637 : (Cond.methodLink "SwitchedModulesModel" 93 smy_M_isChanged) ∈ mm_all := mm_mem 637 (by decide +kernel) (by decide +kernel)
theorem smw_659 : (Cond.code smy_M_frameAt prog_7_method_21_code 2 (some .int)) ∈ mm_all := mm_mem 659 (by decide +kernel) (by decide +kernel)
theorem smw_658 : (Cond.static smy_M_frameAt) ∈ mm_all := mm_mem 658 (by decide +kernel) (by decide +kernel)
theorem smv_M_frameAt : mm_cS smM_M_frameAt 2 := ⟨⟨smw_659, smw_48, by decide +kernel, by decide +kernel, by decide +kernel⟩, smw_658⟩
theorem smw_657 : (Cond.methodLink "SwitchedModulesModel" 96 smy_M_frameAt) ∈ mm_all := mm_mem 657 (by decide +kernel) (by decide +kernel)
theorem smw_663 : (Cond.code smy_M_pointOf prog_7_method_20_code 6 (some .int)) ∈ mm_all := mm_mem 663 (by decide +kernel) (by decide +kernel)
theorem smw_662 : (Cond.instanceMethod smy_M_pointOf) ∈ mm_all := mm_mem 662 (by decide +kernel) (by decide +kernel)
theorem smw_24 : (Cond.selects "SwitchedModulesModel" smy_M_pointOf smy_M_pointOf) ∈ mm_all := mm_mem 24 (by decide +kernel) (by decide +kernel)
theorem smv_M_pointOf : mm_cV smM_M_pointOf 2 5 := ⟨⟨smw_663, smw_48, by decide +kernel, by decide +kernel, by decide +kernel⟩, smw_662, smw_24, smF_M, 19, rfl⟩
theorem smw_660 : (Cond.methodLink "SwitchedModulesModel" 100 smy_M_pointOf) ∈ mm_all := mm_mem 660 (by decide +kernel) (by decide +kernel)
theorem smw_656 : (Cond.code smy_M_isInTheWay prog_7_method_22_code 5 (some .boolean)) ∈ mm_all := mm_mem 656 (by decide +kernel) (by decide +kernel)
theorem smw_655 : (Cond.instanceMethod smy_M_isInTheWay) ∈ mm_all := mm_mem 655 (by decide +kernel) (by decide +kernel)
theorem smw_23 : (Cond.selects "SwitchedModulesModel" smy_M_isInTheWay smy_M_isInTheWay) ∈ mm_all := mm_mem 23 (by decide +kernel) (by decide +kernel)
theorem smv_M_isInTheWay : mm_cV smM_M_isInTheWay 2 5 := ⟨⟨smw_656, smw_48, by decide +kernel, by decide +kernel, by decide +kernel⟩, smw_655, smw_23, smF_M, 19, rfl⟩
theorem smw_653 : (Cond.methodLink "SwitchedModulesModel" 107 smy_M_isInTheWay) ∈ mm_all := mm_mem 653 (by decide +kernel) (by decide +kernel)
theorem smw_679 : (Cond.code smy_M_isObject prog_7_method_24_code 2 (some .boolean)) ∈ mm_all := mm_mem 679 (by decide +kernel) (by decide +kernel)
theorem smw_678 : (Cond.instanceMethod smy_M_isObject) ∈ mm_all := mm_mem 678 (by decide +kernel) (by decide +kernel)
theorem smw_27 : (Cond.selects "SwitchedModulesModel" smy_M_isObject smy_M_isObject) ∈ mm_all := mm_mem 27 (by decide +kernel) (by decide +kernel)
theorem smv_M_isObject : mm_cV smM_M_isObject 1 5 := ⟨⟨smw_679, smw_48, by decide +kernel, by decide +kernel, by decide +kernel⟩, smw_678, smw_27, smF_M, 19, rfl⟩
theorem smw_676 : (Cond.methodLink "SwitchedModulesModel" 110 smy_M_isObject) ∈ mm_all := mm_mem 676 (by decide +kernel) (by decide +kernel)
theorem smw_675 : (Cond.code smy_M_mark prog_7_method_25_code 2 none) ∈ mm_all := mm_mem 675 (by decide +kernel) (by decide +kernel)
theorem smw_674 : (Cond.instanceMethod smy_M_mark) ∈ mm_all := mm_mem 674 (by decide +kernel) (by decide +kernel)
theorem smw_26 : (Cond.selects "SwitchedModulesModel" smy_M_mark smy_M_mark) ∈ mm_all := mm_mem 26 (by decide +kernel) (by decide +kernel)
theorem smv_M_mark : mm_cV smM_M_mark 1 5 := ⟨⟨smw_675, smw_48, by decide +kernel, by decide +kernel, by decide +kernel⟩, smw_674, smw_26, smF_M, 19, rfl⟩
theorem smw_672 : (Cond.methodLink "SwitchedModulesModel" 113 smy_M_mark) ∈ mm_all := mm_mem 672 (by decide +kernel) (by decide +kernel)
theorem smw_683 : (Cond.code smy_M_countMarked prog_7_method_26_code 3 (some .int)) ∈ mm_all := mm_mem 683 (by decide +kernel) (by decide +kernel)
theorem smw_682 : (Cond.instanceMethod smy_M_countMarked) ∈ mm_all := mm_mem 682 (by decide +kernel) (by decide +kernel)
theorem smw_28 : (Cond.selects "SwitchedModulesModel" smy_M_countMarked smy_M_countMarked) ∈ mm_all := mm_mem 28 (by decide +kernel) (by decide +kernel)
theorem smv_M_countMarked : mm_cV smM_M_countMarked 0 5 := ⟨⟨smw_683, smw_48, by decide +kernel, by decide +kernel, by decide +kernel⟩, smw_682, smw_28, smF_M, 19, rfl⟩
theorem smw_680 : (Cond.methodLink "SwitchedModulesModel" 116 smy_M_countMarked) ∈ mm_all := mm_mem 680 (by decide +kernel) (by decide +kernel)
theorem smw_671 : (Cond.code smy_M_sweep prog_7_method_27_code 4 (some .int)) ∈ mm_all := mm_mem 671 (by decide +kernel) (by decide +kernel)
theorem smw_670 : (Cond.instanceMethod smy_M_sweep) ∈ mm_all := mm_mem 670 (by decide +kernel) (by decide +kernel)
theorem smw_25 : (Cond.selects "SwitchedModulesModel" smy_M_sweep smy_M_sweep) ∈ mm_all := mm_mem 25 (by decide +kernel) (by decide +kernel)
theorem smv_M_sweep : mm_cV smM_M_sweep 0 5 := ⟨⟨smw_671, smw_48, by decide +kernel, by decide +kernel, by decide +kernel⟩, smw_670, smw_25, smF_M, 19, rfl⟩
theorem smw_668 : (Cond.methodLink "SwitchedModulesModel" 120 smy_M_sweep) ∈ mm_all := mm_mem 668 (by decide +kernel) (by decide +kernel)
theorem smw_756 : (Cond.code smy_M_free prog_7_method_29_code 2 (some .int)) ∈ mm_all := mm_mem 756 (by decide +kernel) (by decide +kernel)
theorem smw_755 : (Cond.instanceMethod smy_M_free) ∈ mm_all := mm_mem 755 (by decide +kernel) (by decide +kernel)
theorem smw_39 : (Cond.selects "SwitchedModulesModel" smy_M_free smy_M_free) ∈ mm_all := mm_mem 39 (by decide +kernel) (by decide +kernel)
theorem smv_M_free : mm_cV smM_M_free 0 5 := ⟨⟨smw_756, smw_48, by decide +kernel, by decide +kernel, by decide +kernel⟩, smw_755, smw_39, smF_M, 19, rfl⟩
theorem smw_753 : (Cond.methodLink "SwitchedModulesModel" 123 smy_M_free) ∈ mm_all := mm_mem 753 (by decide +kernel) (by decide +kernel)
theorem smw_708 : (Cond.code smy_M_isMadeOver prog_7_method_34_code 7 (some .boolean)) ∈ mm_all := mm_mem 708 (by decide +kernel) (by decide +kernel)
theorem smw_707 : (Cond.instanceMethod smy_M_isMadeOver) ∈ mm_all := mm_mem 707 (by decide +kernel) (by decide +kernel)
theorem smw_30 : (Cond.selects "SwitchedModulesModel" smy_M_isMadeOver smy_M_isMadeOver) ∈ mm_all := mm_mem 30 (by decide +kernel) (by decide +kernel)
theorem smv_M_isMadeOver : mm_cV smM_M_isMadeOver 1 5 := ⟨⟨smw_708, smw_48, by decide +kernel, by decide +kernel, by decide +kernel⟩, smw_707, smw_30, smF_M, 19, rfl⟩
theorem smw_705 : (Cond.methodLink "SwitchedModulesModel" 126 smy_M_isMadeOver) ∈ mm_all := mm_mem 705 (by decide +kernel) (by decide +kernel)
theorem smw_652 : (Cond.code smy_M_blocker prog_7_method_23_code 4 (some .int)) ∈ mm_all := mm_mem 652 (by decide +kernel) (by decide +kernel)
theorem smw_650 : (Cond.instanceMethod smy_M_blocker) ∈ mm_all := mm_mem 650 (by decide +kernel) (by decide +kernel)
theorem smw_651 : (Cond.selects "SwitchedModulesModel" smy_M_blocker smy_M_blocker) ∈ mm_all := mm_mem 651 (by decide +kernel) (by decide +kernel)
theorem smv_M_blocker : mm_cV smM_M_blocker 1 5 := ⟨⟨smw_652, smw_48, by decide +kernel, by decide +kernel, by decide +kernel⟩, smw_650, smw_651, smF_M, 19, rfl⟩
theorem smw_700 : (Cond.methodLink "SwitchedModulesModel" 129 smy_M_blocker) ∈ mm_all := mm_mem 700 (by decide +kernel) (by decide +kernel)
theorem smw_704 : (Cond.code smy_M_areMadeOver prog_7_method_35_code 5 (some .boolean)) ∈ mm_all := mm_mem 704 (by decide +kernel) (by decide +kernel)
theorem smw_703 : (Cond.instanceMethod smy_M_areMadeOver) ∈ mm_all := mm_mem 703 (by decide +kernel) (by decide +kernel)
theorem smw_29 : (Cond.selects "SwitchedModulesModel" smy_M_areMadeOver smy_M_areMadeOver) ∈ mm_all := mm_mem 29 (by decide +kernel) (by decide +kernel)
theorem smv_M_areMadeOver : mm_cV smM_M_areMadeOver 1 5 := ⟨⟨smw_704, smw_48, by decide +kernel, by decide +kernel, by decide +kernel⟩, smw_703, smw_29, smF_M, 19, rfl⟩
theorem smw_701 : (Cond.methodLink "SwitchedModulesModel" 133 smy_M_areMadeOver) ∈ mm_all := mm_mem 701 (by decide +kernel) (by decide +kernel)
theorem smw_712 : (Cond.code smy_M_moveFrames prog_7_method_36_code 5 none) ∈ mm_all := mm_mem 712 (by decide +kernel) (by decide +kernel)
theorem smw_711 : (Cond.instanceMethod smy_M_moveFrames) ∈ mm_all := mm_mem 711 (by decide +kernel) (by decide +kernel)
theorem smw_31 : (Cond.selects "SwitchedModulesModel" smy_M_moveFrames smy_M_moveFrames) ∈ mm_all := mm_mem 31 (by decide +kernel) (by decide +kernel)
theorem smv_M_moveFrames : mm_cV smM_M_moveFrames 0 5 := ⟨⟨smw_712, smw_48, by decide +kernel, by decide +kernel, by decide +kernel⟩, smw_711, smw_31, smF_M, 19, rfl⟩
theorem smw_709 : (Cond.methodLink "SwitchedModulesModel" 136 smy_M_moveFrames) ∈ mm_all := mm_mem 709 (by decide +kernel) (by decide +kernel)
theorem smw_724 : (Cond.code smy_M_push prog_7_method_40_code 6 none) ∈ mm_all := mm_mem 724 (by decide +kernel) (by decide +kernel)
theorem smw_723 : (Cond.instanceMethod smy_M_push) ∈ mm_all := mm_mem 723 (by decide +kernel) (by decide +kernel)
theorem smw_32 : (Cond.selects "SwitchedModulesModel" smy_M_push smy_M_push) ∈ mm_all := mm_mem 32 (by decide +kernel) (by decide +kernel)
theorem smv_M_push : mm_cV smM_M_push 4 5 := ⟨⟨smw_724, smw_48, by decide +kernel, by decide +kernel, by decide +kernel⟩, smw_723, smw_32, smF_M, 19, rfl⟩
theorem smw_721 : (Cond.methodLink "SwitchedModulesModel" 142 smy_M_push) ∈ mm_all := mm_mem 721 (by decide +kernel) (by decide +kernel)
theorem smw_740 : (Cond.code smy_M_giveBack prog_7_method_43_code 4 (some .int)) ∈ mm_all := mm_mem 740 (by decide +kernel) (by decide +kernel)
theorem smw_739 : (Cond.instanceMethod smy_M_giveBack) ∈ mm_all := mm_mem 739 (by decide +kernel) (by decide +kernel)
theorem smw_35 : (Cond.selects "SwitchedModulesModel" smy_M_giveBack smy_M_giveBack) ∈ mm_all := mm_mem 35 (by decide +kernel) (by decide +kernel)
theorem smv_M_giveBack : mm_cV smM_M_giveBack 2 5 := ⟨⟨smw_740, smw_48, by decide +kernel, by decide +kernel, by decide +kernel⟩, smw_739, smw_35, smF_M, 19, rfl⟩
theorem smw_737 : (Cond.methodLink "SwitchedModulesModel" 146 smy_M_giveBack) ∈ mm_all := mm_mem 737 (by decide +kernel) (by decide +kernel)
theorem smw_744 : (Cond.code smy_M_fault prog_7_method_42_code 2 (some .int)) ∈ mm_all := mm_mem 744 (by decide +kernel) (by decide +kernel)
theorem smw_743 : (Cond.instanceMethod smy_M_fault) ∈ mm_all := mm_mem 743 (by decide +kernel) (by decide +kernel)
theorem smw_36 : (Cond.selects "SwitchedModulesModel" smy_M_fault smy_M_fault) ∈ mm_all := mm_mem 36 (by decide +kernel) (by decide +kernel)
theorem smv_M_fault : mm_cV smM_M_fault 1 5 := ⟨⟨smw_744, smw_48, by decide +kernel, by decide +kernel, by decide +kernel⟩, smw_743, smw_36, smF_M, 19, rfl⟩
theorem smw_741 : (Cond.methodLink "SwitchedModulesModel" 149 smy_M_fault) ∈ mm_all := mm_mem 741 (by decide +kernel) (by decide +kernel)
theorem smw_748 : (Cond.code smy_M_create prog_7_method_46_code 5 (some .int)) ∈ mm_all := mm_mem 748 (by decide +kernel) (by decide +kernel)
theorem smw_747 : (Cond.instanceMethod smy_M_create) ∈ mm_all := mm_mem 747 (by decide +kernel) (by decide +kernel)
theorem smw_37 : (Cond.selects "SwitchedModulesModel" smy_M_create smy_M_create) ∈ mm_all := mm_mem 37 (by decide +kernel) (by decide +kernel)
theorem smv_M_create : mm_cV smM_M_create 3 5 := ⟨⟨smw_748, smw_48, by decide +kernel, by decide +kernel, by decide +kernel⟩, smw_747, smw_37, smF_M, 19, rfl⟩
theorem smw_745 : (Cond.methodLink "SwitchedModulesModel" 152 smy_M_create) ∈ mm_all := mm_mem 745 (by decide +kernel) (by decide +kernel)
theorem smw_760 : (Cond.code smy_M_access prog_7_method_47_code 8 (some .int)) ∈ mm_all := mm_mem 760 (by decide +kernel) (by decide +kernel)
theorem smw_759 : (Cond.instanceMethod smy_M_access) ∈ mm_all := mm_mem 759 (by decide +kernel) (by decide +kernel)
theorem smw_40 : (Cond.selects "SwitchedModulesModel" smy_M_access smy_M_access) ∈ mm_all := mm_mem 40 (by decide +kernel) (by decide +kernel)
theorem smv_M_access : mm_cV smM_M_access 6 5 := ⟨⟨smw_760, smw_48, by decide +kernel, by decide +kernel, by decide +kernel⟩, smw_759, smw_40, smF_M, 19, rfl⟩
theorem smw_757 : (Cond.methodLink "SwitchedModulesModel" 156 smy_M_access) ∈ mm_all := mm_mem 757 (by decide +kernel) (by decide +kernel)
theorem smw_764 : (Cond.code smy_M_take prog_7_method_44_code 4 (some .int)) ∈ mm_all := mm_mem 764 (by decide +kernel) (by decide +kernel)
theorem smw_763 : (Cond.instanceMethod smy_M_take) ∈ mm_all := mm_mem 763 (by decide +kernel) (by decide +kernel)
theorem smw_41 : (Cond.selects "SwitchedModulesModel" smy_M_take smy_M_take) ∈ mm_all := mm_mem 41 (by decide +kernel) (by decide +kernel)
theorem smv_M_take : mm_cV smM_M_take 1 5 := ⟨⟨smw_764, smw_48, by decide +kernel, by decide +kernel, by decide +kernel⟩, smw_763, smw_41, smF_M, 19, rfl⟩
theorem smw_761 : (Cond.methodLink "SwitchedModulesModel" 160 smy_M_take) ∈ mm_all := mm_mem 761 (by decide +kernel) (by decide +kernel)
theorem smw_752 : (Cond.code smy_M_make prog_7_method_30_code 4 (some .int)) ∈ mm_all := mm_mem 752 (by decide +kernel) (by decide +kernel)
theorem smw_751 : (Cond.instanceMethod smy_M_make) ∈ mm_all := mm_mem 751 (by decide +kernel) (by decide +kernel)
theorem smw_38 : (Cond.selects "SwitchedModulesModel" smy_M_make smy_M_make) ∈ mm_all := mm_mem 38 (by decide +kernel) (by decide +kernel)
theorem smv_M_make : mm_cV smM_M_make 1 5 := ⟨⟨smw_752, smw_48, by decide +kernel, by decide +kernel, by decide +kernel⟩, smw_751, smw_38, smF_M, 19, rfl⟩
theorem smw_749 : (Cond.methodLink "SwitchedModulesModel" 163 smy_M_make) ∈ mm_all := mm_mem 749 (by decide +kernel) (by decide +kernel)
theorem smw_732 : (Cond.code smy_M_isTask prog_7_method_39_code 2 (some .boolean)) ∈ mm_all := mm_mem 732 (by decide +kernel) (by decide +kernel)
theorem smw_731 : (Cond.instanceMethod smy_M_isTask) ∈ mm_all := mm_mem 731 (by decide +kernel) (by decide +kernel)
theorem smw_33 : (Cond.selects "SwitchedModulesModel" smy_M_isTask smy_M_isTask) ∈ mm_all := mm_mem 33 (by decide +kernel) (by decide +kernel)
theorem smv_M_isTask : mm_cV smM_M_isTask 1 5 := ⟨⟨smw_732, smw_48, by decide +kernel, by decide +kernel, by decide +kernel⟩, smw_731, smw_33, smF_M, 19, rfl⟩
theorem smw_729 : (Cond.methodLink "SwitchedModulesModel" 166 smy_M_isTask) ∈ mm_all := mm_mem 729 (by decide +kernel) (by decide +kernel)
theorem smw_736 : (Cond.code smy_M_act prog_7_method_45_code 9 (some .int)) ∈ mm_all := mm_mem 736 (by decide +kernel) (by decide +kernel)
theorem smw_735 : (Cond.instanceMethod smy_M_act) ∈ mm_all := mm_mem 735 (by decide +kernel) (by decide +kernel)
theorem smw_34 : (Cond.selects "SwitchedModulesModel" smy_M_act smy_M_act) ∈ mm_all := mm_mem 34 (by decide +kernel) (by decide +kernel)
theorem smv_M_act : mm_cV smM_M_act 1 5 := ⟨⟨smw_736, smw_48, by decide +kernel, by decide +kernel, by decide +kernel⟩, smw_735, smw_34, smF_M, 19, rfl⟩
theorem smw_733 : (Cond.methodLink "SwitchedModulesModel" 169 smy_M_act) ∈ mm_all := mm_mem 733 (by decide +kernel) (by decide +kernel)
theorem smw_356 : (Cond.methodLink "SwitchedModules$Heap" 28 smy_H_has) ∈ mm_all := mm_mem 356 (by decide +kernel) (by decide +kernel)
theorem smw_364 : (Cond.methodLink "SwitchedModules$Heap" 36 smy_H_mark) ∈ mm_all := mm_mem 364 (by decide +kernel) (by decide +kernel)
theorem smw_373 : (Cond.methodLink "SwitchedModules$Heap" 40 arraycopyName) ∈ mm_all := mm_mem 373 (by decide +kernel) (by decide +kernel)
theorem smw_260 : (Cond.native arraycopyName) ∈ mm_all := mm_mem 260 (by decide +kernel) (by decide +kernel)
theorem smw_259 : (Cond.static arraycopyName) ∈ mm_all := mm_mem 259 (by decide +kernel) (by decide +kernel)
theorem smw_50 : (Cond.initialized "java/lang/System") ∈ mm_all := mm_mem 50 (by decide +kernel) (by decide +kernel)
theorem smc_H_40 : mm_cC "SwitchedModules$Heap" 40 := ⟨smw_373, smw_260, smw_259, smw_50⟩
theorem smw_377 : (Cond.code smy_H_makeOverOne prog_2_method_12_code 6 (some .boolean)) ∈ mm_all := mm_mem 377 (by decide +kernel) (by decide +kernel)
theorem smw_376 : (Cond.instanceMethod smy_H_makeOverOne) ∈ mm_all := mm_mem 376 (by decide +kernel) (by decide +kernel)
theorem smw_8 : (Cond.selects "SwitchedModules$Heap" smy_H_makeOverOne smy_H_makeOverOne) ∈ mm_all := mm_mem 8 (by decide +kernel) (by decide +kernel)
theorem smv_H_makeOverOne : mm_cV smM_H_makeOverOne 2 0 := ⟨⟨smw_377, smw_46, by decide +kernel, by decide +kernel, by decide +kernel⟩, smw_376, smw_8, smF_H, 6, rfl⟩
theorem smw_374 : (Cond.methodLink "SwitchedModules$Heap" 56 smy_H_makeOverOne) ∈ mm_all := mm_mem 374 (by decide +kernel) (by decide +kernel)
theorem smw_381 : (Cond.code smy_R_isFaulty prog_3_method_6_code 4 (some .boolean)) ∈ mm_all := mm_mem 381 (by decide +kernel) (by decide +kernel)
theorem smw_379 : (Cond.instanceMethod smy_R_isFaulty) ∈ mm_all := mm_mem 379 (by decide +kernel) (by decide +kernel)
theorem smw_380 : (Cond.selects "SwitchedModules$Rules" smy_R_isFaulty smy_R_isFaulty) ∈ mm_all := mm_mem 380 (by decide +kernel) (by decide +kernel)
theorem smv_R_isFaulty : mm_cV smM_R_isFaulty 3 1 := ⟨⟨smw_381, smw_45, by decide +kernel, by decide +kernel, by decide +kernel⟩, smw_379, smw_380, smF_R, 4, rfl⟩
theorem smw_378 : (Cond.methodLink "SwitchedModules$Heap" 60 smy_R_isFaulty) ∈ mm_all := mm_mem 378 (by decide +kernel) (by decide +kernel)
theorem smw_385 : (Cond.code smy_R_valueOf prog_3_method_7_code 5 (some .int)) ∈ mm_all := mm_mem 385 (by decide +kernel) (by decide +kernel)
theorem smw_383 : (Cond.instanceMethod smy_R_valueOf) ∈ mm_all := mm_mem 383 (by decide +kernel) (by decide +kernel)
theorem smw_384 : (Cond.selects "SwitchedModules$Rules" smy_R_valueOf smy_R_valueOf) ∈ mm_all := mm_mem 384 (by decide +kernel) (by decide +kernel)
theorem smv_R_valueOf : mm_cV smM_R_valueOf 3 1 := ⟨⟨smw_385, smw_45, by decide +kernel, by decide +kernel, by decide +kernel⟩, smw_383, smw_384, smF_R, 4, rfl⟩
theorem smw_382 : (Cond.methodLink "SwitchedModules$Heap" 64 smy_R_valueOf) ∈ mm_all := mm_mem 382 (by decide +kernel) (by decide +kernel)
theorem smw_241 : (Cond.methodLink "SwitchedModules$Rules" 25 smy_R_write) ∈ mm_all := mm_mem 241 (by decide +kernel) (by decide +kernel)
theorem smw_265 : (Cond.methodLink "SwitchedModules$Rules" 29 smy_R_forgetType) ∈ mm_all := mm_mem 265 (by decide +kernel) (by decide +kernel)
theorem smw_407 : (Cond.methodLink "SwitchedModules$Task" 31 smy_T_setLocal) ∈ mm_all := mm_mem 407 (by decide +kernel) (by decide +kernel)
theorem smw_223 : (Cond.methodLink "SwitchedModules$Version" 34 smy_V_at) ∈ mm_all := mm_mem 223 (by decide +kernel) (by decide +kernel)
theorem smw_226 : (Cond.methodLink "SwitchedModules$Version" 38 Lib.Math.max.name) ∈ mm_all := mm_mem 226 (by decide +kernel) (by decide +kernel)
theorem smx_V_38 : mm_cX "SwitchedModules$Version" 38 := ⟨smw_226, smw_227, smw_49, smw_228⟩
theorem smw_258 : (Cond.methodLink "SwitchedModules$Version" 43 arraycopyName) ∈ mm_all := mm_mem 258 (by decide +kernel) (by decide +kernel)
theorem smc_V_43 : mm_cC "SwitchedModules$Version" 43 := ⟨smw_258, smw_260, smw_259, smw_50⟩
theorem smw_317 : (Cond.code smy_V_typeUsed prog_5_method_8_code 2 (some .int)) ∈ mm_all := mm_mem 317 (by decide +kernel) (by decide +kernel)
theorem smw_316 : (Cond.instanceMethod smy_V_typeUsed) ∈ mm_all := mm_mem 316 (by decide +kernel) (by decide +kernel)
theorem smw_3 : (Cond.selects "SwitchedModules$Version" smy_V_typeUsed smy_V_typeUsed) ∈ mm_all := mm_mem 3 (by decide +kernel) (by decide +kernel)
theorem smv_V_typeUsed : mm_cV smM_V_typeUsed 1 3 := ⟨⟨smw_317, smw_44, by decide +kernel, by decide +kernel, by decide +kernel⟩, smw_316, smw_3, smF_V, 6, rfl⟩
theorem smw_314 : (Cond.methodLink "SwitchedModules$Version" 49 smy_V_typeUsed) ∈ mm_all := mm_mem 314 (by decide +kernel) (by decide +kernel)
theorem smw_277 : (Cond.code smy_V_isRight prog_5_method_11_code 3 (some .boolean)) ∈ mm_all := mm_mem 277 (by decide +kernel) (by decide +kernel)
theorem smw_276 : (Cond.instanceMethod smy_V_isRight) ∈ mm_all := mm_mem 276 (by decide +kernel) (by decide +kernel)
theorem smw_0 : (Cond.selects "SwitchedModules$Version" smy_V_isRight smy_V_isRight) ∈ mm_all := mm_mem 0 (by decide +kernel) (by decide +kernel)
theorem smv_V_isRight : mm_cV smM_V_isRight 2 3 := ⟨⟨smw_277, smw_44, by decide +kernel, by decide +kernel, by decide +kernel⟩, smw_276, smw_0, smF_V, 6, rfl⟩
theorem smw_274 : (Cond.methodLink "SwitchedModules$Version" 53 smy_V_isRight) ∈ mm_all := mm_mem 274 (by decide +kernel) (by decide +kernel)
theorem smw_280 : (Cond.code smy_V_isLocal prog_5_method_12_code 1 (some .boolean)) ∈ mm_all := mm_mem 280 (by decide +kernel) (by decide +kernel)
theorem smw_279 : (Cond.static smy_V_isLocal) ∈ mm_all := mm_mem 279 (by decide +kernel) (by decide +kernel)
theorem smv_V_isLocal : mm_cS smM_V_isLocal 1 := ⟨⟨smw_280, smw_44, by decide +kernel, by decide +kernel, by decide +kernel⟩, smw_279⟩
theorem smw_278 : (Cond.methodLink "SwitchedModules$Version" 56 smy_V_isLocal) ∈ mm_all := mm_mem 278 (by decide +kernel) (by decide +kernel)
theorem smw_282 : (Cond.methodLink "SwitchedModules$Version" 60 smy_V_hasProcedure) ∈ mm_all := mm_mem 282 (by decide +kernel) (by decide +kernel)
theorem smw_289 : (Cond.code smy_V_isFieldOfType prog_5_method_13_code 2 (some .boolean)) ∈ mm_all := mm_mem 289 (by decide +kernel) (by decide +kernel)
theorem smw_288 : (Cond.instanceMethod smy_V_isFieldOfType) ∈ mm_all := mm_mem 288 (by decide +kernel) (by decide +kernel)
theorem smw_1 : (Cond.selects "SwitchedModules$Version" smy_V_isFieldOfType smy_V_isFieldOfType) ∈ mm_all := mm_mem 1 (by decide +kernel) (by decide +kernel)
theorem smv_V_isFieldOfType : mm_cV smM_V_isFieldOfType 1 3 := ⟨⟨smw_289, smw_44, by decide +kernel, by decide +kernel, by decide +kernel⟩, smw_288, smw_1, smF_V, 6, rfl⟩
theorem smw_286 : (Cond.methodLink "SwitchedModules$Version" 63 smy_V_isFieldOfType) ∈ mm_all := mm_mem 286 (by decide +kernel) (by decide +kernel)
theorem smw_215 : (Cond.code smy_S_word prog_1_method_2_code 7 (some .int)) ∈ mm_all := mm_mem 215 (by decide +kernel) (by decide +kernel)
theorem smw_213 : (Cond.instanceMethod smy_S_word) ∈ mm_all := mm_mem 213 (by decide +kernel) (by decide +kernel)
theorem smw_214 : (Cond.selects "SwitchedModules" smy_S_word smy_S_word) ∈ mm_all := mm_mem 214 (by decide +kernel) (by decide +kernel)
theorem smv_S_word : mm_cV smM_S_word 6 4 := ⟨⟨smw_215, smw_43, by decide +kernel, by decide +kernel, by decide +kernel⟩, smw_213, smw_214, smF_S, 9, rfl⟩
theorem smw_212 : (Cond.methodLink "SwitchedModulesLaw" 13 smy_S_word) ∈ mm_all := mm_mem 212 (by decide +kernel) (by decide +kernel)
theorem smw_583 : (Cond.code smy_M_word prog_7_method_5_code 8 (some .int)) ∈ mm_all := mm_mem 583 (by decide +kernel) (by decide +kernel)
theorem smw_581 : (Cond.instanceMethod smy_M_word) ∈ mm_all := mm_mem 581 (by decide +kernel) (by decide +kernel)
theorem smw_582 : (Cond.selects "SwitchedModulesModel" smy_M_word smy_M_word) ∈ mm_all := mm_mem 582 (by decide +kernel) (by decide +kernel)
theorem smv_M_word : mm_cV smM_M_word 6 5 := ⟨⟨smw_583, smw_48, by decide +kernel, by decide +kernel, by decide +kernel⟩, smw_581, smw_582, smF_M, 19, rfl⟩
theorem smw_580 : (Cond.methodLink "SwitchedModulesLaw" 17 smy_M_word) ∈ mm_all := mm_mem 580 (by decide +kernel) (by decide +kernel)
theorem smw_232 : (Cond.code smy_S_cut prog_1_method_3_code 3 (some .boolean)) ∈ mm_all := mm_mem 232 (by decide +kernel) (by decide +kernel)
theorem smw_230 : (Cond.instanceMethod smy_S_cut) ∈ mm_all := mm_mem 230 (by decide +kernel) (by decide +kernel)
theorem smw_231 : (Cond.selects "SwitchedModules" smy_S_cut smy_S_cut) ∈ mm_all := mm_mem 231 (by decide +kernel) (by decide +kernel)
theorem smv_S_cut : mm_cV smM_S_cut 2 4 := ⟨⟨smw_232, smw_43, by decide +kernel, by decide +kernel, by decide +kernel⟩, smw_230, smw_231, smF_S, 9, rfl⟩
theorem smw_229 : (Cond.methodLink "SwitchedModulesLaw" 18 smy_S_cut) ∈ mm_all := mm_mem 229 (by decide +kernel) (by decide +kernel)
theorem smw_590 : (Cond.code smy_M_cut prog_7_method_6_code 3 (some .boolean)) ∈ mm_all := mm_mem 590 (by decide +kernel) (by decide +kernel)
theorem smw_588 : (Cond.instanceMethod smy_M_cut) ∈ mm_all := mm_mem 588 (by decide +kernel) (by decide +kernel)
theorem smw_589 : (Cond.selects "SwitchedModulesModel" smy_M_cut smy_M_cut) ∈ mm_all := mm_mem 589 (by decide +kernel) (by decide +kernel)
theorem smv_M_cut : mm_cV smM_M_cut 2 5 := ⟨⟨smw_590, smw_48, by decide +kernel, by decide +kernel, by decide +kernel⟩, smw_588, smw_589, smF_M, 19, rfl⟩
theorem smw_587 : (Cond.methodLink "SwitchedModulesLaw" 22 smy_M_cut) ∈ mm_all := mm_mem 587 (by decide +kernel) (by decide +kernel)
theorem smw_236 : (Cond.code smy_S_fields prog_1_method_4_code 3 (some .boolean)) ∈ mm_all := mm_mem 236 (by decide +kernel) (by decide +kernel)
theorem smw_234 : (Cond.instanceMethod smy_S_fields) ∈ mm_all := mm_mem 234 (by decide +kernel) (by decide +kernel)
theorem smw_235 : (Cond.selects "SwitchedModules" smy_S_fields smy_S_fields) ∈ mm_all := mm_mem 235 (by decide +kernel) (by decide +kernel)
theorem smv_S_fields : mm_cV smM_S_fields 2 4 := ⟨⟨smw_236, smw_43, by decide +kernel, by decide +kernel, by decide +kernel⟩, smw_234, smw_235, smF_S, 9, rfl⟩
theorem smw_233 : (Cond.methodLink "SwitchedModulesLaw" 23 smy_S_fields) ∈ mm_all := mm_mem 233 (by decide +kernel) (by decide +kernel)
theorem smw_594 : (Cond.code smy_M_fields prog_7_method_8_code 3 (some .boolean)) ∈ mm_all := mm_mem 594 (by decide +kernel) (by decide +kernel)
theorem smw_592 : (Cond.instanceMethod smy_M_fields) ∈ mm_all := mm_mem 592 (by decide +kernel) (by decide +kernel)
theorem smw_593 : (Cond.selects "SwitchedModulesModel" smy_M_fields smy_M_fields) ∈ mm_all := mm_mem 593 (by decide +kernel) (by decide +kernel)
theorem smv_M_fields : mm_cV smM_M_fields 2 5 := ⟨⟨smw_594, smw_48, by decide +kernel, by decide +kernel, by decide +kernel⟩, smw_592, smw_593, smF_M, 19, rfl⟩
theorem smw_591 : (Cond.methodLink "SwitchedModulesLaw" 26 smy_M_fields) ∈ mm_all := mm_mem 591 (by decide +kernel) (by decide +kernel)
theorem smw_248 : (Cond.code smy_S_rule prog_1_method_5_code 6 (some .int)) ∈ mm_all := mm_mem 248 (by decide +kernel) (by decide +kernel)
theorem smw_246 : (Cond.instanceMethod smy_S_rule) ∈ mm_all := mm_mem 246 (by decide +kernel) (by decide +kernel)
theorem smw_247 : (Cond.selects "SwitchedModules" smy_S_rule smy_S_rule) ∈ mm_all := mm_mem 247 (by decide +kernel) (by decide +kernel)
theorem smv_S_rule : mm_cV smM_S_rule 5 4 := ⟨⟨smw_248, smw_43, by decide +kernel, by decide +kernel, by decide +kernel⟩, smw_246, smw_247, smF_S, 9, rfl⟩
theorem smw_245 : (Cond.methodLink "SwitchedModulesLaw" 27 smy_S_rule) ∈ mm_all := mm_mem 245 (by decide +kernel) (by decide +kernel)
theorem smw_605 : (Cond.code smy_M_rule prog_7_method_9_code 6 (some .int)) ∈ mm_all := mm_mem 605 (by decide +kernel) (by decide +kernel)
theorem smw_603 : (Cond.instanceMethod smy_M_rule) ∈ mm_all := mm_mem 603 (by decide +kernel) (by decide +kernel)
theorem smw_604 : (Cond.selects "SwitchedModulesModel" smy_M_rule smy_M_rule) ∈ mm_all := mm_mem 604 (by decide +kernel) (by decide +kernel)
theorem smv_M_rule : mm_cV smM_M_rule 5 5 := ⟨⟨smw_605, smw_48, by decide +kernel, by decide +kernel, by decide +kernel⟩, smw_603, smw_604, smF_M, 19, rfl⟩
theorem smw_602 : (Cond.methodLink "SwitchedModulesLaw" 31 smy_M_rule) ∈ mm_all := mm_mem 602 (by decide +kernel) (by decide +kernel)
theorem smw_253 : (Cond.code smy_S_reset prog_1_method_6_code 1 (some .boolean)) ∈ mm_all := mm_mem 253 (by decide +kernel) (by decide +kernel)
theorem smw_251 : (Cond.instanceMethod smy_S_reset) ∈ mm_all := mm_mem 251 (by decide +kernel) (by decide +kernel)
theorem smw_252 : (Cond.selects "SwitchedModules" smy_S_reset smy_S_reset) ∈ mm_all := mm_mem 252 (by decide +kernel) (by decide +kernel)
theorem smv_S_reset : mm_cV smM_S_reset 0 4 := ⟨⟨smw_253, smw_43, by decide +kernel, by decide +kernel, by decide +kernel⟩, smw_251, smw_252, smF_S, 9, rfl⟩
theorem smw_250 : (Cond.methodLink "SwitchedModulesLaw" 32 smy_S_reset) ∈ mm_all := mm_mem 250 (by decide +kernel) (by decide +kernel)
theorem smw_609 : (Cond.code smy_M_reset prog_7_method_11_code 2 (some .boolean)) ∈ mm_all := mm_mem 609 (by decide +kernel) (by decide +kernel)
theorem smw_607 : (Cond.instanceMethod smy_M_reset) ∈ mm_all := mm_mem 607 (by decide +kernel) (by decide +kernel)
theorem smw_608 : (Cond.selects "SwitchedModulesModel" smy_M_reset smy_M_reset) ∈ mm_all := mm_mem 608 (by decide +kernel) (by decide +kernel)
theorem smv_M_reset : mm_cV smM_M_reset 0 5 := ⟨⟨smw_609, smw_48, by decide +kernel, by decide +kernel, by decide +kernel⟩, smw_607, smw_608, smF_M, 19, rfl⟩
theorem smw_606 : (Cond.methodLink "SwitchedModulesLaw" 36 smy_M_reset) ∈ mm_all := mm_mem 606 (by decide +kernel) (by decide +kernel)
theorem smw_269 : (Cond.code smy_S_stage prog_1_method_7_code 3 (some .int)) ∈ mm_all := mm_mem 269 (by decide +kernel) (by decide +kernel)
theorem smw_267 : (Cond.instanceMethod smy_S_stage) ∈ mm_all := mm_mem 267 (by decide +kernel) (by decide +kernel)
theorem smw_268 : (Cond.selects "SwitchedModules" smy_S_stage smy_S_stage) ∈ mm_all := mm_mem 268 (by decide +kernel) (by decide +kernel)
theorem smv_S_stage : mm_cV smM_S_stage 0 4 := ⟨⟨smw_269, smw_43, by decide +kernel, by decide +kernel, by decide +kernel⟩, smw_267, smw_268, smF_S, 9, rfl⟩
theorem smw_266 : (Cond.methodLink "SwitchedModulesLaw" 37 smy_S_stage) ∈ mm_all := mm_mem 266 (by decide +kernel) (by decide +kernel)
theorem smw_617 : (Cond.code smy_M_stage prog_7_method_14_code 4 (some .int)) ∈ mm_all := mm_mem 617 (by decide +kernel) (by decide +kernel)
theorem smw_615 : (Cond.instanceMethod smy_M_stage) ∈ mm_all := mm_mem 615 (by decide +kernel) (by decide +kernel)
theorem smw_616 : (Cond.selects "SwitchedModulesModel" smy_M_stage smy_M_stage) ∈ mm_all := mm_mem 616 (by decide +kernel) (by decide +kernel)
theorem smv_M_stage : mm_cV smM_M_stage 0 5 := ⟨⟨smw_617, smw_48, by decide +kernel, by decide +kernel, by decide +kernel⟩, smw_615, smw_616, smF_M, 19, rfl⟩
theorem smw_614 : (Cond.methodLink "SwitchedModulesLaw" 41 smy_M_stage) ∈ mm_all := mm_mem 614 (by decide +kernel) (by decide +kernel)
theorem smw_297 : (Cond.code smy_S_withdraw prog_1_method_8_code 2 (some .boolean)) ∈ mm_all := mm_mem 297 (by decide +kernel) (by decide +kernel)
theorem smw_295 : (Cond.instanceMethod smy_S_withdraw) ∈ mm_all := mm_mem 295 (by decide +kernel) (by decide +kernel)
theorem smw_296 : (Cond.selects "SwitchedModules" smy_S_withdraw smy_S_withdraw) ∈ mm_all := mm_mem 296 (by decide +kernel) (by decide +kernel)
theorem smv_S_withdraw : mm_cV smM_S_withdraw 0 4 := ⟨⟨smw_297, smw_43, by decide +kernel, by decide +kernel, by decide +kernel⟩, smw_295, smw_296, smF_S, 9, rfl⟩
theorem smw_294 : (Cond.methodLink "SwitchedModulesLaw" 42 smy_S_withdraw) ∈ mm_all := mm_mem 294 (by decide +kernel) (by decide +kernel)
theorem smw_632 : (Cond.code smy_M_withdraw prog_7_method_15_code 2 (some .boolean)) ∈ mm_all := mm_mem 632 (by decide +kernel) (by decide +kernel)
theorem smw_630 : (Cond.instanceMethod smy_M_withdraw) ∈ mm_all := mm_mem 630 (by decide +kernel) (by decide +kernel)
theorem smw_631 : (Cond.selects "SwitchedModulesModel" smy_M_withdraw smy_M_withdraw) ∈ mm_all := mm_mem 631 (by decide +kernel) (by decide +kernel)
theorem smv_M_withdraw : mm_cV smM_M_withdraw 0 5 := ⟨⟨smw_632, smw_48, by decide +kernel, by decide +kernel, by decide +kernel⟩, smw_630, smw_631, smF_M, 19, rfl⟩
theorem smw_629 : (Cond.methodLink "SwitchedModulesLaw" 45 smy_M_withdraw) ∈ mm_all := mm_mem 629 (by decide +kernel) (by decide +kernel)
theorem smw_301 : (Cond.code smy_S_changed prog_1_method_9_code 2 (some .boolean)) ∈ mm_all := mm_mem 301 (by decide +kernel) (by decide +kernel)
theorem smw_299 : (Cond.instanceMethod smy_S_changed) ∈ mm_all := mm_mem 299 (by decide +kernel) (by decide +kernel)
theorem smw_300 : (Cond.selects "SwitchedModules" smy_S_changed smy_S_changed) ∈ mm_all := mm_mem 300 (by decide +kernel) (by decide +kernel)
theorem smv_S_changed : mm_cV smM_S_changed 1 4 := ⟨⟨smw_301, smw_43, by decide +kernel, by decide +kernel, by decide +kernel⟩, smw_299, smw_300, smF_S, 9, rfl⟩
theorem smw_298 : (Cond.methodLink "SwitchedModulesLaw" 46 smy_S_changed) ∈ mm_all := mm_mem 298 (by decide +kernel) (by decide +kernel)
theorem smw_636 : (Cond.code smy_M_changed prog_7_method_19_code 2 (some .boolean)) ∈ mm_all := mm_mem 636 (by decide +kernel) (by decide +kernel)
theorem smw_634 : (Cond.instanceMethod smy_M_changed) ∈ mm_all := mm_mem 634 (by decide +kernel) (by decide +kernel)
theorem smw_635 : (Cond.selects "SwitchedModulesModel" smy_M_changed smy_M_changed) ∈ mm_all := mm_mem 635 (by decide +kernel) (by decide +kernel)
theorem smv_M_changed : mm_cV smM_M_changed 1 5 := ⟨⟨smw_636, smw_48, by decide +kernel, by decide +kernel, by decide +kernel⟩, smw_634, smw_635, smF_M, 19, rfl⟩
theorem smw_633 : (Cond.methodLink "SwitchedModulesLaw" 50 smy_M_changed) ∈ mm_all := mm_mem 633 (by decide +kernel) (by decide +kernel)
theorem smw_321 : (Cond.code smy_S_blocker prog_1_method_10_code 2 (some .int)) ∈ mm_all := mm_mem 321 (by decide +kernel) (by decide +kernel)
theorem smw_319 : (Cond.instanceMethod smy_S_blocker) ∈ mm_all := mm_mem 319 (by decide +kernel) (by decide +kernel)
theorem smw_320 : (Cond.selects "SwitchedModules" smy_S_blocker smy_S_blocker) ∈ mm_all := mm_mem 320 (by decide +kernel) (by decide +kernel)
theorem smv_S_blocker : mm_cV smM_S_blocker 1 4 := ⟨⟨smw_321, smw_43, by decide +kernel, by decide +kernel, by decide +kernel⟩, smw_319, smw_320, smF_S, 9, rfl⟩
theorem smw_318 : (Cond.methodLink "SwitchedModulesLaw" 51 smy_S_blocker) ∈ mm_all := mm_mem 318 (by decide +kernel) (by decide +kernel)
theorem smw_649 : (Cond.methodLink "SwitchedModulesLaw" 55 smy_M_blocker) ∈ mm_all := mm_mem 649 (by decide +kernel) (by decide +kernel)
theorem smw_343 : (Cond.code smy_S_attempt prog_1_method_11_code 2 (some .int)) ∈ mm_all := mm_mem 343 (by decide +kernel) (by decide +kernel)
theorem smw_341 : (Cond.instanceMethod smy_S_attempt) ∈ mm_all := mm_mem 341 (by decide +kernel) (by decide +kernel)
theorem smw_342 : (Cond.selects "SwitchedModules" smy_S_attempt smy_S_attempt) ∈ mm_all := mm_mem 342 (by decide +kernel) (by decide +kernel)
theorem smv_S_attempt : mm_cV smM_S_attempt 1 4 := ⟨⟨smw_343, smw_43, by decide +kernel, by decide +kernel, by decide +kernel⟩, smw_341, smw_342, smF_S, 9, rfl⟩
theorem smw_340 : (Cond.methodLink "SwitchedModulesLaw" 56 smy_S_attempt) ∈ mm_all := mm_mem 340 (by decide +kernel) (by decide +kernel)
theorem smw_699 : (Cond.code smy_M_attempt prog_7_method_37_code 3 (some .int)) ∈ mm_all := mm_mem 699 (by decide +kernel) (by decide +kernel)
theorem smw_697 : (Cond.instanceMethod smy_M_attempt) ∈ mm_all := mm_mem 697 (by decide +kernel) (by decide +kernel)
theorem smw_698 : (Cond.selects "SwitchedModulesModel" smy_M_attempt smy_M_attempt) ∈ mm_all := mm_mem 698 (by decide +kernel) (by decide +kernel)
theorem smv_M_attempt : mm_cV smM_M_attempt 1 5 := ⟨⟨smw_699, smw_48, by decide +kernel, by decide +kernel, by decide +kernel⟩, smw_697, smw_698, smF_M, 19, rfl⟩
theorem smw_696 : (Cond.methodLink "SwitchedModulesLaw" 59 smy_M_attempt) ∈ mm_all := mm_mem 696 (by decide +kernel) (by decide +kernel)
theorem smw_397 : (Cond.code smy_S_version prog_1_method_12_code 1 (some .int)) ∈ mm_all := mm_mem 397 (by decide +kernel) (by decide +kernel)
theorem smw_395 : (Cond.instanceMethod smy_S_version) ∈ mm_all := mm_mem 395 (by decide +kernel) (by decide +kernel)
theorem smw_396 : (Cond.selects "SwitchedModules" smy_S_version smy_S_version) ∈ mm_all := mm_mem 396 (by decide +kernel) (by decide +kernel)
theorem smv_S_version : mm_cV smM_S_version 0 4 := ⟨⟨smw_397, smw_43, by decide +kernel, by decide +kernel, by decide +kernel⟩, smw_395, smw_396, smF_S, 9, rfl⟩
theorem smw_394 : (Cond.methodLink "SwitchedModulesLaw" 60 smy_S_version) ∈ mm_all := mm_mem 394 (by decide +kernel) (by decide +kernel)
theorem smw_716 : (Cond.code smy_M_version prog_7_method_38_code 1 (some .int)) ∈ mm_all := mm_mem 716 (by decide +kernel) (by decide +kernel)
theorem smw_714 : (Cond.instanceMethod smy_M_version) ∈ mm_all := mm_mem 714 (by decide +kernel) (by decide +kernel)
theorem smw_715 : (Cond.selects "SwitchedModulesModel" smy_M_version smy_M_version) ∈ mm_all := mm_mem 715 (by decide +kernel) (by decide +kernel)
theorem smv_M_version : mm_cV smM_M_version 0 5 := ⟨⟨smw_716, smw_48, by decide +kernel, by decide +kernel, by decide +kernel⟩, smw_714, smw_715, smF_M, 19, rfl⟩
theorem smw_713 : (Cond.methodLink "SwitchedModulesLaw" 63 smy_M_version) ∈ mm_all := mm_mem 713 (by decide +kernel) (by decide +kernel)
theorem smw_401 : (Cond.code smy_S_spawn prog_1_method_13_code 3 (some .int)) ∈ mm_all := mm_mem 401 (by decide +kernel) (by decide +kernel)
theorem smw_399 : (Cond.instanceMethod smy_S_spawn) ∈ mm_all := mm_mem 399 (by decide +kernel) (by decide +kernel)
theorem smw_400 : (Cond.selects "SwitchedModules" smy_S_spawn smy_S_spawn) ∈ mm_all := mm_mem 400 (by decide +kernel) (by decide +kernel)
theorem smv_S_spawn : mm_cV smM_S_spawn 2 4 := ⟨⟨smw_401, smw_43, by decide +kernel, by decide +kernel, by decide +kernel⟩, smw_399, smw_400, smF_S, 9, rfl⟩
theorem smw_398 : (Cond.methodLink "SwitchedModulesLaw" 64 smy_S_spawn) ∈ mm_all := mm_mem 398 (by decide +kernel) (by decide +kernel)
theorem smw_720 : (Cond.code smy_M_spawn prog_7_method_41_code 3 (some .int)) ∈ mm_all := mm_mem 720 (by decide +kernel) (by decide +kernel)
theorem smw_718 : (Cond.instanceMethod smy_M_spawn) ∈ mm_all := mm_mem 718 (by decide +kernel) (by decide +kernel)
theorem smw_719 : (Cond.selects "SwitchedModulesModel" smy_M_spawn smy_M_spawn) ∈ mm_all := mm_mem 719 (by decide +kernel) (by decide +kernel)
theorem smv_M_spawn : mm_cV smM_M_spawn 2 5 := ⟨⟨smw_720, smw_48, by decide +kernel, by decide +kernel, by decide +kernel⟩, smw_718, smw_719, smF_M, 19, rfl⟩
theorem smw_717 : (Cond.methodLink "SwitchedModulesLaw" 68 smy_M_spawn) ∈ mm_all := mm_mem 717 (by decide +kernel) (by decide +kernel)
theorem smw_414 : (Cond.code smy_S_step prog_1_method_14_code 5 (some .int)) ∈ mm_all := mm_mem 414 (by decide +kernel) (by decide +kernel)
theorem smw_412 : (Cond.instanceMethod smy_S_step) ∈ mm_all := mm_mem 412 (by decide +kernel) (by decide +kernel)
theorem smw_413 : (Cond.selects "SwitchedModules" smy_S_step smy_S_step) ∈ mm_all := mm_mem 413 (by decide +kernel) (by decide +kernel)
theorem smv_S_step : mm_cV smM_S_step 2 4 := ⟨⟨smw_414, smw_43, by decide +kernel, by decide +kernel, by decide +kernel⟩, smw_412, smw_413, smF_S, 9, rfl⟩
theorem smw_411 : (Cond.methodLink "SwitchedModulesLaw" 69 smy_S_step) ∈ mm_all := mm_mem 411 (by decide +kernel) (by decide +kernel)
theorem smw_728 : (Cond.code smy_M_step prog_7_method_48_code 5 (some .int)) ∈ mm_all := mm_mem 728 (by decide +kernel) (by decide +kernel)
theorem smw_726 : (Cond.instanceMethod smy_M_step) ∈ mm_all := mm_mem 726 (by decide +kernel) (by decide +kernel)
theorem smw_727 : (Cond.selects "SwitchedModulesModel" smy_M_step smy_M_step) ∈ mm_all := mm_mem 727 (by decide +kernel) (by decide +kernel)
theorem smv_M_step : mm_cV smM_M_step 2 5 := ⟨⟨smw_728, smw_48, by decide +kernel, by decide +kernel, by decide +kernel⟩, smw_726, smw_727, smF_M, 19, rfl⟩
theorem smw_725 : (Cond.methodLink "SwitchedModulesLaw" 72 smy_M_step) ∈ mm_all := mm_mem 725 (by decide +kernel) (by decide +kernel)
theorem smw_470 : (Cond.code smy_S_send prog_1_method_15_code 4 (some .int)) ∈ mm_all := mm_mem 470 (by decide +kernel) (by decide +kernel)
theorem smw_468 : (Cond.instanceMethod smy_S_send) ∈ mm_all := mm_mem 468 (by decide +kernel) (by decide +kernel)
theorem smw_469 : (Cond.selects "SwitchedModules" smy_S_send smy_S_send) ∈ mm_all := mm_mem 469 (by decide +kernel) (by decide +kernel)
theorem smv_S_send : mm_cV smM_S_send 2 4 := ⟨⟨smw_470, smw_43, by decide +kernel, by decide +kernel, by decide +kernel⟩, smw_468, smw_469, smF_S, 9, rfl⟩
theorem smw_467 : (Cond.methodLink "SwitchedModulesLaw" 73 smy_S_send) ∈ mm_all := mm_mem 467 (by decide +kernel) (by decide +kernel)
theorem smw_768 : (Cond.code smy_M_send prog_7_method_49_code 3 (some .int)) ∈ mm_all := mm_mem 768 (by decide +kernel) (by decide +kernel)
theorem smw_766 : (Cond.instanceMethod smy_M_send) ∈ mm_all := mm_mem 766 (by decide +kernel) (by decide +kernel)
theorem smw_767 : (Cond.selects "SwitchedModulesModel" smy_M_send smy_M_send) ∈ mm_all := mm_mem 767 (by decide +kernel) (by decide +kernel)
theorem smv_M_send : mm_cV smM_M_send 2 5 := ⟨⟨smw_768, smw_48, by decide +kernel, by decide +kernel, by decide +kernel⟩, smw_766, smw_767, smF_M, 19, rfl⟩
theorem smw_765 : (Cond.methodLink "SwitchedModulesLaw" 76 smy_M_send) ∈ mm_all := mm_mem 765 (by decide +kernel) (by decide +kernel)
theorem smw_478 : (Cond.code smy_S_state prog_1_method_16_code 2 (some .int)) ∈ mm_all := mm_mem 478 (by decide +kernel) (by decide +kernel)
theorem smw_476 : (Cond.instanceMethod smy_S_state) ∈ mm_all := mm_mem 476 (by decide +kernel) (by decide +kernel)
theorem smw_477 : (Cond.selects "SwitchedModules" smy_S_state smy_S_state) ∈ mm_all := mm_mem 477 (by decide +kernel) (by decide +kernel)
theorem smv_S_state : mm_cV smM_S_state 1 4 := ⟨⟨smw_478, smw_43, by decide +kernel, by decide +kernel, by decide +kernel⟩, smw_476, smw_477, smF_S, 9, rfl⟩
theorem smw_475 : (Cond.methodLink "SwitchedModulesLaw" 77 smy_S_state) ∈ mm_all := mm_mem 475 (by decide +kernel) (by decide +kernel)
theorem smw_772 : (Cond.code smy_M_state prog_7_method_50_code 2 (some .int)) ∈ mm_all := mm_mem 772 (by decide +kernel) (by decide +kernel)
theorem smw_770 : (Cond.instanceMethod smy_M_state) ∈ mm_all := mm_mem 770 (by decide +kernel) (by decide +kernel)
theorem smw_771 : (Cond.selects "SwitchedModulesModel" smy_M_state smy_M_state) ∈ mm_all := mm_mem 771 (by decide +kernel) (by decide +kernel)
theorem smv_M_state : mm_cV smM_M_state 1 5 := ⟨⟨smw_772, smw_48, by decide +kernel, by decide +kernel, by decide +kernel⟩, smw_770, smw_771, smF_M, 19, rfl⟩
theorem smw_769 : (Cond.methodLink "SwitchedModulesLaw" 80 smy_M_state) ∈ mm_all := mm_mem 769 (by decide +kernel) (by decide +kernel)
theorem smw_482 : (Cond.code smy_S_result prog_1_method_17_code 2 (some .int)) ∈ mm_all := mm_mem 482 (by decide +kernel) (by decide +kernel)
theorem smw_480 : (Cond.instanceMethod smy_S_result) ∈ mm_all := mm_mem 480 (by decide +kernel) (by decide +kernel)
theorem smw_481 : (Cond.selects "SwitchedModules" smy_S_result smy_S_result) ∈ mm_all := mm_mem 481 (by decide +kernel) (by decide +kernel)
theorem smv_S_result : mm_cV smM_S_result 1 4 := ⟨⟨smw_482, smw_43, by decide +kernel, by decide +kernel, by decide +kernel⟩, smw_480, smw_481, smF_S, 9, rfl⟩
theorem smw_479 : (Cond.methodLink "SwitchedModulesLaw" 81 smy_S_result) ∈ mm_all := mm_mem 479 (by decide +kernel) (by decide +kernel)
theorem smw_776 : (Cond.code smy_M_result prog_7_method_51_code 2 (some .int)) ∈ mm_all := mm_mem 776 (by decide +kernel) (by decide +kernel)
theorem smw_774 : (Cond.instanceMethod smy_M_result) ∈ mm_all := mm_mem 774 (by decide +kernel) (by decide +kernel)
theorem smw_775 : (Cond.selects "SwitchedModulesModel" smy_M_result smy_M_result) ∈ mm_all := mm_mem 775 (by decide +kernel) (by decide +kernel)
theorem smv_M_result : mm_cV smM_M_result 1 5 := ⟨⟨smw_776, smw_48, by decide +kernel, by decide +kernel, by decide +kernel⟩, smw_774, smw_775, smF_M, 19, rfl⟩
theorem smw_773 : (Cond.methodLink "SwitchedModulesLaw" 84 smy_M_result) ∈ mm_all := mm_mem 773 (by decide +kernel) (by decide +kernel)
theorem smw_486 : (Cond.code smy_S_frames prog_1_method_18_code 2 (some .int)) ∈ mm_all := mm_mem 486 (by decide +kernel) (by decide +kernel)
theorem smw_484 : (Cond.instanceMethod smy_S_frames) ∈ mm_all := mm_mem 484 (by decide +kernel) (by decide +kernel)
theorem smw_485 : (Cond.selects "SwitchedModules" smy_S_frames smy_S_frames) ∈ mm_all := mm_mem 485 (by decide +kernel) (by decide +kernel)
theorem smv_S_frames : mm_cV smM_S_frames 1 4 := ⟨⟨smw_486, smw_43, by decide +kernel, by decide +kernel, by decide +kernel⟩, smw_484, smw_485, smF_S, 9, rfl⟩
theorem smw_483 : (Cond.methodLink "SwitchedModulesLaw" 85 smy_S_frames) ∈ mm_all := mm_mem 483 (by decide +kernel) (by decide +kernel)
theorem smw_780 : (Cond.code smy_M_frames prog_7_method_52_code 2 (some .int)) ∈ mm_all := mm_mem 780 (by decide +kernel) (by decide +kernel)
theorem smw_778 : (Cond.instanceMethod smy_M_frames) ∈ mm_all := mm_mem 778 (by decide +kernel) (by decide +kernel)
theorem smw_779 : (Cond.selects "SwitchedModulesModel" smy_M_frames smy_M_frames) ∈ mm_all := mm_mem 779 (by decide +kernel) (by decide +kernel)
theorem smv_M_frames : mm_cV smM_M_frames 1 5 := ⟨⟨smw_780, smw_48, by decide +kernel, by decide +kernel, by decide +kernel⟩, smw_778, smw_779, smF_M, 19, rfl⟩
theorem smw_777 : (Cond.methodLink "SwitchedModulesLaw" 88 smy_M_frames) ∈ mm_all := mm_mem 777 (by decide +kernel) (by decide +kernel)
theorem smw_490 : (Cond.code smy_S_frame prog_1_method_19_code 5 (some .int)) ∈ mm_all := mm_mem 490 (by decide +kernel) (by decide +kernel)
theorem smw_488 : (Cond.instanceMethod smy_S_frame) ∈ mm_all := mm_mem 488 (by decide +kernel) (by decide +kernel)
theorem smw_489 : (Cond.selects "SwitchedModules" smy_S_frame smy_S_frame) ∈ mm_all := mm_mem 489 (by decide +kernel) (by decide +kernel)
theorem smv_S_frame : mm_cV smM_S_frame 3 4 := ⟨⟨smw_490, smw_43, by decide +kernel, by decide +kernel, by decide +kernel⟩, smw_488, smw_489, smF_S, 9, rfl⟩
theorem smw_487 : (Cond.methodLink "SwitchedModulesLaw" 89 smy_S_frame) ∈ mm_all := mm_mem 487 (by decide +kernel) (by decide +kernel)
theorem smw_784 : (Cond.code smy_M_frame prog_7_method_53_code 4 (some .int)) ∈ mm_all := mm_mem 784 (by decide +kernel) (by decide +kernel)
theorem smw_782 : (Cond.instanceMethod smy_M_frame) ∈ mm_all := mm_mem 782 (by decide +kernel) (by decide +kernel)
theorem smw_783 : (Cond.selects "SwitchedModulesModel" smy_M_frame smy_M_frame) ∈ mm_all := mm_mem 783 (by decide +kernel) (by decide +kernel)
theorem smv_M_frame : mm_cV smM_M_frame 3 5 := ⟨⟨smw_784, smw_48, by decide +kernel, by decide +kernel, by decide +kernel⟩, smw_782, smw_783, smF_M, 19, rfl⟩
theorem smw_781 : (Cond.methodLink "SwitchedModulesLaw" 93 smy_M_frame) ∈ mm_all := mm_mem 781 (by decide +kernel) (by decide +kernel)
theorem smw_494 : (Cond.code smy_S_global prog_1_method_20_code 2 (some .int)) ∈ mm_all := mm_mem 494 (by decide +kernel) (by decide +kernel)
theorem smw_492 : (Cond.instanceMethod smy_S_global) ∈ mm_all := mm_mem 492 (by decide +kernel) (by decide +kernel)
theorem smw_493 : (Cond.selects "SwitchedModules" smy_S_global smy_S_global) ∈ mm_all := mm_mem 493 (by decide +kernel) (by decide +kernel)
theorem smv_S_global : mm_cV smM_S_global 1 4 := ⟨⟨smw_494, smw_43, by decide +kernel, by decide +kernel, by decide +kernel⟩, smw_492, smw_493, smF_S, 9, rfl⟩
theorem smw_491 : (Cond.methodLink "SwitchedModulesLaw" 94 smy_S_global) ∈ mm_all := mm_mem 491 (by decide +kernel) (by decide +kernel)
theorem smw_788 : (Cond.code smy_M_global prog_7_method_54_code 2 (some .int)) ∈ mm_all := mm_mem 788 (by decide +kernel) (by decide +kernel)
theorem smw_786 : (Cond.instanceMethod smy_M_global) ∈ mm_all := mm_mem 786 (by decide +kernel) (by decide +kernel)
theorem smw_787 : (Cond.selects "SwitchedModulesModel" smy_M_global smy_M_global) ∈ mm_all := mm_mem 787 (by decide +kernel) (by decide +kernel)
theorem smv_M_global : mm_cV smM_M_global 1 5 := ⟨⟨smw_788, smw_48, by decide +kernel, by decide +kernel, by decide +kernel⟩, smw_786, smw_787, smF_M, 19, rfl⟩
theorem smw_785 : (Cond.methodLink "SwitchedModulesLaw" 97 smy_M_global) ∈ mm_all := mm_mem 785 (by decide +kernel) (by decide +kernel)
theorem smw_498 : (Cond.code smy_S_typeOf prog_1_method_21_code 2 (some .int)) ∈ mm_all := mm_mem 498 (by decide +kernel) (by decide +kernel)
theorem smw_496 : (Cond.instanceMethod smy_S_typeOf) ∈ mm_all := mm_mem 496 (by decide +kernel) (by decide +kernel)
theorem smw_497 : (Cond.selects "SwitchedModules" smy_S_typeOf smy_S_typeOf) ∈ mm_all := mm_mem 497 (by decide +kernel) (by decide +kernel)
theorem smv_S_typeOf : mm_cV smM_S_typeOf 1 4 := ⟨⟨smw_498, smw_43, by decide +kernel, by decide +kernel, by decide +kernel⟩, smw_496, smw_497, smF_S, 9, rfl⟩
theorem smw_495 : (Cond.methodLink "SwitchedModulesLaw" 98 smy_S_typeOf) ∈ mm_all := mm_mem 495 (by decide +kernel) (by decide +kernel)
theorem smw_687 : (Cond.code smy_M_typeOf prog_7_method_31_code 2 (some .int)) ∈ mm_all := mm_mem 687 (by decide +kernel) (by decide +kernel)
theorem smw_685 : (Cond.instanceMethod smy_M_typeOf) ∈ mm_all := mm_mem 685 (by decide +kernel) (by decide +kernel)
theorem smw_686 : (Cond.selects "SwitchedModulesModel" smy_M_typeOf smy_M_typeOf) ∈ mm_all := mm_mem 686 (by decide +kernel) (by decide +kernel)
theorem smv_M_typeOf : mm_cV smM_M_typeOf 1 5 := ⟨⟨smw_687, smw_48, by decide +kernel, by decide +kernel, by decide +kernel⟩, smw_685, smw_686, smF_M, 19, rfl⟩
theorem smw_684 : (Cond.methodLink "SwitchedModulesLaw" 101 smy_M_typeOf) ∈ mm_all := mm_mem 684 (by decide +kernel) (by decide +kernel)
theorem smw_503 : (Cond.code smy_S_field prog_1_method_22_code 3 (some .int)) ∈ mm_all := mm_mem 503 (by decide +kernel) (by decide +kernel)
theorem smw_501 : (Cond.instanceMethod smy_S_field) ∈ mm_all := mm_mem 501 (by decide +kernel) (by decide +kernel)
theorem smw_502 : (Cond.selects "SwitchedModules" smy_S_field smy_S_field) ∈ mm_all := mm_mem 502 (by decide +kernel) (by decide +kernel)
theorem smv_S_field : mm_cV smM_S_field 2 4 := ⟨⟨smw_503, smw_43, by decide +kernel, by decide +kernel, by decide +kernel⟩, smw_501, smw_502, smF_S, 9, rfl⟩
theorem smw_500 : (Cond.methodLink "SwitchedModulesLaw" 102 smy_S_field) ∈ mm_all := mm_mem 500 (by decide +kernel) (by decide +kernel)
theorem smw_691 : (Cond.code smy_M_field prog_7_method_32_code 3 (some .int)) ∈ mm_all := mm_mem 691 (by decide +kernel) (by decide +kernel)
theorem smw_689 : (Cond.instanceMethod smy_M_field) ∈ mm_all := mm_mem 689 (by decide +kernel) (by decide +kernel)
theorem smw_690 : (Cond.selects "SwitchedModulesModel" smy_M_field smy_M_field) ∈ mm_all := mm_mem 690 (by decide +kernel) (by decide +kernel)
theorem smv_M_field : mm_cV smM_M_field 2 5 := ⟨⟨smw_691, smw_48, by decide +kernel, by decide +kernel, by decide +kernel⟩, smw_689, smw_690, smF_M, 19, rfl⟩
theorem smw_688 : (Cond.methodLink "SwitchedModulesLaw" 105 smy_M_field) ∈ mm_all := mm_mem 688 (by decide +kernel) (by decide +kernel)
theorem smw_507 : (Cond.code smy_S_heap prog_1_method_23_code 1 (some .int)) ∈ mm_all := mm_mem 507 (by decide +kernel) (by decide +kernel)
theorem smw_505 : (Cond.instanceMethod smy_S_heap) ∈ mm_all := mm_mem 505 (by decide +kernel) (by decide +kernel)
theorem smw_506 : (Cond.selects "SwitchedModules" smy_S_heap smy_S_heap) ∈ mm_all := mm_mem 506 (by decide +kernel) (by decide +kernel)
theorem smv_S_heap : mm_cV smM_S_heap 0 4 := ⟨⟨smw_507, smw_43, by decide +kernel, by decide +kernel, by decide +kernel⟩, smw_505, smw_506, smF_S, 9, rfl⟩
theorem smw_504 : (Cond.methodLink "SwitchedModulesLaw" 106 smy_S_heap) ∈ mm_all := mm_mem 504 (by decide +kernel) (by decide +kernel)
theorem smw_695 : (Cond.code smy_M_heap prog_7_method_33_code 3 (some .int)) ∈ mm_all := mm_mem 695 (by decide +kernel) (by decide +kernel)
theorem smw_693 : (Cond.instanceMethod smy_M_heap) ∈ mm_all := mm_mem 693 (by decide +kernel) (by decide +kernel)
theorem smw_694 : (Cond.selects "SwitchedModulesModel" smy_M_heap smy_M_heap) ∈ mm_all := mm_mem 694 (by decide +kernel) (by decide +kernel)
theorem smv_M_heap : mm_cV smM_M_heap 0 5 := ⟨⟨smw_695, smw_48, by decide +kernel, by decide +kernel, by decide +kernel⟩, smw_693, smw_694, smF_M, 19, rfl⟩
theorem smw_692 : (Cond.methodLink "SwitchedModulesLaw" 109 smy_M_heap) ∈ mm_all := mm_mem 692 (by decide +kernel) (by decide +kernel)
theorem smw_515 : (Cond.code smy_S_collect prog_1_method_24_code 1 (some .int)) ∈ mm_all := mm_mem 515 (by decide +kernel) (by decide +kernel)
theorem smw_513 : (Cond.instanceMethod smy_S_collect) ∈ mm_all := mm_mem 513 (by decide +kernel) (by decide +kernel)
theorem smw_514 : (Cond.selects "SwitchedModules" smy_S_collect smy_S_collect) ∈ mm_all := mm_mem 514 (by decide +kernel) (by decide +kernel)
theorem smv_S_collect : mm_cV smM_S_collect 0 4 := ⟨⟨smw_515, smw_43, by decide +kernel, by decide +kernel, by decide +kernel⟩, smw_513, smw_514, smF_S, 9, rfl⟩
theorem smw_512 : (Cond.methodLink "SwitchedModulesLaw" 110 smy_S_collect) ∈ mm_all := mm_mem 512 (by decide +kernel) (by decide +kernel)
theorem smw_667 : (Cond.code smy_M_collect prog_7_method_28_code 1 (some .int)) ∈ mm_all := mm_mem 667 (by decide +kernel) (by decide +kernel)
theorem smw_665 : (Cond.instanceMethod smy_M_collect) ∈ mm_all := mm_mem 665 (by decide +kernel) (by decide +kernel)
theorem smw_666 : (Cond.selects "SwitchedModulesModel" smy_M_collect smy_M_collect) ∈ mm_all := mm_mem 666 (by decide +kernel) (by decide +kernel)
theorem smv_M_collect : mm_cV smM_M_collect 0 5 := ⟨⟨smw_667, smw_48, by decide +kernel, by decide +kernel, by decide +kernel⟩, smw_665, smw_666, smF_M, 19, rfl⟩
theorem smw_664 : (Cond.methodLink "SwitchedModulesLaw" 113 smy_M_collect) ∈ mm_all := mm_mem 664 (by decide +kernel) (by decide +kernel)
section OB
variable {Γ : mm_Ctx}
theorem smb_S : mm_ob Γ 0 4 (fun r => [.ref (mm_B Γ + 1), .ref (mm_B Γ + 8), .ref (mm_B Γ + 15), .ref (mm_B Γ + 20), .ref (mm_B Γ + 26), .ref (mm_B Γ + 27), .int (r 6), .int (r 7), .int (r 8)]) := ⟨by omega, fun _ => rfl⟩
theorem smb_V {v : Nat} (hv : v = 1 ∨ v = 8) : mm_ob Γ v 3 (fun _ => [.ref (mm_B Γ + (v + 1)), .ref (mm_B Γ + (v + 2)), .ref (mm_B Γ + (v + 3)), .ref (mm_B Γ + (v + 4)), .ref (mm_B Γ + (v + 5)), .ref (mm_B Γ + (v + 6))]) := by
  rcases hv with rfl | rfl <;> exact ⟨by omega, fun _ => rfl⟩
theorem smb_R : mm_ob Γ 15 1 (fun _ => [.ref (mm_B Γ + 16), .ref (mm_B Γ + 17), .ref (mm_B Γ + 18), .ref (mm_B Γ + 19)]) := ⟨by omega, fun _ => rfl⟩
theorem smb_H : mm_ob Γ 20 0 (fun r => [.ref (mm_B Γ + 21), .ref (mm_B Γ + 22), .ref (mm_B Γ + 23), .ref (mm_B Γ + 24), .ref (mm_B Γ + 25), .int (r 5)]) := ⟨by omega, fun _ => rfl⟩
theorem smb_M : mm_ob Γ 64 5 (fun r => [.ref (mm_B Γ + 65), .ref (mm_B Γ + 66), .ref (mm_B Γ + 67), .ref (mm_B Γ + 68), .ref (mm_B Γ + 69), .int (r 5), .int (r 6), .ref (mm_B Γ + 70), .ref (mm_B Γ + 71), .ref (mm_B Γ + 72), .ref (mm_B Γ + 73), .ref (mm_B Γ + 74), .int (r 12), .ref (mm_B Γ + 75), .ref (mm_B Γ + 76), .ref (mm_B Γ + 77), .ref (mm_B Γ + 78), .ref (mm_B Γ + 79), .ref (mm_B Γ + 80)]) := ⟨by omega, fun _ => rfl⟩
theorem sm_six {i : Nat} (h : i < 6) : i = 0 ∨ i = 1 ∨ i = 2 ∨ i = 3 ∨ i = 4 ∨ i = 5 := by omega
theorem smb_T {t : Nat} (ht : mm_isT t) : mm_ob Γ t 2 (fun r => [.ref (mm_B Γ + (t + 1)), .ref (mm_B Γ + (t + 2)), .ref (mm_B Γ + (t + 3)), .ref (mm_B Γ + (t + 4)), .ref (mm_B Γ + (t + 5)), .int (r 5), .int (r 6), .int (r 7), .int (r 8)]) := by
  obtain ⟨i, hi, rfl⟩ := ht
  rcases sm_six hi with rfl | rfl | rfl | rfl | rfl | rfl <;> exact ⟨by omega, fun _ => rfl⟩
theorem sma_V1 {v : Nat} (hv : v = 1 ∨ v = 8) : mm_ai Γ (v + 1) 6 := by
  rcases hv with rfl | rfl <;> exact ⟨by omega, fun _ => rfl⟩
theorem sma_V2 {v : Nat} (hv : v = 1 ∨ v = 8) : mm_ai Γ (v + 2) 72 := by
  rcases hv with rfl | rfl <;> exact ⟨by omega, fun _ => rfl⟩
theorem sma_V3 {v : Nat} (hv : v = 1 ∨ v = 8) : mm_ai Γ (v + 3) 72 := by
  rcases hv with rfl | rfl <;> exact ⟨by omega, fun _ => rfl⟩
theorem sma_V4 {v : Nat} (hv : v = 1 ∨ v = 8) : mm_ai Γ (v + 4) 72 := by
  rcases hv with rfl | rfl <;> exact ⟨by omega, fun _ => rfl⟩
theorem sma_V5 {v : Nat} (hv : v = 1 ∨ v = 8) : mm_ai Γ (v + 5) 72 := by
  rcases hv with rfl | rfl <;> exact ⟨by omega, fun _ => rfl⟩
theorem sma_V6 {v : Nat} (hv : v = 1 ∨ v = 8) : mm_ai Γ (v + 6) 3 := by
  rcases hv with rfl | rfl <;> exact ⟨by omega, fun _ => rfl⟩
theorem sma_T1 {t : Nat} (ht : mm_isT t) : mm_ai Γ (t + 1) 6 := by
  obtain ⟨i, hi, rfl⟩ := ht
  rcases sm_six hi with rfl | rfl | rfl | rfl | rfl | rfl <;> exact ⟨by omega, fun _ => rfl⟩
theorem sma_T2 {t : Nat} (ht : mm_isT t) : mm_ai Γ (t + 2) 6 := by
  obtain ⟨i, hi, rfl⟩ := ht
  rcases sm_six hi with rfl | rfl | rfl | rfl | rfl | rfl <;> exact ⟨by omega, fun _ => rfl⟩
theorem sma_T3 {t : Nat} (ht : mm_isT t) : mm_ai Γ (t + 3) 18 := by
  obtain ⟨i, hi, rfl⟩ := ht
  rcases sm_six hi with rfl | rfl | rfl | rfl | rfl | rfl <;> exact ⟨by omega, fun _ => rfl⟩
theorem sma_T4 {t : Nat} (ht : mm_isT t) : mm_ai Γ (t + 4) 6 := by
  obtain ⟨i, hi, rfl⟩ := ht
  rcases sm_six hi with rfl | rfl | rfl | rfl | rfl | rfl <;> exact ⟨by omega, fun _ => rfl⟩
theorem sma_T5 {t : Nat} (ht : mm_isT t) : mm_ai Γ (t + 5) 8 := by
  obtain ⟨i, hi, rfl⟩ := ht
  rcases sm_six hi with rfl | rfl | rfl | rfl | rfl | rfl <;> exact ⟨by omega, fun _ => rfl⟩
theorem sma_2 : mm_ai Γ 2 6 := ⟨by omega, fun _ => rfl⟩
theorem sma_3 : mm_ai Γ 3 72 := ⟨by omega, fun _ => rfl⟩
theorem sma_4 : mm_ai Γ 4 72 := ⟨by omega, fun _ => rfl⟩
theorem sma_5 : mm_ai Γ 5 72 := ⟨by omega, fun _ => rfl⟩
theorem sma_6 : mm_ai Γ 6 72 := ⟨by omega, fun _ => rfl⟩
theorem sma_7 : mm_ai Γ 7 3 := ⟨by omega, fun _ => rfl⟩
theorem sma_9 : mm_ai Γ 9 6 := ⟨by omega, fun _ => rfl⟩
theorem sma_10 : mm_ai Γ 10 72 := ⟨by omega, fun _ => rfl⟩
theorem sma_11 : mm_ai Γ 11 72 := ⟨by omega, fun _ => rfl⟩
theorem sma_12 : mm_ai Γ 12 72 := ⟨by omega, fun _ => rfl⟩
theorem sma_13 : mm_ai Γ 13 72 := ⟨by omega, fun _ => rfl⟩
theorem sma_14 : mm_ai Γ 14 3 := ⟨by omega, fun _ => rfl⟩
theorem sma_16 : mm_az Γ 16 3 := ⟨by omega, fun _ => rfl⟩
theorem sma_17 : mm_ai Γ 17 12 := ⟨by omega, fun _ => rfl⟩
theorem sma_18 : mm_ai Γ 18 12 := ⟨by omega, fun _ => rfl⟩
theorem sma_19 : mm_ai Γ 19 12 := ⟨by omega, fun _ => rfl⟩
theorem sma_21 : mm_ai Γ 21 17 := ⟨by omega, fun _ => rfl⟩
theorem sma_22 : mm_ai Γ 22 68 := ⟨by omega, fun _ => rfl⟩
theorem sma_23 : mm_ai Γ 23 68 := ⟨by omega, fun _ => rfl⟩
theorem sma_24 : mm_az Γ 24 17 := ⟨by omega, fun _ => rfl⟩
theorem sma_25 : mm_ai Γ 25 16 := ⟨by omega, fun _ => rfl⟩
theorem sma_26 : mm_ai Γ 26 4 := ⟨by omega, fun _ => rfl⟩
theorem sma_65 : mm_ai Γ 65 576 := ⟨by omega, fun _ => rfl⟩
theorem sma_66 : mm_ai Γ 66 12 := ⟨by omega, fun _ => rfl⟩
theorem sma_67 : mm_ai Γ 67 6 := ⟨by omega, fun _ => rfl⟩
theorem sma_68 : mm_ai Γ 68 36 := ⟨by omega, fun _ => rfl⟩
theorem sma_69 : mm_az Γ 69 3 := ⟨by omega, fun _ => rfl⟩
theorem sma_70 : mm_ai Γ 70 4 := ⟨by omega, fun _ => rfl⟩
theorem sma_71 : mm_ai Γ 71 17 := ⟨by omega, fun _ => rfl⟩
theorem sma_72 : mm_ai Γ 72 68 := ⟨by omega, fun _ => rfl⟩
theorem sma_73 : mm_ai Γ 73 68 := ⟨by omega, fun _ => rfl⟩
theorem sma_74 : mm_az Γ 74 17 := ⟨by omega, fun _ => rfl⟩
theorem sma_75 : mm_ai Γ 75 7 := ⟨by omega, fun _ => rfl⟩
theorem sma_76 : mm_ai Γ 76 7 := ⟨by omega, fun _ => rfl⟩
theorem sma_77 : mm_ai Γ 77 7 := ⟨by omega, fun _ => rfl⟩
theorem sma_78 : mm_ai Γ 78 252 := ⟨by omega, fun _ => rfl⟩
theorem sma_79 : mm_ai Γ 79 7 := ⟨by omega, fun _ => rfl⟩
theorem sma_80 : mm_ai Γ 80 56 := ⟨by omega, fun _ => rfl⟩
end OB
end
section
set_option maxHeartbeats 4000000 in
set_option maxRecDepth 100000 in
theorem smr_R_write {Γ : mm_Ctx} {post : mm_Mem → Prop} {h : mm_Mem} (x1 : Int32) (x2 : Int32) (x3 : Int32) (x4 : Int32) (x5 : Int32) (hT : ∀ y6_5 : Int32, y6_5 = (x1 * (4 : Int32)) + x2 → ((vp_in y6_5 12) ∧ (∀ h14 : mm_Mem, h14 = mm_wr h 17 y6_5.toNatClampNeg x3 → ((vp_in y6_5 12) ∧ (∀ h23 : mm_Mem, h23 = mm_wr h14 18 y6_5.toNatClampNeg x4 → ((vp_in y6_5 12) ∧ (∀ h32 : mm_Mem, h32 = mm_wr h23 19 y6_5.toNatClampNeg x5 → (post h32)))))))) : mm_SV Γ smM_R_write [.ref (mm_B Γ + 15), .int x1, .int x2, .int x3, .int x4, .int x5] h post := by
  refine mm_spec0 (M := smM_R_write) 1 (by decide +kernel) rfl (Nat.le_of_ble_eq_true rfl) ?_
  show mm_W Γ smM_R_write (mm_pV post) 0 [some (.ref (mm_B Γ + 15)), some (.int x1), some (.int x2), some (.int x3), some (.int x4), some (.int x5), none] [] h
  refine mm_iload_n (n := 1) (i := 1) smd_R_write_0 rfl rfl rfl ?_
  refine mm_iconst (n := 2) (v := 4) smd_R_write_1 rfl (by decide) ?_
  refine mm_imul (n := 3) smd_R_write_2 rfl ?_
  refine mm_iload_n (n := 4) (i := 2) smd_R_write_3 rfl rfl rfl ?_
  refine mm_iadd (n := 5) smd_R_write_4 rfl ?_
  refine mm_top (fun y6_5 e_y6_5 => ?_)
  replace hT := hT y6_5 e_y6_5
  refine mm_istore (n := 7) (i := 6) (L' := [some (.ref (mm_B Γ + 15)), some (.int x1), some (.int x2), some (.int x3), some (.int x4), some (.int x5), some (.int y6_5)]) smd_R_write_5 rfl (by decide) rfl ?_
  refine mm_aload_n (n := 8) (i := 0) smd_R_write_7 rfl rfl rfl ?_
  refine mm_get (n := 11) (v := .ref (mm_B Γ + 17)) smk_R_15 smb_R rfl smd_R_write_8 rfl ?_
  refine mm_iload (n := 13) (i := 6) smd_R_write_11 rfl rfl ?_
  refine mm_iload_n (n := 14) (i := 3) smd_R_write_13 rfl rfl rfl ?_
  refine mm_iast (n := 15) sma_17 hT.1 smd_R_write_14 rfl ?_
  replace hT := hT.2
  refine mm_nam (fun h14 e_h14 => ?_)
  replace hT := hT h14 e_h14
  refine mm_aload_n (n := 16) (i := 0) smd_R_write_15 rfl rfl rfl ?_
  refine mm_get (n := 19) (v := .ref (mm_B Γ + 18)) smk_R_19 smb_R rfl smd_R_write_16 rfl ?_
  refine mm_iload (n := 21) (i := 6) smd_R_write_19 rfl rfl ?_
  refine mm_iload (n := 23) (i := 4) smd_R_write_21 rfl rfl ?_
  refine mm_iast (n := 24) sma_18 hT.1 smd_R_write_23 rfl ?_
  replace hT := hT.2
  refine mm_nam (fun h23 e_h23 => ?_)
  replace hT := hT h23 e_h23
  refine mm_aload_n (n := 25) (i := 0) smd_R_write_24 rfl rfl rfl ?_
  refine mm_get (n := 28) (v := .ref (mm_B Γ + 19)) smk_R_22 smb_R rfl smd_R_write_25 rfl ?_
  refine mm_iload (n := 30) (i := 6) smd_R_write_28 rfl rfl ?_
  refine mm_iload (n := 32) (i := 5) smd_R_write_30 rfl rfl ?_
  refine mm_iast (n := 33) sma_19 hT.1 smd_R_write_32 rfl ?_
  replace hT := hT.2
  refine mm_nam (fun h32 e_h32 => ?_)
  replace hT := hT h32 e_h32
  exact mm_vret rfl smd_R_write_33 ⟨rfl, hT⟩
set_option maxHeartbeats 4000000 in
set_option maxRecDepth 100000 in
theorem smr_R_forgetType {Γ : mm_Ctx} {post : mm_Mem → Prop} {h : mm_Mem} (x1 : Int32) (hT : mm_W Γ smM_R_forgetType (mm_pV post) 2 [some (.ref (mm_B Γ + 15)), some (.int x1), some (.int (0 : Int32))] [] h) : mm_SV Γ smM_R_forgetType [.ref (mm_B Γ + 15), .int x1] h post := by
  refine mm_spec0 (M := smM_R_forgetType) 1 (by decide +kernel) rfl (Nat.le_of_ble_eq_true rfl) ?_
  show mm_W Γ smM_R_forgetType (mm_pV post) 0 [some (.ref (mm_B Γ + 15)), some (.int x1), none] [] h
  refine mm_iconst (n := 1) (v := 0) smd_R_forgetType_0 rfl (by decide) ?_
  refine mm_istore_n (n := 2) (i := 2) (L' := [some (.ref (mm_B Γ + 15)), some (.int x1), some (.int (0 : Int32))]) smd_R_forgetType_1 rfl rfl (by decide) rfl ?_
  exact mm_weak (by refine ⟨rfl, rfl, rfl, trivial⟩) hT
set_option maxHeartbeats 4000000 in
set_option maxRecDepth 100000 in
theorem smr_R_forgetType_2 {Γ : mm_Ctx} {post : mm_Mem → Prop} {h : mm_Mem} (x1 : Int32) (x2 : Int32) (hT : ((4 : Int32) ≤ x2 → (post h)) ∧ (¬ (4 : Int32) ≤ x2 → (mm_SV Γ smM_R_write [.ref (mm_B Γ + 15), .int x1, .int x2, .int (0 : Int32), .int (0 : Int32), .int (0 : Int32)] h (fun h13 => mm_W Γ smM_R_forgetType (mm_pV post) 2 [some (.ref (mm_B Γ + 15)), some (.int x1), some (.int (x2 + (1 : Int32)))] [] h13)))) : mm_W Γ smM_R_forgetType (mm_pV post) 2 [some (.ref (mm_B Γ + 15)), some (.int x1), some (.int x2)] [] h := by
  refine mm_iload_n (n := 3) (i := 2) smd_R_forgetType_2 rfl rfl rfl ?_
  refine mm_iconst (n := 4) (v := 4) smd_R_forgetType_3 rfl (by decide) ?_
  refine mm_icmp_ge (n := 7) (tgt := 22) smd_R_forgetType_4 rfl rfl (fun hc => ?_) (fun hc => ?_)
  · replace hT := hT.1 hc
    exact mm_vret rfl smd_R_forgetType_22 ⟨rfl, hT⟩
  · replace hT := hT.2 hc
    refine mm_aload_n (n := 8) (i := 0) smd_R_forgetType_7 rfl rfl rfl ?_
    refine mm_iload_n (n := 9) (i := 1) smd_R_forgetType_8 rfl rfl rfl ?_
    refine mm_iload_n (n := 10) (i := 2) smd_R_forgetType_9 rfl rfl rfl ?_
    refine mm_iconst (n := 11) (v := 0) smd_R_forgetType_10 rfl (by decide) ?_
    refine mm_iconst (n := 12) (v := 0) smd_R_forgetType_11 rfl (by decide) ?_
    refine mm_iconst (n := 13) (v := 0) smd_R_forgetType_12 rfl (by decide) ?_
    refine mm_callVV (n := 16) (As := [.int x1, .int x2, .int (0 : Int32), .int (0 : Int32), .int (0 : Int32)]) (rest := []) smv_R_write smw_241 smb_R (mm_hRm (by decide) (by decide)) smd_R_forgetType_13 rfl rfl (Nat.le_of_ble_eq_true rfl) hT (fun h13 hT => ?_)
    refine mm_iinc (n := 19) (i := 2) (d := 1) (L' := [some (.ref (mm_B Γ + 15)), some (.int x1), some (.int (x2 + (1 : Int32)))]) smd_R_forgetType_16 rfl rfl (by decide) (by decide) rfl ?_
    refine mm_goto (n := 2) smd_R_forgetType_19 rfl ?_
    exact mm_weak (by refine ⟨rfl, rfl, rfl, trivial⟩) hT
set_option maxHeartbeats 4000000 in
set_option maxRecDepth 100000 in
theorem smr_R_forgetAll {Γ : mm_Ctx} {post : mm_Mem → Prop} {h : mm_Mem}  (hT : mm_W Γ smM_R_forgetAll (mm_pV post) 2 [some (.ref (mm_B Γ + 15)), some (.int (0 : Int32))] [] h) : mm_SV Γ smM_R_forgetAll [.ref (mm_B Γ + 15)] h post := by
  refine mm_spec0 (M := smM_R_forgetAll) 1 (by decide +kernel) rfl (Nat.le_of_ble_eq_true rfl) ?_
  show mm_W Γ smM_R_forgetAll (mm_pV post) 0 [some (.ref (mm_B Γ + 15)), none] [] h
  refine mm_iconst (n := 1) (v := 0) smd_R_forgetAll_0 rfl (by decide) ?_
  refine mm_istore_n (n := 2) (i := 1) (L' := [some (.ref (mm_B Γ + 15)), some (.int (0 : Int32))]) smd_R_forgetAll_1 rfl rfl (by decide) rfl ?_
  exact mm_weak (by refine ⟨rfl, rfl, trivial⟩) hT
set_option maxHeartbeats 4000000 in
set_option maxRecDepth 100000 in
theorem smr_R_forgetAll_2 {Γ : mm_Ctx} {post : mm_Mem → Prop} {h : mm_Mem} (x1 : Int32) (hT : ((3 : Int32) ≤ x1 → (post h)) ∧ (¬ (3 : Int32) ≤ x1 → (mm_SV Γ smM_R_forgetType [.ref (mm_B Γ + 15), .int x1] h (fun h9 => (vp_in x1 3) ∧ (∀ h18 : mm_Mem, h18 = mm_wr h9 16 x1.toNatClampNeg (0 : Int32) → (mm_W Γ smM_R_forgetAll (mm_pV post) 2 [some (.ref (mm_B Γ + 15)), some (.int (x1 + (1 : Int32)))] [] h18)))))) : mm_W Γ smM_R_forgetAll (mm_pV post) 2 [some (.ref (mm_B Γ + 15)), some (.int x1)] [] h := by
  refine mm_iload_n (n := 3) (i := 1) smd_R_forgetAll_2 rfl rfl rfl ?_
  refine mm_iconst (n := 4) (v := 3) smd_R_forgetAll_3 rfl (by decide) ?_
  refine mm_icmp_ge (n := 7) (tgt := 25) smd_R_forgetAll_4 rfl rfl (fun hc => ?_) (fun hc => ?_)
  · replace hT := hT.1 hc
    exact mm_vret rfl smd_R_forgetAll_25 ⟨rfl, hT⟩
  · replace hT := hT.2 hc
    refine mm_aload_n (n := 8) (i := 0) smd_R_forgetAll_7 rfl rfl rfl ?_
    refine mm_iload_n (n := 9) (i := 1) smd_R_forgetAll_8 rfl rfl rfl ?_
    refine mm_callVV (n := 12) (As := [.int x1]) (rest := []) smv_R_forgetType smw_265 smb_R (mm_hRm (by decide) (by decide)) smd_R_forgetAll_9 rfl rfl (Nat.le_of_ble_eq_true rfl) hT (fun h9 hT => ?_)
    refine mm_aload_n (n := 13) (i := 0) smd_R_forgetAll_12 rfl rfl rfl ?_
    refine mm_get (n := 16) (v := .ref (mm_B Γ + 16)) smk_R_9 smb_R rfl smd_R_forgetAll_13 rfl ?_
    refine mm_iload_n (n := 17) (i := 1) smd_R_forgetAll_16 rfl rfl rfl ?_
    refine mm_iconst (n := 18) (v := 0) smd_R_forgetAll_17 rfl (by decide) ?_
    refine mm_zast (n := 19) sma_16 hT.1 (Or.inl rfl) smd_R_forgetAll_18 rfl ?_
    replace hT := hT.2
    refine mm_nam (fun h18 e_h18 => ?_)
    replace hT := hT h18 e_h18
    refine mm_iinc (n := 22) (i := 1) (d := 1) (L' := [some (.ref (mm_B Γ + 15)), some (.int (x1 + (1 : Int32)))]) smd_R_forgetAll_19 rfl rfl (by decide) (by decide) rfl ?_
    refine mm_goto (n := 2) smd_R_forgetAll_22 rfl ?_
    exact mm_weak (by refine ⟨rfl, rfl, trivial⟩) hT
set_option maxHeartbeats 4000000 in
set_option maxRecDepth 100000 in
theorem smr_R_firstWithoutSource {Γ : mm_Ctx} {post : Int32 → mm_Mem → Prop} {h : mm_Mem} {u1 : Nat} (h_u1 : u1 = 1 ∨ u1 = 8) {u2 : Nat} (h_u2 : u2 = 1 ∨ u2 = 8) (hT : mm_W Γ smM_R_firstWithoutSource (mm_pI post) 2 [some (.ref (mm_B Γ + 15)), some (.ref (mm_B Γ + u1)), some (.ref (mm_B Γ + u2)), some (.int (0 : Int32)), none, none] [] h) : mm_SI Γ smM_R_firstWithoutSource [.ref (mm_B Γ + 15), .ref (mm_B Γ + u1), .ref (mm_B Γ + u2)] h post := by
  refine mm_spec0 (M := smM_R_firstWithoutSource) 3 (by decide +kernel) rfl (Nat.le_of_ble_eq_true rfl) ?_
  show mm_W Γ smM_R_firstWithoutSource (mm_pI post) 0 [some (.ref (mm_B Γ + 15)), some (.ref (mm_B Γ + u1)), some (.ref (mm_B Γ + u2)), none, none, none] [] h
  refine mm_iconst (n := 1) (v := 0) smd_R_firstWithoutSource_0 rfl (by decide) ?_
  refine mm_istore_n (n := 2) (i := 3) (L' := [some (.ref (mm_B Γ + 15)), some (.ref (mm_B Γ + u1)), some (.ref (mm_B Γ + u2)), some (.int (0 : Int32)), none, none]) smd_R_firstWithoutSource_1 rfl rfl (by decide) rfl ?_
  exact mm_weak (by refine ⟨rfl, rfl, rfl, rfl, trivial⟩) hT
set_option maxHeartbeats 4000000 in
set_option maxRecDepth 100000 in
theorem smr_R_firstWithoutSource_2 {Γ : mm_Ctx} {post : Int32 → mm_Mem → Prop} {h : mm_Mem} {u1 : Nat} (h_u1 : u1 = 1 ∨ u1 = 8) {u2 : Nat} (h_u2 : u2 = 1 ∨ u2 = 8) (x3 : Int32) (hT : ((3 : Int32) ≤ x3 → (post (-1 : Int32) h)) ∧ (¬ (3 : Int32) ≤ x3 → (mm_W Γ smM_R_firstWithoutSource (mm_pI post) 10 [some (.ref (mm_B Γ + 15)), some (.ref (mm_B Γ + u1)), some (.ref (mm_B Γ + u2)), some (.int x3), some (.int (0 : Int32)), none] [] h))) : mm_W Γ smM_R_firstWithoutSource (mm_pI post) 2 [some (.ref (mm_B Γ + 15)), some (.ref (mm_B Γ + u1)), some (.ref (mm_B Γ + u2)), some (.int x3), none, none] [] h := by
  refine mm_iload_n (n := 3) (i := 3) smd_R_firstWithoutSource_2 rfl rfl rfl ?_
  refine mm_iconst (n := 4) (v := 3) smd_R_firstWithoutSource_3 rfl (by decide) ?_
  refine mm_icmp_ge (n := 7) (tgt := 70) smd_R_firstWithoutSource_4 rfl rfl (fun hc => ?_) (fun hc => ?_)
  · replace hT := hT.1 hc
    refine mm_iconst (n := 71) (v := -1) smd_R_firstWithoutSource_70 rfl (by decide) ?_
    exact mm_iret rfl smd_R_firstWithoutSource_71 ⟨_, rfl, hT⟩
  · replace hT := hT.2 hc
    refine mm_iconst (n := 8) (v := 0) smd_R_firstWithoutSource_7 rfl (by decide) ?_
    refine mm_istore (n := 10) (i := 4) (L' := [some (.ref (mm_B Γ + 15)), some (.ref (mm_B Γ + u1)), some (.ref (mm_B Γ + u2)), some (.int x3), some (.int (0 : Int32)), none]) smd_R_firstWithoutSource_8 rfl (by decide) rfl ?_
    exact mm_weak (by refine ⟨rfl, rfl, rfl, rfl, rfl, trivial⟩) hT
set_option maxHeartbeats 4000000 in
set_option maxRecDepth 100000 in
theorem smr_R_firstWithoutSource_10 {Γ : mm_Ctx} {post : Int32 → mm_Mem → Prop} {h : mm_Mem} {u1 : Nat} (h_u1 : u1 = 1 ∨ u1 = 8) {u2 : Nat} (h_u2 : u2 = 1 ∨ u2 = 8) (x3 : Int32) (x4 : Int32) (hT : (vp_in x3 3) ∧ (((h (u2 + 6) x3.toNatClampNeg) ≤ x4 → (mm_W Γ smM_R_firstWithoutSource (mm_pI post) 2 [some (.ref (mm_B Γ + 15)), some (.ref (mm_B Γ + u1)), some (.ref (mm_B Γ + u2)), some (.int (x3 + (1 : Int32))), none, none] [] h)) ∧ (¬ (h (u2 + 6) x3.toNatClampNeg) ≤ x4 → (∀ y5_27 : Int32, y5_27 = (x3 * (4 : Int32)) + x4 → ((vp_in y5_27 12) ∧ (((h 17 y5_27.toNatClampNeg) = 0 → (mm_W Γ smM_R_firstWithoutSource (mm_pI post) 10 [some (.ref (mm_B Γ + 15)), some (.ref (mm_B Γ + u1)), some (.ref (mm_B Γ + u2)), some (.int x3), some (.int (x4 + (1 : Int32))), none] [] h)) ∧ (¬ (h 17 y5_27.toNatClampNeg) = 0 → ((vp_in y5_27 12) ∧ ((vp_in x3 3) ∧ (((h 18 y5_27.toNatClampNeg) < (h (u1 + 6) x3.toNatClampNeg) → (mm_W Γ smM_R_firstWithoutSource (mm_pI post) 10 [some (.ref (mm_B Γ + 15)), some (.ref (mm_B Γ + u1)), some (.ref (mm_B Γ + u2)), some (.int x3), some (.int (x4 + (1 : Int32))), none] [] h)) ∧ (¬ (h 18 y5_27.toNatClampNeg) < (h (u1 + 6) x3.toNatClampNeg) → (post y5_27 h)))))))))))) : mm_W Γ smM_R_firstWithoutSource (mm_pI post) 10 [some (.ref (mm_B Γ + 15)), some (.ref (mm_B Γ + u1)), some (.ref (mm_B Γ + u2)), some (.int x3), some (.int x4), none] [] h := by
  refine mm_iload (n := 12) (i := 4) smd_R_firstWithoutSource_10 rfl rfl ?_
  refine mm_aload_n (n := 13) (i := 2) smd_R_firstWithoutSource_12 rfl rfl rfl ?_
  refine mm_get (n := 16) (v := .ref (mm_B Γ + (u2 + 6))) smk_R_33 (smb_V h_u2) rfl smd_R_firstWithoutSource_13 rfl ?_
  refine mm_iload_n (n := 17) (i := 3) smd_R_firstWithoutSource_16 rfl rfl rfl ?_
  refine mm_iald (n := 18) (sma_V6 h_u2) hT.1 smd_R_firstWithoutSource_17 rfl ?_
  replace hT := hT.2
  refine mm_icmp_ge (n := 21) (tgt := 64) smd_R_firstWithoutSource_18 rfl rfl (fun hc => ?_) (fun hc => ?_)
  · replace hT := hT.1 hc
    refine mm_iinc (n := 67) (i := 3) (d := 1) (L' := [some (.ref (mm_B Γ + 15)), some (.ref (mm_B Γ + u1)), some (.ref (mm_B Γ + u2)), some (.int (x3 + (1 : Int32))), some (.int x4), none]) smd_R_firstWithoutSource_64 rfl rfl (by decide) (by decide) rfl ?_
    refine mm_goto (n := 2) smd_R_firstWithoutSource_67 rfl ?_
    exact mm_weak (by refine ⟨rfl, rfl, rfl, rfl, trivial⟩) hT
  · replace hT := hT.2 hc
    refine mm_iload_n (n := 22) (i := 3) smd_R_firstWithoutSource_21 rfl rfl rfl ?_
    refine mm_iconst (n := 23) (v := 4) smd_R_firstWithoutSource_22 rfl (by decide) ?_
    refine mm_imul (n := 24) smd_R_firstWithoutSource_23 rfl ?_
    refine mm_iload (n := 26) (i := 4) smd_R_firstWithoutSource_24 rfl rfl ?_
    refine mm_iadd (n := 27) smd_R_firstWithoutSource_26 rfl ?_
    refine mm_top (fun y5_27 e_y5_27 => ?_)
    replace hT := hT y5_27 e_y5_27
    refine mm_istore (n := 29) (i := 5) (L' := [some (.ref (mm_B Γ + 15)), some (.ref (mm_B Γ + u1)), some (.ref (mm_B Γ + u2)), some (.int x3), some (.int x4), some (.int y5_27)]) smd_R_firstWithoutSource_27 rfl (by decide) rfl ?_
    refine mm_aload_n (n := 30) (i := 0) smd_R_firstWithoutSource_29 rfl rfl rfl ?_
    refine mm_get (n := 33) (v := .ref (mm_B Γ + 17)) smk_R_15 smb_R rfl smd_R_firstWithoutSource_30 rfl ?_
    refine mm_iload (n := 35) (i := 5) smd_R_firstWithoutSource_33 rfl rfl ?_
    refine mm_iald (n := 36) sma_17 hT.1 smd_R_firstWithoutSource_35 rfl ?_
    replace hT := hT.2
    refine mm_if_eq (n := 39) (tgt := 58) smd_R_firstWithoutSource_36 rfl rfl (fun hc => ?_) (fun hc => ?_)
    · replace hT := hT.1 hc
      refine mm_iinc (n := 61) (i := 4) (d := 1) (L' := [some (.ref (mm_B Γ + 15)), some (.ref (mm_B Γ + u1)), some (.ref (mm_B Γ + u2)), some (.int x3), some (.int (x4 + (1 : Int32))), some (.int y5_27)]) smd_R_firstWithoutSource_58 rfl rfl (by decide) (by decide) rfl ?_
      refine mm_goto (n := 10) smd_R_firstWithoutSource_61 rfl ?_
      exact mm_weak (by refine ⟨rfl, rfl, rfl, rfl, rfl, trivial⟩) hT
    · replace hT := hT.2 hc
      refine mm_aload_n (n := 40) (i := 0) smd_R_firstWithoutSource_39 rfl rfl rfl ?_
      refine mm_get (n := 43) (v := .ref (mm_B Γ + 18)) smk_R_19 smb_R rfl smd_R_firstWithoutSource_40 rfl ?_
      refine mm_iload (n := 45) (i := 5) smd_R_firstWithoutSource_43 rfl rfl ?_
      refine mm_iald (n := 46) sma_18 hT.1 smd_R_firstWithoutSource_45 rfl ?_
      replace hT := hT.2
      refine mm_aload_n (n := 47) (i := 1) smd_R_firstWithoutSource_46 rfl rfl rfl ?_
      refine mm_get (n := 50) (v := .ref (mm_B Γ + (u1 + 6))) smk_R_33 (smb_V h_u1) rfl smd_R_firstWithoutSource_47 rfl ?_
      refine mm_iload_n (n := 51) (i := 3) smd_R_firstWithoutSource_50 rfl rfl rfl ?_
      refine mm_iald (n := 52) (sma_V6 h_u1) hT.1 smd_R_firstWithoutSource_51 rfl ?_
      replace hT := hT.2
      refine mm_icmp_lt (n := 55) (tgt := 58) smd_R_firstWithoutSource_52 rfl rfl (fun hc => ?_) (fun hc => ?_)
      · replace hT := hT.1 hc
        refine mm_iinc (n := 61) (i := 4) (d := 1) (L' := [some (.ref (mm_B Γ + 15)), some (.ref (mm_B Γ + u1)), some (.ref (mm_B Γ + u2)), some (.int x3), some (.int (x4 + (1 : Int32))), some (.int y5_27)]) smd_R_firstWithoutSource_58 rfl rfl (by decide) (by decide) rfl ?_
        refine mm_goto (n := 10) smd_R_firstWithoutSource_61 rfl ?_
        exact mm_weak (by refine ⟨rfl, rfl, rfl, rfl, rfl, trivial⟩) hT
      · replace hT := hT.2 hc
        refine mm_iload (n := 57) (i := 5) smd_R_firstWithoutSource_55 rfl rfl ?_
        exact mm_iret rfl smd_R_firstWithoutSource_57 ⟨_, rfl, hT⟩
set_option maxHeartbeats 4000000 in
set_option maxRecDepth 100000 in
theorem smr_R_isFaulty {Γ : mm_Ctx} {post : Int32 → mm_Mem → Prop} {h : mm_Mem} (x1 : Int32) (x3 : Int32) (hT : (vp_in x1 12) ∧ ((¬ (h 17 x1.toNatClampNeg) = (2 : Int32) → (post (0 : Int32) h)) ∧ ((h 17 x1.toNatClampNeg) = (2 : Int32) → ((vp_in x1 12) ∧ ((vp_in (x3 + (h 18 x1.toNatClampNeg)) 68) ∧ ((¬ (h 22 (x3 + (h 18 x1.toNatClampNeg)).toNatClampNeg) = 0 → (post (0 : Int32) h)) ∧ ((h 22 (x3 + (h 18 x1.toNatClampNeg)).toNatClampNeg) = 0 → (post (1 : Int32) h)))))))) : mm_SI Γ smM_R_isFaulty [.ref (mm_B Γ + 15), .int x1, .ref (mm_B Γ + 22), .int x3] h post := by
  refine mm_spec0 (M := smM_R_isFaulty) 0 (by decide +kernel) rfl (Nat.le_of_ble_eq_true rfl) ?_
  show mm_W Γ smM_R_isFaulty (mm_pI post) 0 [some (.ref (mm_B Γ + 15)), some (.int x1), some (.ref (mm_B Γ + 22)), some (.int x3)] [] h
  refine mm_aload_n (n := 1) (i := 0) smd_R_isFaulty_0 rfl rfl rfl ?_
  refine mm_get (n := 4) (v := .ref (mm_B Γ + 17)) smk_R_15 smb_R rfl smd_R_isFaulty_1 rfl ?_
  refine mm_iload_n (n := 5) (i := 1) smd_R_isFaulty_4 rfl rfl rfl ?_
  refine mm_iald (n := 6) sma_17 hT.1 smd_R_isFaulty_5 rfl ?_
  replace hT := hT.2
  refine mm_iconst (n := 7) (v := 2) smd_R_isFaulty_6 rfl (by decide) ?_
  refine mm_icmp_ne (n := 10) (tgt := 27) smd_R_isFaulty_7 rfl rfl (fun hc => ?_) (fun hc => ?_)
  · replace hT := hT.1 hc
    refine mm_iconst (n := 28) (v := 0) smd_R_isFaulty_27 rfl (by decide) ?_
    exact mm_zret rfl (Or.inl rfl) smd_R_isFaulty_28 ⟨_, rfl, hT⟩
  · replace hT := hT.2 hc
    refine mm_aload_n (n := 11) (i := 2) smd_R_isFaulty_10 rfl rfl rfl ?_
    refine mm_iload_n (n := 12) (i := 3) smd_R_isFaulty_11 rfl rfl rfl ?_
    refine mm_aload_n (n := 13) (i := 0) smd_R_isFaulty_12 rfl rfl rfl ?_
    refine mm_get (n := 16) (v := .ref (mm_B Γ + 18)) smk_R_19 smb_R rfl smd_R_isFaulty_13 rfl ?_
    refine mm_iload_n (n := 17) (i := 1) smd_R_isFaulty_16 rfl rfl rfl ?_
    refine mm_iald (n := 18) sma_18 hT.1 smd_R_isFaulty_17 rfl ?_
    replace hT := hT.2
    refine mm_iadd (n := 19) smd_R_isFaulty_18 rfl ?_
    refine mm_iald (n := 20) sma_22 hT.1 smd_R_isFaulty_19 rfl ?_
    replace hT := hT.2
    refine mm_if_ne (n := 23) (tgt := 27) smd_R_isFaulty_20 rfl rfl (fun hc => ?_) (fun hc => ?_)
    · replace hT := hT.1 hc
      refine mm_iconst (n := 28) (v := 0) smd_R_isFaulty_27 rfl (by decide) ?_
      exact mm_zret rfl (Or.inl rfl) smd_R_isFaulty_28 ⟨_, rfl, hT⟩
    · replace hT := hT.2 hc
      refine mm_iconst (n := 24) (v := 1) smd_R_isFaulty_23 rfl (by decide) ?_
      refine mm_goto (n := 28) smd_R_isFaulty_24 rfl ?_
      exact mm_zret rfl (Or.inr rfl) smd_R_isFaulty_28 ⟨_, rfl, hT⟩
set_option maxHeartbeats 4000000 in
set_option maxRecDepth 100000 in
theorem smr_R_valueOf {Γ : mm_Ctx} {post : Int32 → mm_Mem → Prop} {h : mm_Mem} (x1 : Int32) (x3 : Int32) (hT : (vp_in x1 12) ∧ ((vp_in (x3 + (h 18 x1.toNatClampNeg)) 68) ∧ (∀ y4_10 : Int32, y4_10 = h 22 (x3 + (h 18 x1.toNatClampNeg)).toNatClampNeg → ((vp_in x1 12) ∧ (((h 17 x1.toNatClampNeg) = 1 → ((vp_in x1 12) ∧ (post (y4_10 + (h 19 x1.toNatClampNeg)) h))) ∧ ((h 17 x1.toNatClampNeg) = 2 → ((¬ y4_10 = 0 → ((vp_in x1 12) ∧ ((¬ y4_10 = 0) ∧ (post ((h 19 x1.toNatClampNeg) / y4_10) h)))) ∧ (y4_10 = 0 → (post (0 : Int32) h)))) ∧ (¬ (h 17 x1.toNatClampNeg) = 1 → ¬ (h 17 x1.toNatClampNeg) = 2 → ((vp_in x1 12) ∧ (post (h 19 x1.toNatClampNeg) h)))))))) : mm_SI Γ smM_R_valueOf [.ref (mm_B Γ + 15), .int x1, .ref (mm_B Γ + 22), .int x3] h post := by
  refine mm_spec0 (M := smM_R_valueOf) 1 (by decide +kernel) rfl (Nat.le_of_ble_eq_true rfl) ?_
  show mm_W Γ smM_R_valueOf (mm_pI post) 0 [some (.ref (mm_B Γ + 15)), some (.int x1), some (.ref (mm_B Γ + 22)), some (.int x3), none] [] h
  refine mm_aload_n (n := 1) (i := 2) smd_R_valueOf_0 rfl rfl rfl ?_
  refine mm_iload_n (n := 2) (i := 3) smd_R_valueOf_1 rfl rfl rfl ?_
  refine mm_aload_n (n := 3) (i := 0) smd_R_valueOf_2 rfl rfl rfl ?_
  refine mm_get (n := 6) (v := .ref (mm_B Γ + 18)) smk_R_19 smb_R rfl smd_R_valueOf_3 rfl ?_
  refine mm_iload_n (n := 7) (i := 1) smd_R_valueOf_6 rfl rfl rfl ?_
  refine mm_iald (n := 8) sma_18 hT.1 smd_R_valueOf_7 rfl ?_
  replace hT := hT.2
  refine mm_iadd (n := 9) smd_R_valueOf_8 rfl ?_
  refine mm_iald (n := 10) sma_22 hT.1 smd_R_valueOf_9 rfl ?_
  replace hT := hT.2
  refine mm_top (fun y4_10 e_y4_10 => ?_)
  replace hT := hT y4_10 e_y4_10
  refine mm_istore (n := 12) (i := 4) (L' := [some (.ref (mm_B Γ + 15)), some (.int x1), some (.ref (mm_B Γ + 22)), some (.int x3), some (.int y4_10)]) smd_R_valueOf_10 rfl (by decide) rfl ?_
  refine mm_aload_n (n := 13) (i := 0) smd_R_valueOf_12 rfl rfl rfl ?_
  refine mm_get (n := 16) (v := .ref (mm_B Γ + 17)) smk_R_15 smb_R rfl smd_R_valueOf_13 rfl ?_
  refine mm_iload_n (n := 17) (i := 1) smd_R_valueOf_16 rfl rfl rfl ?_
  refine mm_iald (n := 18) sma_17 hT.1 smd_R_valueOf_17 rfl ?_
  replace hT := hT.2
  by_cases e : (h 17 x1.toNatClampNeg) = 1
  · refine mm_lsw (tgt := 44) (off := 26) smd_R_valueOf_18 (by decide) (by rw [e]; decide) rfl ?_
    replace hT := hT.1 (e)
    refine mm_iload (n := 46) (i := 4) smd_R_valueOf_44 rfl rfl ?_
    refine mm_aload_n (n := 47) (i := 0) smd_R_valueOf_46 rfl rfl rfl ?_
    refine mm_get (n := 50) (v := .ref (mm_B Γ + 19)) smk_R_22 smb_R rfl smd_R_valueOf_47 rfl ?_
    refine mm_iload_n (n := 51) (i := 1) smd_R_valueOf_50 rfl rfl rfl ?_
    refine mm_iald (n := 52) sma_19 hT.1 smd_R_valueOf_51 rfl ?_
    replace hT := hT.2
    refine mm_iadd (n := 53) smd_R_valueOf_52 rfl ?_
    exact mm_iret rfl smd_R_valueOf_53 ⟨_, rfl, hT⟩
  have n1 := e
  clear e
  by_cases e : (h 17 x1.toNatClampNeg) = 2
  · refine mm_lsw (tgt := 54) (off := 36) smd_R_valueOf_18 (by decide) (by rw [e]; decide) rfl ?_
    replace hT := hT.2.1 (e)
    refine mm_iload (n := 56) (i := 4) smd_R_valueOf_54 rfl rfl ?_
    refine mm_if_ne (n := 59) (tgt := 63) smd_R_valueOf_56 rfl rfl (fun hc => ?_) (fun hc => ?_)
    · replace hT := hT.1 hc
      refine mm_aload_n (n := 64) (i := 0) smd_R_valueOf_63 rfl rfl rfl ?_
      refine mm_get (n := 67) (v := .ref (mm_B Γ + 19)) smk_R_22 smb_R rfl smd_R_valueOf_64 rfl ?_
      refine mm_iload_n (n := 68) (i := 1) smd_R_valueOf_67 rfl rfl rfl ?_
      refine mm_iald (n := 69) sma_19 hT.1 smd_R_valueOf_68 rfl ?_
      replace hT := hT.2
      refine mm_iload (n := 71) (i := 4) smd_R_valueOf_69 rfl rfl ?_
      refine mm_idiv (n := 72) smd_R_valueOf_71 rfl hT.1 ?_
      replace hT := hT.2
      exact mm_iret rfl smd_R_valueOf_72 ⟨_, rfl, hT⟩
    · replace hT := hT.2 hc
      refine mm_iconst (n := 60) (v := 0) smd_R_valueOf_59 rfl (by decide) ?_
      refine mm_goto (n := 72) smd_R_valueOf_60 rfl ?_
      exact mm_iret rfl smd_R_valueOf_72 ⟨_, rfl, hT⟩
  have n2 := e
  clear e
  refine mm_lsw (tgt := 73) (off := 55) smd_R_valueOf_18 (by decide) (by rw [show Op.lookupswitch.offset _ _ _ = _ from lv_osw n1 (show (1 : Int32).toInt = 1 by decide)]; rw [show Op.lookupswitch.offset _ _ _ = _ from lv_osw n2 (show (2 : Int32).toInt = 2 by decide)]; rfl) rfl ?_
  replace hT := hT.2.2 n1 n2
  refine mm_aload_n (n := 74) (i := 0) smd_R_valueOf_73 rfl rfl rfl ?_
  refine mm_get (n := 77) (v := .ref (mm_B Γ + 19)) smk_R_22 smb_R rfl smd_R_valueOf_74 rfl ?_
  refine mm_iload_n (n := 78) (i := 1) smd_R_valueOf_77 rfl rfl rfl ?_
  refine mm_iald (n := 79) sma_19 hT.1 smd_R_valueOf_78 rfl ?_
  replace hT := hT.2
  exact mm_iret rfl smd_R_valueOf_79 ⟨_, rfl, hT⟩
set_option maxHeartbeats 4000000 in
set_option maxRecDepth 100000 in
theorem smr_T_local {Γ : mm_Ctx} {post : Int32 → mm_Mem → Prop} {h : mm_Mem} {t : Nat} (h_t : mm_isT t) (x1 : Int32) (hT : (vp_in ((((h t 5) - (1 : Int32)) * (3 : Int32)) + x1) 18) ∧ (post (h (t + 3) ((((h t 5) - (1 : Int32)) * (3 : Int32)) + x1).toNatClampNeg) h)) : mm_SI Γ smM_T_local [.ref (mm_B Γ + t), .int x1] h post := by
  refine mm_spec0 (M := smM_T_local) 0 (by decide +kernel) rfl (Nat.le_of_ble_eq_true rfl) ?_
  show mm_W Γ smM_T_local (mm_pI post) 0 [some (.ref (mm_B Γ + t)), some (.int x1)] [] h
  refine mm_aload_n (n := 1) (i := 0) smd_T_local_0 rfl rfl rfl ?_
  refine mm_get (n := 4) (v := .ref (mm_B Γ + (t + 3))) smk_T_18 (smb_T h_t) rfl smd_T_local_1 rfl ?_
  refine mm_aload_n (n := 5) (i := 0) smd_T_local_4 rfl rfl rfl ?_
  refine mm_get (n := 8) (v := .int (h t 5)) smk_T_27 (smb_T h_t) rfl smd_T_local_5 rfl ?_
  refine mm_iconst (n := 9) (v := 1) smd_T_local_8 rfl (by decide) ?_
  refine mm_isub (n := 10) smd_T_local_9 rfl ?_
  refine mm_iconst (n := 11) (v := 3) smd_T_local_10 rfl (by decide) ?_
  refine mm_imul (n := 12) smd_T_local_11 rfl ?_
  refine mm_iload_n (n := 13) (i := 1) smd_T_local_12 rfl rfl rfl ?_
  refine mm_iadd (n := 14) smd_T_local_13 rfl ?_
  refine mm_iald (n := 15) (sma_T3 h_t) hT.1 smd_T_local_14 rfl ?_
  replace hT := hT.2
  exact mm_iret rfl smd_T_local_15 ⟨_, rfl, hT⟩
set_option maxHeartbeats 4000000 in
set_option maxRecDepth 100000 in
theorem smr_T_setLocal {Γ : mm_Ctx} {post : mm_Mem → Prop} {h : mm_Mem} {t : Nat} (h_t : mm_isT t) (x1 : Int32) (x2 : Int32) (hT : (vp_in ((((h t 5) - (1 : Int32)) * (3 : Int32)) + x1) 18) ∧ (∀ h15 : mm_Mem, h15 = mm_wr h (t + 3) ((((h t 5) - (1 : Int32)) * (3 : Int32)) + x1).toNatClampNeg x2 → (post h15))) : mm_SV Γ smM_T_setLocal [.ref (mm_B Γ + t), .int x1, .int x2] h post := by
  refine mm_spec0 (M := smM_T_setLocal) 0 (by decide +kernel) rfl (Nat.le_of_ble_eq_true rfl) ?_
  show mm_W Γ smM_T_setLocal (mm_pV post) 0 [some (.ref (mm_B Γ + t)), some (.int x1), some (.int x2)] [] h
  refine mm_aload_n (n := 1) (i := 0) smd_T_setLocal_0 rfl rfl rfl ?_
  refine mm_get (n := 4) (v := .ref (mm_B Γ + (t + 3))) smk_T_18 (smb_T h_t) rfl smd_T_setLocal_1 rfl ?_
  refine mm_aload_n (n := 5) (i := 0) smd_T_setLocal_4 rfl rfl rfl ?_
  refine mm_get (n := 8) (v := .int (h t 5)) smk_T_27 (smb_T h_t) rfl smd_T_setLocal_5 rfl ?_
  refine mm_iconst (n := 9) (v := 1) smd_T_setLocal_8 rfl (by decide) ?_
  refine mm_isub (n := 10) smd_T_setLocal_9 rfl ?_
  refine mm_iconst (n := 11) (v := 3) smd_T_setLocal_10 rfl (by decide) ?_
  refine mm_imul (n := 12) smd_T_setLocal_11 rfl ?_
  refine mm_iload_n (n := 13) (i := 1) smd_T_setLocal_12 rfl rfl rfl ?_
  refine mm_iadd (n := 14) smd_T_setLocal_13 rfl ?_
  refine mm_iload_n (n := 15) (i := 2) smd_T_setLocal_14 rfl rfl rfl ?_
  refine mm_iast (n := 16) (sma_T3 h_t) hT.1 smd_T_setLocal_15 rfl ?_
  replace hT := hT.2
  refine mm_nam (fun h15 e_h15 => ?_)
  replace hT := hT h15 e_h15
  exact mm_vret rfl smd_T_setLocal_16 ⟨rfl, hT⟩
set_option maxHeartbeats 4000000 in
set_option maxRecDepth 100000 in
theorem smr_T_push {Γ : mm_Ctx} {post : mm_Mem → Prop} {h : mm_Mem} {t : Nat} (h_t : mm_isT t) (x1 : Int32) (x2 : Int32) (x3 : Int32) (hT : (vp_in (h t 5) 6) ∧ (∀ h9 : mm_Mem, h9 = mm_wr h (t + 1) (h t 5).toNatClampNeg x1 → ((vp_in (h9 t 5) 6) ∧ (∀ h19 : mm_Mem, h19 = mm_wr h9 (t + 2) (h9 t 5).toNatClampNeg (0 : Int32) → ((vp_in (h19 t 5) 6) ∧ (∀ h29 : mm_Mem, h29 = mm_wr h19 (t + 4) (h19 t 5).toNatClampNeg x3 → (∀ h37 : mm_Mem, h37 = mm_wr h29 t 5 ((h29 t 5) + (1 : Int32)) → (mm_SV Γ smM_T_setLocal [.ref (mm_B Γ + t), .int (0 : Int32), .int x2] h37 (fun h43 => mm_W Γ smM_T_push (mm_pV post) 49 [some (.ref (mm_B Γ + t)), none, none, none, some (.int (1 : Int32))] [] h43))))))))) : mm_SV Γ smM_T_push [.ref (mm_B Γ + t), .int x1, .int x2, .int x3] h post := by
  refine mm_spec0 (M := smM_T_push) 1 (by decide +kernel) rfl (Nat.le_of_ble_eq_true rfl) ?_
  show mm_W Γ smM_T_push (mm_pV post) 0 [some (.ref (mm_B Γ + t)), some (.int x1), some (.int x2), some (.int x3), none] [] h
  refine mm_aload_n (n := 1) (i := 0) smd_T_push_0 rfl rfl rfl ?_
  refine mm_get (n := 4) (v := .ref (mm_B Γ + (t + 1))) smk_T_9 (smb_T h_t) rfl smd_T_push_1 rfl ?_
  refine mm_aload_n (n := 5) (i := 0) smd_T_push_4 rfl rfl rfl ?_
  refine mm_get (n := 8) (v := .int (h t 5)) smk_T_27 (smb_T h_t) rfl smd_T_push_5 rfl ?_
  refine mm_iload_n (n := 9) (i := 1) smd_T_push_8 rfl rfl rfl ?_
  refine mm_iast (n := 10) (sma_T1 h_t) hT.1 smd_T_push_9 rfl ?_
  replace hT := hT.2
  refine mm_nam (fun h9 e_h9 => ?_)
  replace hT := hT h9 e_h9
  refine mm_aload_n (n := 11) (i := 0) smd_T_push_10 rfl rfl rfl ?_
  refine mm_get (n := 14) (v := .ref (mm_B Γ + (t + 2))) smk_T_15 (smb_T h_t) rfl smd_T_push_11 rfl ?_
  refine mm_aload_n (n := 15) (i := 0) smd_T_push_14 rfl rfl rfl ?_
  refine mm_get (n := 18) (v := .int (h9 t 5)) smk_T_27 (smb_T h_t) rfl smd_T_push_15 rfl ?_
  refine mm_iconst (n := 19) (v := 0) smd_T_push_18 rfl (by decide) ?_
  refine mm_iast (n := 20) (sma_T2 h_t) hT.1 smd_T_push_19 rfl ?_
  replace hT := hT.2
  refine mm_nam (fun h19 e_h19 => ?_)
  replace hT := hT h19 e_h19
  refine mm_aload_n (n := 21) (i := 0) smd_T_push_20 rfl rfl rfl ?_
  refine mm_get (n := 24) (v := .ref (mm_B Γ + (t + 4))) smk_T_21 (smb_T h_t) rfl smd_T_push_21 rfl ?_
  refine mm_aload_n (n := 25) (i := 0) smd_T_push_24 rfl rfl rfl ?_
  refine mm_get (n := 28) (v := .int (h19 t 5)) smk_T_27 (smb_T h_t) rfl smd_T_push_25 rfl ?_
  refine mm_iload_n (n := 29) (i := 3) smd_T_push_28 rfl rfl rfl ?_
  refine mm_iast (n := 30) (sma_T4 h_t) hT.1 smd_T_push_29 rfl ?_
  replace hT := hT.2
  refine mm_nam (fun h29 e_h29 => ?_)
  replace hT := hT h29 e_h29
  refine mm_aload_n (n := 31) (i := 0) smd_T_push_30 rfl rfl rfl ?_
  refine mm_dup (n := 32) smd_T_push_31 rfl rfl ?_
  refine mm_get (n := 35) (v := .int (h29 t 5)) smk_T_27 (smb_T h_t) rfl smd_T_push_32 rfl ?_
  refine mm_iconst (n := 36) (v := 1) smd_T_push_35 rfl (by decide) ?_
  refine mm_iadd (n := 37) smd_T_push_36 rfl ?_
  refine mm_put (n := 40) smk_T_27 smp_T_5 (smb_T h_t) rfl (Nat.le_of_ble_eq_true rfl) rfl rfl smd_T_push_37 rfl ?_
  refine mm_nam (fun h37 e_h37 => ?_)
  replace hT := hT h37 e_h37
  refine mm_aload_n (n := 41) (i := 0) smd_T_push_40 rfl rfl rfl ?_
  refine mm_iconst (n := 42) (v := 0) smd_T_push_41 rfl (by decide) ?_
  refine mm_iload_n (n := 43) (i := 2) smd_T_push_42 rfl rfl rfl ?_
  refine mm_callVV (n := 46) (As := [.int (0 : Int32), .int x2]) (rest := []) smv_T_setLocal smw_407 (smb_T h_t) (mm_hRm (by decide) (by decide)) smd_T_push_43 rfl rfl (Nat.le_of_ble_eq_true rfl) hT (fun h43 hT => ?_)
  refine mm_iconst (n := 47) (v := 1) smd_T_push_46 rfl (by decide) ?_
  refine mm_istore (n := 49) (i := 4) (L' := [some (.ref (mm_B Γ + t)), some (.int x1), some (.int x2), some (.int x3), some (.int (1 : Int32))]) smd_T_push_47 rfl (by decide) rfl ?_
  exact mm_weak (by refine ⟨rfl, rfl, trivial⟩) hT
set_option maxHeartbeats 4000000 in
set_option maxRecDepth 100000 in
theorem smr_T_push_49 {Γ : mm_Ctx} {post : mm_Mem → Prop} {h : mm_Mem} {t : Nat} (h_t : mm_isT t) (x4 : Int32) (hT : ((3 : Int32) ≤ x4 → (post h)) ∧ (¬ (3 : Int32) ≤ x4 → (mm_SV Γ smM_T_setLocal [.ref (mm_B Γ + t), .int x4, .int (0 : Int32)] h (fun h59 => mm_W Γ smM_T_push (mm_pV post) 49 [some (.ref (mm_B Γ + t)), none, none, none, some (.int (x4 + (1 : Int32)))] [] h59)))) : mm_W Γ smM_T_push (mm_pV post) 49 [some (.ref (mm_B Γ + t)), none, none, none, some (.int x4)] [] h := by
  refine mm_iload (n := 51) (i := 4) smd_T_push_49 rfl rfl ?_
  refine mm_iconst (n := 52) (v := 3) smd_T_push_51 rfl (by decide) ?_
  refine mm_icmp_ge (n := 55) (tgt := 68) smd_T_push_52 rfl rfl (fun hc => ?_) (fun hc => ?_)
  · replace hT := hT.1 hc
    exact mm_vret rfl smd_T_push_68 ⟨rfl, hT⟩
  · replace hT := hT.2 hc
    refine mm_aload_n (n := 56) (i := 0) smd_T_push_55 rfl rfl rfl ?_
    refine mm_iload (n := 58) (i := 4) smd_T_push_56 rfl rfl ?_
    refine mm_iconst (n := 59) (v := 0) smd_T_push_58 rfl (by decide) ?_
    refine mm_callVV (n := 62) (As := [.int x4, .int (0 : Int32)]) (rest := []) smv_T_setLocal smw_407 (smb_T h_t) (mm_hRm (by decide) (by decide)) smd_T_push_59 rfl rfl (Nat.le_of_ble_eq_true rfl) hT (fun h59 hT => ?_)
    refine mm_iinc (n := 65) (i := 4) (d := 1) (L' := [some (.ref (mm_B Γ + t)), none, none, none, some (.int (x4 + (1 : Int32)))]) smd_T_push_62 rfl rfl (by decide) (by decide) rfl ?_
    refine mm_goto (n := 49) smd_T_push_65 rfl ?_
    exact mm_weak (by refine ⟨rfl, rfl, trivial⟩) hT
set_option maxHeartbeats 4000000 in
set_option maxRecDepth 100000 in
theorem smr_T_giveBack {Γ : mm_Ctx} {post : mm_Mem → Prop} {h : mm_Mem} {t : Nat} (h_t : mm_isT t) (x1 : Int32) (hT : ∀ h7 : mm_Mem, h7 = mm_wr h t 5 ((h t 5) - (1 : Int32)) → ((¬ (h7 t 5) = 0 → ((vp_in (h7 t 5) 6) ∧ (mm_SV Γ smM_T_setLocal [.ref (mm_B Γ + t), .int (h7 (t + 4) (h7 t 5).toNatClampNeg), .int x1] h7 (fun h41 => post h41)))) ∧ ((h7 t 5) = 0 → (∀ h19 : mm_Mem, h19 = mm_wr h7 t 7 (2 : Int32) → (∀ h24 : mm_Mem, h24 = mm_wr h19 t 8 x1 → (post h24)))))) : mm_SV Γ smM_T_giveBack [.ref (mm_B Γ + t), .int x1] h post := by
  refine mm_spec0 (M := smM_T_giveBack) 0 (by decide +kernel) rfl (Nat.le_of_ble_eq_true rfl) ?_
  show mm_W Γ smM_T_giveBack (mm_pV post) 0 [some (.ref (mm_B Γ + t)), some (.int x1)] [] h
  refine mm_aload_n (n := 1) (i := 0) smd_T_giveBack_0 rfl rfl rfl ?_
  refine mm_dup (n := 2) smd_T_giveBack_1 rfl rfl ?_
  refine mm_get (n := 5) (v := .int (h t 5)) smk_T_27 (smb_T h_t) rfl smd_T_giveBack_2 rfl ?_
  refine mm_iconst (n := 6) (v := 1) smd_T_giveBack_5 rfl (by decide) ?_
  refine mm_isub (n := 7) smd_T_giveBack_6 rfl ?_
  refine mm_put (n := 10) smk_T_27 smp_T_5 (smb_T h_t) rfl (Nat.le_of_ble_eq_true rfl) rfl rfl smd_T_giveBack_7 rfl ?_
  refine mm_nam (fun h7 e_h7 => ?_)
  replace hT := hT h7 e_h7
  refine mm_aload_n (n := 11) (i := 0) smd_T_giveBack_10 rfl rfl rfl ?_
  refine mm_get (n := 14) (v := .int (h7 t 5)) smk_T_27 (smb_T h_t) rfl smd_T_giveBack_11 rfl ?_
  refine mm_if_ne (n := 17) (tgt := 30) smd_T_giveBack_14 rfl rfl (fun hc => ?_) (fun hc => ?_)
  · replace hT := hT.1 hc
    refine mm_aload_n (n := 31) (i := 0) smd_T_giveBack_30 rfl rfl rfl ?_
    refine mm_aload_n (n := 32) (i := 0) smd_T_giveBack_31 rfl rfl rfl ?_
    refine mm_get (n := 35) (v := .ref (mm_B Γ + (t + 4))) smk_T_21 (smb_T h_t) rfl smd_T_giveBack_32 rfl ?_
    refine mm_aload_n (n := 36) (i := 0) smd_T_giveBack_35 rfl rfl rfl ?_
    refine mm_get (n := 39) (v := .int (h7 t 5)) smk_T_27 (smb_T h_t) rfl smd_T_giveBack_36 rfl ?_
    refine mm_iald (n := 40) (sma_T4 h_t) hT.1 smd_T_giveBack_39 rfl ?_
    replace hT := hT.2
    refine mm_iload_n (n := 41) (i := 1) smd_T_giveBack_40 rfl rfl rfl ?_
    refine mm_callVV (n := 44) (As := [.int (h7 (t + 4) (h7 t 5).toNatClampNeg), .int x1]) (rest := []) smv_T_setLocal smw_407 (smb_T h_t) (mm_hRm (by decide) (by decide)) smd_T_giveBack_41 rfl rfl (Nat.le_of_ble_eq_true rfl) hT (fun h41 hT => ?_)
    exact mm_vret rfl smd_T_giveBack_44 ⟨rfl, hT⟩
  · replace hT := hT.2 hc
    refine mm_aload_n (n := 18) (i := 0) smd_T_giveBack_17 rfl rfl rfl ?_
    refine mm_iconst (n := 19) (v := 2) smd_T_giveBack_18 rfl (by decide) ?_
    refine mm_put (n := 22) smk_T_35 smp_T_7 (smb_T h_t) rfl (Nat.le_of_ble_eq_true rfl) rfl rfl smd_T_giveBack_19 rfl ?_
    refine mm_nam (fun h19 e_h19 => ?_)
    replace hT := hT h19 e_h19
    refine mm_aload_n (n := 23) (i := 0) smd_T_giveBack_22 rfl rfl rfl ?_
    refine mm_iload_n (n := 24) (i := 1) smd_T_giveBack_23 rfl rfl rfl ?_
    refine mm_put (n := 27) smk_T_38 smp_T_8 (smb_T h_t) rfl (Nat.le_of_ble_eq_true rfl) rfl rfl smd_T_giveBack_24 rfl ?_
    refine mm_nam (fun h24 e_h24 => ?_)
    replace hT := hT h24 e_h24
    refine mm_goto (n := 44) smd_T_giveBack_27 rfl ?_
    exact mm_vret rfl smd_T_giveBack_44 ⟨rfl, hT⟩
set_option maxHeartbeats 4000000 in
set_option maxRecDepth 100000 in
theorem smr_T_fail {Γ : mm_Ctx} {post : mm_Mem → Prop} {h : mm_Mem} {t : Nat} (h_t : mm_isT t) (hT : ∀ h2 : mm_Mem, h2 = mm_wr h t 5 (0 : Int32) → (∀ h7 : mm_Mem, h7 = mm_wr h2 t 7 (3 : Int32) → (post h7))) : mm_SV Γ smM_T_fail [.ref (mm_B Γ + t)] h post := by
  refine mm_spec0 (M := smM_T_fail) 0 (by decide +kernel) rfl (Nat.le_of_ble_eq_true rfl) ?_
  show mm_W Γ smM_T_fail (mm_pV post) 0 [some (.ref (mm_B Γ + t))] [] h
  refine mm_aload_n (n := 1) (i := 0) smd_T_fail_0 rfl rfl rfl ?_
  refine mm_iconst (n := 2) (v := 0) smd_T_fail_1 rfl (by decide) ?_
  refine mm_put (n := 5) smk_T_27 smp_T_5 (smb_T h_t) rfl (Nat.le_of_ble_eq_true rfl) rfl rfl smd_T_fail_2 rfl ?_
  refine mm_nam (fun h2 e_h2 => ?_)
  replace hT := hT h2 e_h2
  refine mm_aload_n (n := 6) (i := 0) smd_T_fail_5 rfl rfl rfl ?_
  refine mm_iconst (n := 7) (v := 3) smd_T_fail_6 rfl (by decide) ?_
  refine mm_put (n := 10) smk_T_35 smp_T_7 (smb_T h_t) rfl (Nat.le_of_ble_eq_true rfl) rfl rfl smd_T_fail_7 rfl ?_
  refine mm_nam (fun h7 e_h7 => ?_)
  replace hT := hT h7 e_h7
  exact mm_vret rfl smd_T_fail_10 ⟨rfl, hT⟩
set_option maxHeartbeats 4000000 in
set_option maxRecDepth 100000 in
theorem smr_T_enqueue {Γ : mm_Ctx} {post : mm_Mem → Prop} {h : mm_Mem} {t : Nat} (h_t : mm_isT t) (x1 : Int32) (hT : (vp_in (h t 6) 8) ∧ (∀ h9 : mm_Mem, h9 = mm_wr h (t + 5) (h t 6).toNatClampNeg x1 → (∀ h17 : mm_Mem, h17 = mm_wr h9 t 6 ((h9 t 6) + (1 : Int32)) → (post h17)))) : mm_SV Γ smM_T_enqueue [.ref (mm_B Γ + t), .int x1] h post := by
  refine mm_spec0 (M := smM_T_enqueue) 0 (by decide +kernel) rfl (Nat.le_of_ble_eq_true rfl) ?_
  show mm_W Γ smM_T_enqueue (mm_pV post) 0 [some (.ref (mm_B Γ + t)), some (.int x1)] [] h
  refine mm_aload_n (n := 1) (i := 0) smd_T_enqueue_0 rfl rfl rfl ?_
  refine mm_get (n := 4) (v := .ref (mm_B Γ + (t + 5))) smk_T_24 (smb_T h_t) rfl smd_T_enqueue_1 rfl ?_
  refine mm_aload_n (n := 5) (i := 0) smd_T_enqueue_4 rfl rfl rfl ?_
  refine mm_get (n := 8) (v := .int (h t 6)) smk_T_41 (smb_T h_t) rfl smd_T_enqueue_5 rfl ?_
  refine mm_iload_n (n := 9) (i := 1) smd_T_enqueue_8 rfl rfl rfl ?_
  refine mm_iast (n := 10) (sma_T5 h_t) hT.1 smd_T_enqueue_9 rfl ?_
  replace hT := hT.2
  refine mm_nam (fun h9 e_h9 => ?_)
  replace hT := hT h9 e_h9
  refine mm_aload_n (n := 11) (i := 0) smd_T_enqueue_10 rfl rfl rfl ?_
  refine mm_dup (n := 12) smd_T_enqueue_11 rfl rfl ?_
  refine mm_get (n := 15) (v := .int (h9 t 6)) smk_T_41 (smb_T h_t) rfl smd_T_enqueue_12 rfl ?_
  refine mm_iconst (n := 16) (v := 1) smd_T_enqueue_15 rfl (by decide) ?_
  refine mm_iadd (n := 17) smd_T_enqueue_16 rfl ?_
  refine mm_put (n := 20) smk_T_41 smp_T_6 (smb_T h_t) rfl (Nat.le_of_ble_eq_true rfl) rfl rfl smd_T_enqueue_17 rfl ?_
  refine mm_nam (fun h17 e_h17 => ?_)
  replace hT := hT h17 e_h17
  exact mm_vret rfl smd_T_enqueue_20 ⟨rfl, hT⟩
set_option maxHeartbeats 4000000 in
set_option maxRecDepth 100000 in
theorem smr_T_takeOldest {Γ : mm_Ctx} {post : Int32 → mm_Mem → Prop} {h : mm_Mem} {t : Nat} (h_t : mm_isT t) (hT : (vp_in (0 : Int32) 8) ∧ (∀ y1_6 : Int32, y1_6 = h (t + 5) (0 : Int32).toNatClampNeg → (mm_W Γ smM_T_takeOldest (mm_pI post) 9 [some (.ref (mm_B Γ + t)), some (.int y1_6), some (.int (1 : Int32))] [] h))) : mm_SI Γ smM_T_takeOldest [.ref (mm_B Γ + t)] h post := by
  refine mm_spec0 (M := smM_T_takeOldest) 2 (by decide +kernel) rfl (Nat.le_of_ble_eq_true rfl) ?_
  show mm_W Γ smM_T_takeOldest (mm_pI post) 0 [some (.ref (mm_B Γ + t)), none, none] [] h
  refine mm_aload_n (n := 1) (i := 0) smd_T_takeOldest_0 rfl rfl rfl ?_
  refine mm_get (n := 4) (v := .ref (mm_B Γ + (t + 5))) smk_T_24 (smb_T h_t) rfl smd_T_takeOldest_1 rfl ?_
  refine mm_iconst (n := 5) (v := 0) smd_T_takeOldest_4 rfl (by decide) ?_
  refine mm_iald (n := 6) (sma_T5 h_t) hT.1 smd_T_takeOldest_5 rfl ?_
  replace hT := hT.2
  refine mm_top (fun y1_6 e_y1_6 => ?_)
  replace hT := hT y1_6 e_y1_6
  refine mm_istore_n (n := 7) (i := 1) (L' := [some (.ref (mm_B Γ + t)), some (.int y1_6), none]) smd_T_takeOldest_6 rfl rfl (by decide) rfl ?_
  refine mm_iconst (n := 8) (v := 1) smd_T_takeOldest_7 rfl (by decide) ?_
  refine mm_istore_n (n := 9) (i := 2) (L' := [some (.ref (mm_B Γ + t)), some (.int y1_6), some (.int (1 : Int32))]) smd_T_takeOldest_8 rfl rfl (by decide) rfl ?_
  exact mm_weak (by refine ⟨rfl, rfl, rfl, trivial⟩) hT
set_option maxHeartbeats 4000000 in
set_option maxRecDepth 100000 in
theorem smr_T_takeOldest_9 {Γ : mm_Ctx} {post : Int32 → mm_Mem → Prop} {h : mm_Mem} {t : Nat} (h_t : mm_isT t) (x1 : Int32) (x2 : Int32) (hT : ((h t 6) ≤ x2 → (∀ h44 : mm_Mem, h44 = mm_wr h t 6 ((h t 6) - (1 : Int32)) → (post x1 h44))) ∧ (¬ (h t 6) ≤ x2 → ((vp_in x2 8) ∧ ((vp_in (x2 - (1 : Int32)) 8) ∧ (∀ h30 : mm_Mem, h30 = mm_wr h (t + 5) (x2 - (1 : Int32)).toNatClampNeg (h (t + 5) x2.toNatClampNeg) → (mm_W Γ smM_T_takeOldest (mm_pI post) 9 [some (.ref (mm_B Γ + t)), some (.int x1), some (.int (x2 + (1 : Int32)))] [] h30)))))) : mm_W Γ smM_T_takeOldest (mm_pI post) 9 [some (.ref (mm_B Γ + t)), some (.int x1), some (.int x2)] [] h := by
  refine mm_iload_n (n := 10) (i := 2) smd_T_takeOldest_9 rfl rfl rfl ?_
  refine mm_aload_n (n := 11) (i := 0) smd_T_takeOldest_10 rfl rfl rfl ?_
  refine mm_get (n := 14) (v := .int (h t 6)) smk_T_41 (smb_T h_t) rfl smd_T_takeOldest_11 rfl ?_
  refine mm_icmp_ge (n := 17) (tgt := 37) smd_T_takeOldest_14 rfl rfl (fun hc => ?_) (fun hc => ?_)
  · replace hT := hT.1 hc
    refine mm_aload_n (n := 38) (i := 0) smd_T_takeOldest_37 rfl rfl rfl ?_
    refine mm_dup (n := 39) smd_T_takeOldest_38 rfl rfl ?_
    refine mm_get (n := 42) (v := .int (h t 6)) smk_T_41 (smb_T h_t) rfl smd_T_takeOldest_39 rfl ?_
    refine mm_iconst (n := 43) (v := 1) smd_T_takeOldest_42 rfl (by decide) ?_
    refine mm_isub (n := 44) smd_T_takeOldest_43 rfl ?_
    refine mm_put (n := 47) smk_T_41 smp_T_6 (smb_T h_t) rfl (Nat.le_of_ble_eq_true rfl) rfl rfl smd_T_takeOldest_44 rfl ?_
    refine mm_nam (fun h44 e_h44 => ?_)
    replace hT := hT h44 e_h44
    refine mm_iload_n (n := 48) (i := 1) smd_T_takeOldest_47 rfl rfl rfl ?_
    exact mm_iret rfl smd_T_takeOldest_48 ⟨_, rfl, hT⟩
  · replace hT := hT.2 hc
    refine mm_aload_n (n := 18) (i := 0) smd_T_takeOldest_17 rfl rfl rfl ?_
    refine mm_get (n := 21) (v := .ref (mm_B Γ + (t + 5))) smk_T_24 (smb_T h_t) rfl smd_T_takeOldest_18 rfl ?_
    refine mm_iload_n (n := 22) (i := 2) smd_T_takeOldest_21 rfl rfl rfl ?_
    refine mm_iconst (n := 23) (v := 1) smd_T_takeOldest_22 rfl (by decide) ?_
    refine mm_isub (n := 24) smd_T_takeOldest_23 rfl ?_
    refine mm_aload_n (n := 25) (i := 0) smd_T_takeOldest_24 rfl rfl rfl ?_
    refine mm_get (n := 28) (v := .ref (mm_B Γ + (t + 5))) smk_T_24 (smb_T h_t) rfl smd_T_takeOldest_25 rfl ?_
    refine mm_iload_n (n := 29) (i := 2) smd_T_takeOldest_28 rfl rfl rfl ?_
    refine mm_iald (n := 30) (sma_T5 h_t) hT.1 smd_T_takeOldest_29 rfl ?_
    replace hT := hT.2
    refine mm_iast (n := 31) (sma_T5 h_t) hT.1 smd_T_takeOldest_30 rfl ?_
    replace hT := hT.2
    refine mm_nam (fun h30 e_h30 => ?_)
    replace hT := hT h30 e_h30
    refine mm_iinc (n := 34) (i := 2) (d := 1) (L' := [some (.ref (mm_B Γ + t)), some (.int x1), some (.int (x2 + (1 : Int32)))]) smd_T_takeOldest_31 rfl rfl (by decide) (by decide) rfl ?_
    refine mm_goto (n := 9) smd_T_takeOldest_34 rfl ?_
    exact mm_weak (by refine ⟨rfl, rfl, rfl, trivial⟩) hT
set_option maxHeartbeats 4000000 in
set_option maxRecDepth 100000 in
theorem smr_V_at {Γ : mm_Ctx} {post : Int32 → mm_Mem → Prop} {h : mm_Mem} (x0 : Int32) (x1 : Int32) (hT : post ((x0 * (12 : Int32)) + x1) h) : mm_SI Γ smM_V_at [.int x0, .int x1] h post := by
  refine mm_spec0 (M := smM_V_at) 0 (by decide +kernel) rfl (Nat.le_of_ble_eq_true rfl) ?_
  show mm_W Γ smM_V_at (mm_pI post) 0 [some (.int x0), some (.int x1)] [] h
  refine mm_iload_n (n := 1) (i := 0) smd_V_at_0 rfl rfl rfl ?_
  refine mm_bipush (n := 3) (v := 12) smd_V_at_1 rfl (by decide) ?_
  refine mm_imul (n := 4) smd_V_at_3 rfl ?_
  refine mm_iload_n (n := 5) (i := 1) smd_V_at_4 rfl rfl rfl ?_
  refine mm_iadd (n := 6) smd_V_at_5 rfl ?_
  exact mm_iret rfl smd_V_at_6 ⟨_, rfl, hT⟩
set_option maxHeartbeats 4000000 in
set_option maxRecDepth 100000 in
theorem smr_V_hasProcedure {Γ : mm_Ctx} {post : Int32 → mm_Mem → Prop} {h : mm_Mem} {v : Nat} (h_v : v = 1 ∨ v = 8) (x1 : Int32) (hT : mm_SI Γ smM_S_isWithin [.int x1, .int (6 : Int32)] h (fun r3 h3 => (r3 = 0 → (post (0 : Int32) h3)) ∧ (¬ r3 = 0 → ((vp_in x1 6) ∧ (((h3 (v + 1) x1.toNatClampNeg) ≤ 0 → (post (0 : Int32) h3)) ∧ (¬ (h3 (v + 1) x1.toNatClampNeg) ≤ 0 → (post (1 : Int32) h3))))))) : mm_SI Γ smM_V_hasProcedure [.ref (mm_B Γ + v), .int x1] h post := by
  refine mm_spec0 (M := smM_V_hasProcedure) 0 (by decide +kernel) rfl (Nat.le_of_ble_eq_true rfl) ?_
  show mm_W Γ smM_V_hasProcedure (mm_pI post) 0 [some (.ref (mm_B Γ + v)), some (.int x1)] [] h
  refine mm_iload_n (n := 1) (i := 1) smd_V_hasProcedure_0 rfl rfl rfl ?_
  refine mm_bipush (n := 3) (v := 6) smd_V_hasProcedure_1 rfl (by decide) ?_
  refine mm_callSNI (n := 6) (As := [.int x1, .int (6 : Int32)]) (rest := []) smv_S_isWithin rfl (mm_hRm (by decide) (by decide)) smd_V_hasProcedure_3 rfl rfl (Nat.le_of_ble_eq_true rfl) hT (fun r3 h3 hT => ?_)
  refine mm_if_eq (n := 9) (tgt := 22) smd_V_hasProcedure_6 rfl rfl (fun hc => ?_) (fun hc => ?_)
  · replace hT := hT.1 hc
    refine mm_iconst (n := 23) (v := 0) smd_V_hasProcedure_22 rfl (by decide) ?_
    exact mm_zret rfl (Or.inl rfl) smd_V_hasProcedure_23 ⟨_, rfl, hT⟩
  · replace hT := hT.2 hc
    refine mm_aload_n (n := 10) (i := 0) smd_V_hasProcedure_9 rfl rfl rfl ?_
    refine mm_get (n := 13) (v := .ref (mm_B Γ + (v + 1))) smk_V_9 (smb_V h_v) rfl smd_V_hasProcedure_10 rfl ?_
    refine mm_iload_n (n := 14) (i := 1) smd_V_hasProcedure_13 rfl rfl rfl ?_
    refine mm_iald (n := 15) (sma_V1 h_v) hT.1 smd_V_hasProcedure_14 rfl ?_
    replace hT := hT.2
    refine mm_if_le (n := 18) (tgt := 22) smd_V_hasProcedure_15 rfl rfl (fun hc => ?_) (fun hc => ?_)
    · replace hT := hT.1 hc
      refine mm_iconst (n := 23) (v := 0) smd_V_hasProcedure_22 rfl (by decide) ?_
      exact mm_zret rfl (Or.inl rfl) smd_V_hasProcedure_23 ⟨_, rfl, hT⟩
    · replace hT := hT.2 hc
      refine mm_iconst (n := 19) (v := 1) smd_V_hasProcedure_18 rfl (by decide) ?_
      refine mm_goto (n := 23) smd_V_hasProcedure_19 rfl ?_
      exact mm_zret rfl (Or.inr rfl) smd_V_hasProcedure_23 ⟨_, rfl, hT⟩
set_option maxHeartbeats 4000000 in
set_option maxRecDepth 100000 in
theorem smr_V_write {Γ : mm_Ctx} {post : mm_Mem → Prop} {h : mm_Mem} {v : Nat} (h_v : v = 1 ∨ v = 8) (x1 : Int32) (x2 : Int32) (x3 : Int32) (x4 : Int32) (x5 : Int32) (x6 : Int32) (hT : mm_SI Γ smM_V_at [.int x1, .int x2] h (fun r2 h2 => (vp_in r2 72) ∧ (∀ h14 : mm_Mem, h14 = mm_wr h2 (v + 2) r2.toNatClampNeg x3 → ((vp_in r2 72) ∧ (∀ h23 : mm_Mem, h23 = mm_wr h14 (v + 3) r2.toNatClampNeg x4 → ((vp_in r2 72) ∧ (∀ h32 : mm_Mem, h32 = mm_wr h23 (v + 4) r2.toNatClampNeg x5 → ((vp_in r2 72) ∧ (∀ h41 : mm_Mem, h41 = mm_wr h32 (v + 5) r2.toNatClampNeg x6 → ((vp_in x1 6) ∧ ((vp_in x1 6) ∧ (∀ h59 : mm_Mem, h59 = mm_wr h41 (v + 1) x1.toNatClampNeg (if (h41 (v + 1) x1.toNatClampNeg) < (x2 + (1 : Int32)) then (x2 + (1 : Int32)) else (h41 (v + 1) x1.toNatClampNeg)) → (post h59))))))))))))) : mm_SV Γ smM_V_write [.ref (mm_B Γ + v), .int x1, .int x2, .int x3, .int x4, .int x5, .int x6] h post := by
  refine mm_spec0 (M := smM_V_write) 1 (by decide +kernel) rfl (Nat.le_of_ble_eq_true rfl) ?_
  show mm_W Γ smM_V_write (mm_pV post) 0 [some (.ref (mm_B Γ + v)), some (.int x1), some (.int x2), some (.int x3), some (.int x4), some (.int x5), some (.int x6), none] [] h
  refine mm_iload_n (n := 1) (i := 1) smd_V_write_0 rfl rfl rfl ?_
  refine mm_iload_n (n := 2) (i := 2) smd_V_write_1 rfl rfl rfl ?_
  refine mm_callSI (n := 5) (As := [.int x1, .int x2]) (rest := []) smv_V_at smw_223 (mm_hRm (by decide) (by decide)) smd_V_write_2 rfl rfl (Nat.le_of_ble_eq_true rfl) hT (fun r2 h2 hT => ?_)
  refine mm_istore (n := 7) (i := 7) (L' := [some (.ref (mm_B Γ + v)), some (.int x1), some (.int x2), some (.int x3), some (.int x4), some (.int x5), some (.int x6), some (.int r2)]) smd_V_write_5 rfl (by decide) rfl ?_
  refine mm_aload_n (n := 8) (i := 0) smd_V_write_7 rfl rfl rfl ?_
  refine mm_get (n := 11) (v := .ref (mm_B Γ + (v + 2))) smk_V_15 (smb_V h_v) rfl smd_V_write_8 rfl ?_
  refine mm_iload (n := 13) (i := 7) smd_V_write_11 rfl rfl ?_
  refine mm_iload_n (n := 14) (i := 3) smd_V_write_13 rfl rfl rfl ?_
  refine mm_iast (n := 15) (sma_V2 h_v) hT.1 smd_V_write_14 rfl ?_
  replace hT := hT.2
  refine mm_nam (fun h14 e_h14 => ?_)
  replace hT := hT h14 e_h14
  refine mm_aload_n (n := 16) (i := 0) smd_V_write_15 rfl rfl rfl ?_
  refine mm_get (n := 19) (v := .ref (mm_B Γ + (v + 3))) smk_V_18 (smb_V h_v) rfl smd_V_write_16 rfl ?_
  refine mm_iload (n := 21) (i := 7) smd_V_write_19 rfl rfl ?_
  refine mm_iload (n := 23) (i := 4) smd_V_write_21 rfl rfl ?_
  refine mm_iast (n := 24) (sma_V3 h_v) hT.1 smd_V_write_23 rfl ?_
  replace hT := hT.2
  refine mm_nam (fun h23 e_h23 => ?_)
  replace hT := hT h23 e_h23
  refine mm_aload_n (n := 25) (i := 0) smd_V_write_24 rfl rfl rfl ?_
  refine mm_get (n := 28) (v := .ref (mm_B Γ + (v + 4))) smk_V_21 (smb_V h_v) rfl smd_V_write_25 rfl ?_
  refine mm_iload (n := 30) (i := 7) smd_V_write_28 rfl rfl ?_
  refine mm_iload (n := 32) (i := 5) smd_V_write_30 rfl rfl ?_
  refine mm_iast (n := 33) (sma_V4 h_v) hT.1 smd_V_write_32 rfl ?_
  replace hT := hT.2
  refine mm_nam (fun h32 e_h32 => ?_)
  replace hT := hT h32 e_h32
  refine mm_aload_n (n := 34) (i := 0) smd_V_write_33 rfl rfl rfl ?_
  refine mm_get (n := 37) (v := .ref (mm_B Γ + (v + 5))) smk_V_24 (smb_V h_v) rfl smd_V_write_34 rfl ?_
  refine mm_iload (n := 39) (i := 7) smd_V_write_37 rfl rfl ?_
  refine mm_iload (n := 41) (i := 6) smd_V_write_39 rfl rfl ?_
  refine mm_iast (n := 42) (sma_V5 h_v) hT.1 smd_V_write_41 rfl ?_
  replace hT := hT.2
  refine mm_nam (fun h41 e_h41 => ?_)
  replace hT := hT h41 e_h41
  refine mm_aload_n (n := 43) (i := 0) smd_V_write_42 rfl rfl rfl ?_
  refine mm_get (n := 46) (v := .ref (mm_B Γ + (v + 1))) smk_V_9 (smb_V h_v) rfl smd_V_write_43 rfl ?_
  refine mm_iload_n (n := 47) (i := 1) smd_V_write_46 rfl rfl rfl ?_
  refine mm_aload_n (n := 48) (i := 0) smd_V_write_47 rfl rfl rfl ?_
  refine mm_get (n := 51) (v := .ref (mm_B Γ + (v + 1))) smk_V_9 (smb_V h_v) rfl smd_V_write_48 rfl ?_
  refine mm_iload_n (n := 52) (i := 1) smd_V_write_51 rfl rfl rfl ?_
  refine mm_iald (n := 53) (sma_V1 h_v) hT.1 smd_V_write_52 rfl ?_
  replace hT := hT.2
  refine mm_iload_n (n := 54) (i := 2) smd_V_write_53 rfl rfl rfl ?_
  refine mm_iconst (n := 55) (v := 1) smd_V_write_54 rfl (by decide) ?_
  refine mm_iadd (n := 56) smd_V_write_55 rfl ?_
  refine mm_max (n := 59) smx_V_38 ⟨Nat.le_of_ble_eq_true rfl, Nat.le_of_ble_eq_true rfl, Nat.le_refl _, Nat.le_refl _⟩ smd_V_write_56 rfl ?_
  refine mm_iast (n := 60) (sma_V1 h_v) hT.1 smd_V_write_59 rfl ?_
  replace hT := hT.2
  refine mm_nam (fun h59 e_h59 => ?_)
  replace hT := hT h59 e_h59
  exact mm_vret rfl smd_V_write_60 ⟨rfl, hT⟩
set_option maxHeartbeats 4000000 in
set_option maxRecDepth 100000 in
theorem smr_V_copyFrom {Γ : mm_Ctx} {post : mm_Mem → Prop} {h : mm_Mem} {v : Nat} (h_v : v = 1 ∨ v = 8) {u1 : Nat} (h_u1 : u1 = 1 ∨ u1 = 8) (hT : ∀ h15 : mm_Mem, h15 = mm_cp h (u1 + 1) (v + 1) 6 → (∀ h33 : mm_Mem, h33 = mm_cp h15 (u1 + 2) (v + 2) 72 → (∀ h51 : mm_Mem, h51 = mm_cp h33 (u1 + 3) (v + 3) 72 → (∀ h69 : mm_Mem, h69 = mm_cp h51 (u1 + 4) (v + 4) 72 → (∀ h87 : mm_Mem, h87 = mm_cp h69 (u1 + 5) (v + 5) 72 → (∀ h105 : mm_Mem, h105 = mm_cp h87 (u1 + 6) (v + 6) 3 → (post h105))))))) : mm_SV Γ smM_V_copyFrom [.ref (mm_B Γ + v), .ref (mm_B Γ + u1)] h post := by
  refine mm_spec0 (M := smM_V_copyFrom) 0 (by decide +kernel) rfl (Nat.le_of_ble_eq_true rfl) ?_
  show mm_W Γ smM_V_copyFrom (mm_pV post) 0 [some (.ref (mm_B Γ + v)), some (.ref (mm_B Γ + u1))] [] h
  refine mm_aload_n (n := 1) (i := 1) smd_V_copyFrom_0 rfl rfl rfl ?_
  refine mm_get (n := 4) (v := .ref (mm_B Γ + (u1 + 1))) smk_V_9 (smb_V h_u1) rfl smd_V_copyFrom_1 rfl ?_
  refine mm_iconst (n := 5) (v := 0) smd_V_copyFrom_4 rfl (by decide) ?_
  refine mm_aload_n (n := 6) (i := 0) smd_V_copyFrom_5 rfl rfl rfl ?_
  refine mm_get (n := 9) (v := .ref (mm_B Γ + (v + 1))) smk_V_9 (smb_V h_v) rfl smd_V_copyFrom_6 rfl ?_
  refine mm_iconst (n := 10) (v := 0) smd_V_copyFrom_9 rfl (by decide) ?_
  refine mm_aload_n (n := 11) (i := 0) smd_V_copyFrom_10 rfl rfl rfl ?_
  refine mm_get (n := 14) (v := .ref (mm_B Γ + (v + 1))) smk_V_9 (smb_V h_v) rfl smd_V_copyFrom_11 rfl ?_
  refine mm_alen (n := 15) (v := 6) (sma_V1 h_v) (by decide) smd_V_copyFrom_14 rfl ?_
  refine mm_copy (n := 18) (q0 := (u1 + 1)) (q1 := (v + 1)) smc_V_43 (sma_V1 h_u1) (sma_V1 h_v) (by decide) (by decide) ⟨Nat.le_of_ble_eq_true rfl, Nat.le_of_ble_eq_true rfl⟩ smd_V_copyFrom_15 rfl ?_
  refine mm_nam (fun h15 e_h15 => ?_)
  replace hT := hT h15 e_h15
  refine mm_aload_n (n := 19) (i := 1) smd_V_copyFrom_18 rfl rfl rfl ?_
  refine mm_get (n := 22) (v := .ref (mm_B Γ + (u1 + 2))) smk_V_15 (smb_V h_u1) rfl smd_V_copyFrom_19 rfl ?_
  refine mm_iconst (n := 23) (v := 0) smd_V_copyFrom_22 rfl (by decide) ?_
  refine mm_aload_n (n := 24) (i := 0) smd_V_copyFrom_23 rfl rfl rfl ?_
  refine mm_get (n := 27) (v := .ref (mm_B Γ + (v + 2))) smk_V_15 (smb_V h_v) rfl smd_V_copyFrom_24 rfl ?_
  refine mm_iconst (n := 28) (v := 0) smd_V_copyFrom_27 rfl (by decide) ?_
  refine mm_aload_n (n := 29) (i := 0) smd_V_copyFrom_28 rfl rfl rfl ?_
  refine mm_get (n := 32) (v := .ref (mm_B Γ + (v + 2))) smk_V_15 (smb_V h_v) rfl smd_V_copyFrom_29 rfl ?_
  refine mm_alen (n := 33) (v := 72) (sma_V2 h_v) (by decide) smd_V_copyFrom_32 rfl ?_
  refine mm_copy (n := 36) (q0 := (u1 + 2)) (q1 := (v + 2)) smc_V_43 (sma_V2 h_u1) (sma_V2 h_v) (by decide) (by decide) ⟨Nat.le_of_ble_eq_true rfl, Nat.le_of_ble_eq_true rfl⟩ smd_V_copyFrom_33 rfl ?_
  refine mm_nam (fun h33 e_h33 => ?_)
  replace hT := hT h33 e_h33
  refine mm_aload_n (n := 37) (i := 1) smd_V_copyFrom_36 rfl rfl rfl ?_
  refine mm_get (n := 40) (v := .ref (mm_B Γ + (u1 + 3))) smk_V_18 (smb_V h_u1) rfl smd_V_copyFrom_37 rfl ?_
  refine mm_iconst (n := 41) (v := 0) smd_V_copyFrom_40 rfl (by decide) ?_
  refine mm_aload_n (n := 42) (i := 0) smd_V_copyFrom_41 rfl rfl rfl ?_
  refine mm_get (n := 45) (v := .ref (mm_B Γ + (v + 3))) smk_V_18 (smb_V h_v) rfl smd_V_copyFrom_42 rfl ?_
  refine mm_iconst (n := 46) (v := 0) smd_V_copyFrom_45 rfl (by decide) ?_
  refine mm_aload_n (n := 47) (i := 0) smd_V_copyFrom_46 rfl rfl rfl ?_
  refine mm_get (n := 50) (v := .ref (mm_B Γ + (v + 3))) smk_V_18 (smb_V h_v) rfl smd_V_copyFrom_47 rfl ?_
  refine mm_alen (n := 51) (v := 72) (sma_V3 h_v) (by decide) smd_V_copyFrom_50 rfl ?_
  refine mm_copy (n := 54) (q0 := (u1 + 3)) (q1 := (v + 3)) smc_V_43 (sma_V3 h_u1) (sma_V3 h_v) (by decide) (by decide) ⟨Nat.le_of_ble_eq_true rfl, Nat.le_of_ble_eq_true rfl⟩ smd_V_copyFrom_51 rfl ?_
  refine mm_nam (fun h51 e_h51 => ?_)
  replace hT := hT h51 e_h51
  refine mm_aload_n (n := 55) (i := 1) smd_V_copyFrom_54 rfl rfl rfl ?_
  refine mm_get (n := 58) (v := .ref (mm_B Γ + (u1 + 4))) smk_V_21 (smb_V h_u1) rfl smd_V_copyFrom_55 rfl ?_
  refine mm_iconst (n := 59) (v := 0) smd_V_copyFrom_58 rfl (by decide) ?_
  refine mm_aload_n (n := 60) (i := 0) smd_V_copyFrom_59 rfl rfl rfl ?_
  refine mm_get (n := 63) (v := .ref (mm_B Γ + (v + 4))) smk_V_21 (smb_V h_v) rfl smd_V_copyFrom_60 rfl ?_
  refine mm_iconst (n := 64) (v := 0) smd_V_copyFrom_63 rfl (by decide) ?_
  refine mm_aload_n (n := 65) (i := 0) smd_V_copyFrom_64 rfl rfl rfl ?_
  refine mm_get (n := 68) (v := .ref (mm_B Γ + (v + 4))) smk_V_21 (smb_V h_v) rfl smd_V_copyFrom_65 rfl ?_
  refine mm_alen (n := 69) (v := 72) (sma_V4 h_v) (by decide) smd_V_copyFrom_68 rfl ?_
  refine mm_copy (n := 72) (q0 := (u1 + 4)) (q1 := (v + 4)) smc_V_43 (sma_V4 h_u1) (sma_V4 h_v) (by decide) (by decide) ⟨Nat.le_of_ble_eq_true rfl, Nat.le_of_ble_eq_true rfl⟩ smd_V_copyFrom_69 rfl ?_
  refine mm_nam (fun h69 e_h69 => ?_)
  replace hT := hT h69 e_h69
  refine mm_aload_n (n := 73) (i := 1) smd_V_copyFrom_72 rfl rfl rfl ?_
  refine mm_get (n := 76) (v := .ref (mm_B Γ + (u1 + 5))) smk_V_24 (smb_V h_u1) rfl smd_V_copyFrom_73 rfl ?_
  refine mm_iconst (n := 77) (v := 0) smd_V_copyFrom_76 rfl (by decide) ?_
  refine mm_aload_n (n := 78) (i := 0) smd_V_copyFrom_77 rfl rfl rfl ?_
  refine mm_get (n := 81) (v := .ref (mm_B Γ + (v + 5))) smk_V_24 (smb_V h_v) rfl smd_V_copyFrom_78 rfl ?_
  refine mm_iconst (n := 82) (v := 0) smd_V_copyFrom_81 rfl (by decide) ?_
  refine mm_aload_n (n := 83) (i := 0) smd_V_copyFrom_82 rfl rfl rfl ?_
  refine mm_get (n := 86) (v := .ref (mm_B Γ + (v + 5))) smk_V_24 (smb_V h_v) rfl smd_V_copyFrom_83 rfl ?_
  refine mm_alen (n := 87) (v := 72) (sma_V5 h_v) (by decide) smd_V_copyFrom_86 rfl ?_
  refine mm_copy (n := 90) (q0 := (u1 + 5)) (q1 := (v + 5)) smc_V_43 (sma_V5 h_u1) (sma_V5 h_v) (by decide) (by decide) ⟨Nat.le_of_ble_eq_true rfl, Nat.le_of_ble_eq_true rfl⟩ smd_V_copyFrom_87 rfl ?_
  refine mm_nam (fun h87 e_h87 => ?_)
  replace hT := hT h87 e_h87
  refine mm_aload_n (n := 91) (i := 1) smd_V_copyFrom_90 rfl rfl rfl ?_
  refine mm_get (n := 94) (v := .ref (mm_B Γ + (u1 + 6))) smk_V_27 (smb_V h_u1) rfl smd_V_copyFrom_91 rfl ?_
  refine mm_iconst (n := 95) (v := 0) smd_V_copyFrom_94 rfl (by decide) ?_
  refine mm_aload_n (n := 96) (i := 0) smd_V_copyFrom_95 rfl rfl rfl ?_
  refine mm_get (n := 99) (v := .ref (mm_B Γ + (v + 6))) smk_V_27 (smb_V h_v) rfl smd_V_copyFrom_96 rfl ?_
  refine mm_iconst (n := 100) (v := 0) smd_V_copyFrom_99 rfl (by decide) ?_
  refine mm_aload_n (n := 101) (i := 0) smd_V_copyFrom_100 rfl rfl rfl ?_
  refine mm_get (n := 104) (v := .ref (mm_B Γ + (v + 6))) smk_V_27 (smb_V h_v) rfl smd_V_copyFrom_101 rfl ?_
  refine mm_alen (n := 105) (v := 3) (sma_V6 h_v) (by decide) smd_V_copyFrom_104 rfl ?_
  refine mm_copy (n := 108) (q0 := (u1 + 6)) (q1 := (v + 6)) smc_V_43 (sma_V6 h_u1) (sma_V6 h_v) (by decide) (by decide) ⟨Nat.le_of_ble_eq_true rfl, Nat.le_of_ble_eq_true rfl⟩ smd_V_copyFrom_105 rfl ?_
  refine mm_nam (fun h105 e_h105 => ?_)
  replace hT := hT h105 e_h105
  exact mm_vret rfl smd_V_copyFrom_108 ⟨rfl, hT⟩
set_option maxHeartbeats 4000000 in
set_option maxRecDepth 100000 in
theorem smr_V_hasSameProcedure {Γ : mm_Ctx} {post : Int32 → mm_Mem → Prop} {h : mm_Mem} {v : Nat} (h_v : v = 1 ∨ v = 8) {u1 : Nat} (h_u1 : u1 = 1 ∨ u1 = 8) (x2 : Int32) (hT : (vp_in x2 6) ∧ ((vp_in x2 6) ∧ (((h (v + 1) x2.toNatClampNeg) = (h (u1 + 1) x2.toNatClampNeg) → (mm_SI Γ smM_V_at [.int x2, .int (0 : Int32)] h (fun r19 h19 => mm_W Γ smM_V_hasSameProcedure (mm_pI post) 23 [some (.ref (mm_B Γ + v)), some (.ref (mm_B Γ + u1)), some (.int x2), some (.int r19)] [] h19))) ∧ (¬ (h (v + 1) x2.toNatClampNeg) = (h (u1 + 1) x2.toNatClampNeg) → (post (0 : Int32) h))))) : mm_SI Γ smM_V_hasSameProcedure [.ref (mm_B Γ + v), .ref (mm_B Γ + u1), .int x2] h post := by
  refine mm_spec0 (M := smM_V_hasSameProcedure) 1 (by decide +kernel) rfl (Nat.le_of_ble_eq_true rfl) ?_
  show mm_W Γ smM_V_hasSameProcedure (mm_pI post) 0 [some (.ref (mm_B Γ + v)), some (.ref (mm_B Γ + u1)), some (.int x2), none] [] h
  refine mm_aload_n (n := 1) (i := 0) smd_V_hasSameProcedure_0 rfl rfl rfl ?_
  refine mm_get (n := 4) (v := .ref (mm_B Γ + (v + 1))) smk_V_9 (smb_V h_v) rfl smd_V_hasSameProcedure_1 rfl ?_
  refine mm_iload_n (n := 5) (i := 2) smd_V_hasSameProcedure_4 rfl rfl rfl ?_
  refine mm_iald (n := 6) (sma_V1 h_v) hT.1 smd_V_hasSameProcedure_5 rfl ?_
  replace hT := hT.2
  refine mm_aload_n (n := 7) (i := 1) smd_V_hasSameProcedure_6 rfl rfl rfl ?_
  refine mm_get (n := 10) (v := .ref (mm_B Γ + (u1 + 1))) smk_V_9 (smb_V h_u1) rfl smd_V_hasSameProcedure_7 rfl ?_
  refine mm_iload_n (n := 11) (i := 2) smd_V_hasSameProcedure_10 rfl rfl rfl ?_
  refine mm_iald (n := 12) (sma_V1 h_u1) hT.1 smd_V_hasSameProcedure_11 rfl ?_
  replace hT := hT.2
  refine mm_icmp_eq (n := 15) (tgt := 17) smd_V_hasSameProcedure_12 rfl rfl (fun hc => ?_) (fun hc => ?_)
  · replace hT := hT.1 hc
    refine mm_iload_n (n := 18) (i := 2) smd_V_hasSameProcedure_17 rfl rfl rfl ?_
    refine mm_iconst (n := 19) (v := 0) smd_V_hasSameProcedure_18 rfl (by decide) ?_
    refine mm_callSI (n := 22) (As := [.int x2, .int (0 : Int32)]) (rest := []) smv_V_at smw_223 (mm_hRm (by decide) (by decide)) smd_V_hasSameProcedure_19 rfl rfl (Nat.le_of_ble_eq_true rfl) hT (fun r19 h19 hT => ?_)
    refine mm_istore_n (n := 23) (i := 3) (L' := [some (.ref (mm_B Γ + v)), some (.ref (mm_B Γ + u1)), some (.int x2), some (.int r19)]) smd_V_hasSameProcedure_22 rfl rfl (by decide) rfl ?_
    exact mm_weak (by refine ⟨rfl, rfl, rfl, rfl, trivial⟩) hT
  · replace hT := hT.2 hc
    refine mm_iconst (n := 16) (v := 0) smd_V_hasSameProcedure_15 rfl (by decide) ?_
    exact mm_zret rfl (Or.inl rfl) smd_V_hasSameProcedure_16 ⟨_, rfl, hT⟩
set_option maxHeartbeats 4000000 in
set_option maxRecDepth 100000 in
theorem smr_V_hasSameProcedure_23 {Γ : mm_Ctx} {post : Int32 → mm_Mem → Prop} {h : mm_Mem} {v : Nat} (h_v : v = 1 ∨ v = 8) {u1 : Nat} (h_u1 : u1 = 1 ∨ u1 = 8) (x2 : Int32) (x3 : Int32) (hT : (vp_in x2 6) ∧ (mm_SI Γ smM_V_at [.int x2, .int (h (v + 1) x2.toNatClampNeg)] h (fun r31 h31 => (r31 ≤ x3 → (post (1 : Int32) h31)) ∧ (¬ r31 ≤ x3 → ((vp_in x3 72) ∧ ((vp_in x3 72) ∧ ((¬ (h31 (v + 2) x3.toNatClampNeg) = (h31 (u1 + 2) x3.toNatClampNeg) → (post (0 : Int32) h31)) ∧ ((h31 (v + 2) x3.toNatClampNeg) = (h31 (u1 + 2) x3.toNatClampNeg) → ((vp_in x3 72) ∧ ((vp_in x3 72) ∧ ((¬ (h31 (v + 3) x3.toNatClampNeg) = (h31 (u1 + 3) x3.toNatClampNeg) → (post (0 : Int32) h31)) ∧ ((h31 (v + 3) x3.toNatClampNeg) = (h31 (u1 + 3) x3.toNatClampNeg) → ((vp_in x3 72) ∧ ((vp_in x3 72) ∧ ((¬ (h31 (v + 4) x3.toNatClampNeg) = (h31 (u1 + 4) x3.toNatClampNeg) → (post (0 : Int32) h31)) ∧ ((h31 (v + 4) x3.toNatClampNeg) = (h31 (u1 + 4) x3.toNatClampNeg) → ((vp_in x3 72) ∧ ((vp_in x3 72) ∧ (((h31 (v + 5) x3.toNatClampNeg) = (h31 (u1 + 5) x3.toNatClampNeg) → (mm_W Γ smM_V_hasSameProcedure (mm_pI post) 23 [some (.ref (mm_B Γ + v)), some (.ref (mm_B Γ + u1)), some (.int x2), some (.int (x3 + (1 : Int32)))] [] h31)) ∧ (¬ (h31 (v + 5) x3.toNatClampNeg) = (h31 (u1 + 5) x3.toNatClampNeg) → (post (0 : Int32) h31))))))))))))))))))))) : mm_W Γ smM_V_hasSameProcedure (mm_pI post) 23 [some (.ref (mm_B Γ + v)), some (.ref (mm_B Γ + u1)), some (.int x2), some (.int x3)] [] h := by
  refine mm_iload_n (n := 24) (i := 3) smd_V_hasSameProcedure_23 rfl rfl rfl ?_
  refine mm_iload_n (n := 25) (i := 2) smd_V_hasSameProcedure_24 rfl rfl rfl ?_
  refine mm_aload_n (n := 26) (i := 0) smd_V_hasSameProcedure_25 rfl rfl rfl ?_
  refine mm_get (n := 29) (v := .ref (mm_B Γ + (v + 1))) smk_V_9 (smb_V h_v) rfl smd_V_hasSameProcedure_26 rfl ?_
  refine mm_iload_n (n := 30) (i := 2) smd_V_hasSameProcedure_29 rfl rfl rfl ?_
  refine mm_iald (n := 31) (sma_V1 h_v) hT.1 smd_V_hasSameProcedure_30 rfl ?_
  replace hT := hT.2
  refine mm_callSI (n := 34) (As := [.int x2, .int (h (v + 1) x2.toNatClampNeg)]) (rest := [.int x3]) smv_V_at smw_223 (mm_hRm (by decide) (by decide)) smd_V_hasSameProcedure_31 rfl rfl (Nat.le_of_ble_eq_true rfl) hT (fun r31 h31 hT => ?_)
  refine mm_icmp_ge (n := 37) (tgt := 105) smd_V_hasSameProcedure_34 rfl rfl (fun hc => ?_) (fun hc => ?_)
  · replace hT := hT.1 hc
    refine mm_iconst (n := 106) (v := 1) smd_V_hasSameProcedure_105 rfl (by decide) ?_
    exact mm_zret rfl (Or.inr rfl) smd_V_hasSameProcedure_106 ⟨_, rfl, hT⟩
  · replace hT := hT.2 hc
    refine mm_aload_n (n := 38) (i := 0) smd_V_hasSameProcedure_37 rfl rfl rfl ?_
    refine mm_get (n := 41) (v := .ref (mm_B Γ + (v + 2))) smk_V_15 (smb_V h_v) rfl smd_V_hasSameProcedure_38 rfl ?_
    refine mm_iload_n (n := 42) (i := 3) smd_V_hasSameProcedure_41 rfl rfl rfl ?_
    refine mm_iald (n := 43) (sma_V2 h_v) hT.1 smd_V_hasSameProcedure_42 rfl ?_
    replace hT := hT.2
    refine mm_aload_n (n := 44) (i := 1) smd_V_hasSameProcedure_43 rfl rfl rfl ?_
    refine mm_get (n := 47) (v := .ref (mm_B Γ + (u1 + 2))) smk_V_15 (smb_V h_u1) rfl smd_V_hasSameProcedure_44 rfl ?_
    refine mm_iload_n (n := 48) (i := 3) smd_V_hasSameProcedure_47 rfl rfl rfl ?_
    refine mm_iald (n := 49) (sma_V2 h_u1) hT.1 smd_V_hasSameProcedure_48 rfl ?_
    replace hT := hT.2
    refine mm_icmp_ne (n := 52) (tgt := 97) smd_V_hasSameProcedure_49 rfl rfl (fun hc => ?_) (fun hc => ?_)
    · replace hT := hT.1 hc
      refine mm_iconst (n := 98) (v := 0) smd_V_hasSameProcedure_97 rfl (by decide) ?_
      exact mm_zret rfl (Or.inl rfl) smd_V_hasSameProcedure_98 ⟨_, rfl, hT⟩
    · replace hT := hT.2 hc
      refine mm_aload_n (n := 53) (i := 0) smd_V_hasSameProcedure_52 rfl rfl rfl ?_
      refine mm_get (n := 56) (v := .ref (mm_B Γ + (v + 3))) smk_V_18 (smb_V h_v) rfl smd_V_hasSameProcedure_53 rfl ?_
      refine mm_iload_n (n := 57) (i := 3) smd_V_hasSameProcedure_56 rfl rfl rfl ?_
      refine mm_iald (n := 58) (sma_V3 h_v) hT.1 smd_V_hasSameProcedure_57 rfl ?_
      replace hT := hT.2
      refine mm_aload_n (n := 59) (i := 1) smd_V_hasSameProcedure_58 rfl rfl rfl ?_
      refine mm_get (n := 62) (v := .ref (mm_B Γ + (u1 + 3))) smk_V_18 (smb_V h_u1) rfl smd_V_hasSameProcedure_59 rfl ?_
      refine mm_iload_n (n := 63) (i := 3) smd_V_hasSameProcedure_62 rfl rfl rfl ?_
      refine mm_iald (n := 64) (sma_V3 h_u1) hT.1 smd_V_hasSameProcedure_63 rfl ?_
      replace hT := hT.2
      refine mm_icmp_ne (n := 67) (tgt := 97) smd_V_hasSameProcedure_64 rfl rfl (fun hc => ?_) (fun hc => ?_)
      · replace hT := hT.1 hc
        refine mm_iconst (n := 98) (v := 0) smd_V_hasSameProcedure_97 rfl (by decide) ?_
        exact mm_zret rfl (Or.inl rfl) smd_V_hasSameProcedure_98 ⟨_, rfl, hT⟩
      · replace hT := hT.2 hc
        refine mm_aload_n (n := 68) (i := 0) smd_V_hasSameProcedure_67 rfl rfl rfl ?_
        refine mm_get (n := 71) (v := .ref (mm_B Γ + (v + 4))) smk_V_21 (smb_V h_v) rfl smd_V_hasSameProcedure_68 rfl ?_
        refine mm_iload_n (n := 72) (i := 3) smd_V_hasSameProcedure_71 rfl rfl rfl ?_
        refine mm_iald (n := 73) (sma_V4 h_v) hT.1 smd_V_hasSameProcedure_72 rfl ?_
        replace hT := hT.2
        refine mm_aload_n (n := 74) (i := 1) smd_V_hasSameProcedure_73 rfl rfl rfl ?_
        refine mm_get (n := 77) (v := .ref (mm_B Γ + (u1 + 4))) smk_V_21 (smb_V h_u1) rfl smd_V_hasSameProcedure_74 rfl ?_
        refine mm_iload_n (n := 78) (i := 3) smd_V_hasSameProcedure_77 rfl rfl rfl ?_
        refine mm_iald (n := 79) (sma_V4 h_u1) hT.1 smd_V_hasSameProcedure_78 rfl ?_
        replace hT := hT.2
        refine mm_icmp_ne (n := 82) (tgt := 97) smd_V_hasSameProcedure_79 rfl rfl (fun hc => ?_) (fun hc => ?_)
        · replace hT := hT.1 hc
          refine mm_iconst (n := 98) (v := 0) smd_V_hasSameProcedure_97 rfl (by decide) ?_
          exact mm_zret rfl (Or.inl rfl) smd_V_hasSameProcedure_98 ⟨_, rfl, hT⟩
        · replace hT := hT.2 hc
          refine mm_aload_n (n := 83) (i := 0) smd_V_hasSameProcedure_82 rfl rfl rfl ?_
          refine mm_get (n := 86) (v := .ref (mm_B Γ + (v + 5))) smk_V_24 (smb_V h_v) rfl smd_V_hasSameProcedure_83 rfl ?_
          refine mm_iload_n (n := 87) (i := 3) smd_V_hasSameProcedure_86 rfl rfl rfl ?_
          refine mm_iald (n := 88) (sma_V5 h_v) hT.1 smd_V_hasSameProcedure_87 rfl ?_
          replace hT := hT.2
          refine mm_aload_n (n := 89) (i := 1) smd_V_hasSameProcedure_88 rfl rfl rfl ?_
          refine mm_get (n := 92) (v := .ref (mm_B Γ + (u1 + 5))) smk_V_24 (smb_V h_u1) rfl smd_V_hasSameProcedure_89 rfl ?_
          refine mm_iload_n (n := 93) (i := 3) smd_V_hasSameProcedure_92 rfl rfl rfl ?_
          refine mm_iald (n := 94) (sma_V5 h_u1) hT.1 smd_V_hasSameProcedure_93 rfl ?_
          replace hT := hT.2
          refine mm_icmp_eq (n := 97) (tgt := 99) smd_V_hasSameProcedure_94 rfl rfl (fun hc => ?_) (fun hc => ?_)
          · replace hT := hT.1 hc
            refine mm_iinc (n := 102) (i := 3) (d := 1) (L' := [some (.ref (mm_B Γ + v)), some (.ref (mm_B Γ + u1)), some (.int x2), some (.int (x3 + (1 : Int32)))]) smd_V_hasSameProcedure_99 rfl rfl (by decide) (by decide) rfl ?_
            refine mm_goto (n := 23) smd_V_hasSameProcedure_102 rfl ?_
            exact mm_weak (by refine ⟨rfl, rfl, rfl, rfl, trivial⟩) hT
          · replace hT := hT.2 hc
            refine mm_iconst (n := 98) (v := 0) smd_V_hasSameProcedure_97 rfl (by decide) ?_
            exact mm_zret rfl (Or.inl rfl) smd_V_hasSameProcedure_98 ⟨_, rfl, hT⟩
set_option maxHeartbeats 4000000 in
set_option maxRecDepth 100000 in
theorem smr_V_usesTouchedType {Γ : mm_Ctx} {post : Int32 → mm_Mem → Prop} {h : mm_Mem} {v : Nat} (h_v : v = 1 ∨ v = 8) (x1 : Int32) (hT : mm_SI Γ smM_V_at [.int x1, .int (0 : Int32)] h (fun r2 h2 => mm_W Γ smM_V_usesTouchedType (mm_pI post) 6 [some (.ref (mm_B Γ + v)), some (.int x1), some (.ref (mm_B Γ + 16)), some (.int r2), none] [] h2)) : mm_SI Γ smM_V_usesTouchedType [.ref (mm_B Γ + v), .int x1, .ref (mm_B Γ + 16)] h post := by
  refine mm_spec0 (M := smM_V_usesTouchedType) 2 (by decide +kernel) rfl (Nat.le_of_ble_eq_true rfl) ?_
  show mm_W Γ smM_V_usesTouchedType (mm_pI post) 0 [some (.ref (mm_B Γ + v)), some (.int x1), some (.ref (mm_B Γ + 16)), none, none] [] h
  refine mm_iload_n (n := 1) (i := 1) smd_V_usesTouchedType_0 rfl rfl rfl ?_
  refine mm_iconst (n := 2) (v := 0) smd_V_usesTouchedType_1 rfl (by decide) ?_
  refine mm_callSI (n := 5) (As := [.int x1, .int (0 : Int32)]) (rest := []) smv_V_at smw_223 (mm_hRm (by decide) (by decide)) smd_V_usesTouchedType_2 rfl rfl (Nat.le_of_ble_eq_true rfl) hT (fun r2 h2 hT => ?_)
  refine mm_istore_n (n := 6) (i := 3) (L' := [some (.ref (mm_B Γ + v)), some (.int x1), some (.ref (mm_B Γ + 16)), some (.int r2), none]) smd_V_usesTouchedType_5 rfl rfl (by decide) rfl ?_
  exact mm_weak (by refine ⟨rfl, rfl, rfl, rfl, trivial⟩) hT
set_option maxHeartbeats 4000000 in
set_option maxRecDepth 100000 in
theorem smr_V_usesTouchedType_6 {Γ : mm_Ctx} {post : Int32 → mm_Mem → Prop} {h : mm_Mem} {v : Nat} (h_v : v = 1 ∨ v = 8) (x1 : Int32) (x3 : Int32) (hT : (vp_in x1 6) ∧ (mm_SI Γ smM_V_at [.int x1, .int (h (v + 1) x1.toNatClampNeg)] h (fun r14 h14 => (r14 ≤ x3 → (post (0 : Int32) h14)) ∧ (¬ r14 ≤ x3 → (mm_SI Γ smM_V_typeUsed [.ref (mm_B Γ + v), .int x3] h14 (fun r22 h22 => (r22 = (-1 : Int32) → (mm_W Γ smM_V_usesTouchedType (mm_pI post) 6 [some (.ref (mm_B Γ + v)), some (.int x1), some (.ref (mm_B Γ + 16)), some (.int (x3 + (1 : Int32))), none] [] h22)) ∧ (¬ r22 = (-1 : Int32) → ((vp_in r22 3) ∧ (((h22 16 r22.toNatClampNeg) = 0 → (mm_W Γ smM_V_usesTouchedType (mm_pI post) 6 [some (.ref (mm_B Γ + v)), some (.int x1), some (.ref (mm_B Γ + 16)), some (.int (x3 + (1 : Int32))), none] [] h22)) ∧ (¬ (h22 16 r22.toNatClampNeg) = 0 → (post (1 : Int32) h22))))))))))) : mm_W Γ smM_V_usesTouchedType (mm_pI post) 6 [some (.ref (mm_B Γ + v)), some (.int x1), some (.ref (mm_B Γ + 16)), some (.int x3), none] [] h := by
  refine mm_iload_n (n := 7) (i := 3) smd_V_usesTouchedType_6 rfl rfl rfl ?_
  refine mm_iload_n (n := 8) (i := 1) smd_V_usesTouchedType_7 rfl rfl rfl ?_
  refine mm_aload_n (n := 9) (i := 0) smd_V_usesTouchedType_8 rfl rfl rfl ?_
  refine mm_get (n := 12) (v := .ref (mm_B Γ + (v + 1))) smk_V_9 (smb_V h_v) rfl smd_V_usesTouchedType_9 rfl ?_
  refine mm_iload_n (n := 13) (i := 1) smd_V_usesTouchedType_12 rfl rfl rfl ?_
  refine mm_iald (n := 14) (sma_V1 h_v) hT.1 smd_V_usesTouchedType_13 rfl ?_
  replace hT := hT.2
  refine mm_callSI (n := 17) (As := [.int x1, .int (h (v + 1) x1.toNatClampNeg)]) (rest := [.int x3]) smv_V_at smw_223 (mm_hRm (by decide) (by decide)) smd_V_usesTouchedType_14 rfl rfl (Nat.le_of_ble_eq_true rfl) hT (fun r14 h14 hT => ?_)
  refine mm_icmp_ge (n := 20) (tgt := 48) smd_V_usesTouchedType_17 rfl rfl (fun hc => ?_) (fun hc => ?_)
  · replace hT := hT.1 hc
    refine mm_iconst (n := 49) (v := 0) smd_V_usesTouchedType_48 rfl (by decide) ?_
    exact mm_zret rfl (Or.inl rfl) smd_V_usesTouchedType_49 ⟨_, rfl, hT⟩
  · replace hT := hT.2 hc
    refine mm_aload_n (n := 21) (i := 0) smd_V_usesTouchedType_20 rfl rfl rfl ?_
    refine mm_iload_n (n := 22) (i := 3) smd_V_usesTouchedType_21 rfl rfl rfl ?_
    refine mm_callVI (n := 25) (As := [.int x3]) (rest := []) smv_V_typeUsed smw_314 (smb_V h_v) (mm_hRm (by decide) (by decide)) smd_V_usesTouchedType_22 rfl rfl (Nat.le_of_ble_eq_true rfl) hT (fun r22 h22 hT => ?_)
    refine mm_istore (n := 27) (i := 4) (L' := [some (.ref (mm_B Γ + v)), some (.int x1), some (.ref (mm_B Γ + 16)), some (.int x3), some (.int r22)]) smd_V_usesTouchedType_25 rfl (by decide) rfl ?_
    refine mm_iload (n := 29) (i := 4) smd_V_usesTouchedType_27 rfl rfl ?_
    refine mm_iconst (n := 30) (v := -1) smd_V_usesTouchedType_29 rfl (by decide) ?_
    refine mm_icmp_eq (n := 33) (tgt := 42) smd_V_usesTouchedType_30 rfl rfl (fun hc => ?_) (fun hc => ?_)
    · replace hT := hT.1 hc
      refine mm_iinc (n := 45) (i := 3) (d := 1) (L' := [some (.ref (mm_B Γ + v)), some (.int x1), some (.ref (mm_B Γ + 16)), some (.int (x3 + (1 : Int32))), some (.int r22)]) smd_V_usesTouchedType_42 rfl rfl (by decide) (by decide) rfl ?_
      refine mm_goto (n := 6) smd_V_usesTouchedType_45 rfl ?_
      exact mm_weak (by refine ⟨rfl, rfl, rfl, rfl, trivial⟩) hT
    · replace hT := hT.2 hc
      refine mm_aload_n (n := 34) (i := 2) smd_V_usesTouchedType_33 rfl rfl rfl ?_
      refine mm_iload (n := 36) (i := 4) smd_V_usesTouchedType_34 rfl rfl ?_
      refine mm_zald (n := 37) sma_16 hT.1 smd_V_usesTouchedType_36 rfl ?_
      replace hT := hT.2
      refine mm_if_eq (n := 40) (tgt := 42) smd_V_usesTouchedType_37 rfl rfl (fun hc => ?_) (fun hc => ?_)
      · replace hT := hT.1 hc
        refine mm_iinc (n := 45) (i := 3) (d := 1) (L' := [some (.ref (mm_B Γ + v)), some (.int x1), some (.ref (mm_B Γ + 16)), some (.int (x3 + (1 : Int32))), some (.int r22)]) smd_V_usesTouchedType_42 rfl rfl (by decide) (by decide) rfl ?_
        refine mm_goto (n := 6) smd_V_usesTouchedType_45 rfl ?_
        exact mm_weak (by refine ⟨rfl, rfl, rfl, rfl, trivial⟩) hT
      · replace hT := hT.2 hc
        refine mm_iconst (n := 41) (v := 1) smd_V_usesTouchedType_40 rfl (by decide) ?_
        exact mm_zret rfl (Or.inr rfl) smd_V_usesTouchedType_41 ⟨_, rfl, hT⟩
set_option maxHeartbeats 4000000 in
set_option maxRecDepth 100000 in
theorem smr_V_typeUsed {Γ : mm_Ctx} {post : Int32 → mm_Mem → Prop} {h : mm_Mem} {v : Nat} (h_v : v = 1 ∨ v = 8) (x1 : Int32) (hT : (vp_in x1 72) ∧ (((h (v + 2) x1.toNatClampNeg) = 6 → ((vp_in x1 72) ∧ (post (h (v + 4) x1.toNatClampNeg) h))) ∧ ((h (v + 2) x1.toNatClampNeg) = 7 ∨ (h (v + 2) x1.toNatClampNeg) = 8 → ((vp_in x1 72) ∧ (post ((h (v + 5) x1.toNatClampNeg) / (4 : Int32)) h))) ∧ (¬ (h (v + 2) x1.toNatClampNeg) = 6 → ¬ (h (v + 2) x1.toNatClampNeg) = 7 → ¬ (h (v + 2) x1.toNatClampNeg) = 8 → (post (-1 : Int32) h)))) : mm_SI Γ smM_V_typeUsed [.ref (mm_B Γ + v), .int x1] h post := by
  refine mm_spec0 (M := smM_V_typeUsed) 0 (by decide +kernel) rfl (Nat.le_of_ble_eq_true rfl) ?_
  show mm_W Γ smM_V_typeUsed (mm_pI post) 0 [some (.ref (mm_B Γ + v)), some (.int x1)] [] h
  refine mm_aload_n (n := 1) (i := 0) smd_V_typeUsed_0 rfl rfl rfl ?_
  refine mm_get (n := 4) (v := .ref (mm_B Γ + (v + 2))) smk_V_15 (smb_V h_v) rfl smd_V_typeUsed_1 rfl ?_
  refine mm_iload_n (n := 5) (i := 1) smd_V_typeUsed_4 rfl rfl rfl ?_
  refine mm_iald (n := 6) (sma_V2 h_v) hT.1 smd_V_typeUsed_5 rfl ?_
  replace hT := hT.2
  by_cases e : (h (v + 2) x1.toNatClampNeg) = 6
  · refine mm_tIn (tgt := 32) smd_V_typeUsed_6 6 e (by decide) (by decide) rfl rfl ?_
    replace hT := hT.1 (e)
    refine mm_aload_n (n := 33) (i := 0) smd_V_typeUsed_32 rfl rfl rfl ?_
    refine mm_get (n := 36) (v := .ref (mm_B Γ + (v + 4))) smk_V_21 (smb_V h_v) rfl smd_V_typeUsed_33 rfl ?_
    refine mm_iload_n (n := 37) (i := 1) smd_V_typeUsed_36 rfl rfl rfl ?_
    refine mm_iald (n := 38) (sma_V4 h_v) hT.1 smd_V_typeUsed_37 rfl ?_
    replace hT := hT.2
    exact mm_iret rfl smd_V_typeUsed_38 ⟨_, rfl, hT⟩
  have n6 := e
  clear e
  by_cases e : (h (v + 2) x1.toNatClampNeg) = 7
  · refine mm_tIn (tgt := 39) smd_V_typeUsed_6 7 e (by decide) (by decide) rfl rfl ?_
    replace hT := hT.2.1 (Or.inl e)
    refine mm_aload_n (n := 40) (i := 0) smd_V_typeUsed_39 rfl rfl rfl ?_
    refine mm_get (n := 43) (v := .ref (mm_B Γ + (v + 5))) smk_V_24 (smb_V h_v) rfl smd_V_typeUsed_40 rfl ?_
    refine mm_iload_n (n := 44) (i := 1) smd_V_typeUsed_43 rfl rfl rfl ?_
    refine mm_iald (n := 45) (sma_V5 h_v) hT.1 smd_V_typeUsed_44 rfl ?_
    replace hT := hT.2
    refine mm_iconst (n := 46) (v := 4) smd_V_typeUsed_45 rfl (by decide) ?_
    refine mm_idiv (n := 47) smd_V_typeUsed_46 rfl (by decide) ?_
    exact mm_iret rfl smd_V_typeUsed_47 ⟨_, rfl, hT⟩
  have n7 := e
  clear e
  by_cases e : (h (v + 2) x1.toNatClampNeg) = 8
  · refine mm_tIn (tgt := 39) smd_V_typeUsed_6 8 e (by decide) (by decide) rfl rfl ?_
    replace hT := hT.2.1 (Or.inr (e))
    refine mm_aload_n (n := 40) (i := 0) smd_V_typeUsed_39 rfl rfl rfl ?_
    refine mm_get (n := 43) (v := .ref (mm_B Γ + (v + 5))) smk_V_24 (smb_V h_v) rfl smd_V_typeUsed_40 rfl ?_
    refine mm_iload_n (n := 44) (i := 1) smd_V_typeUsed_43 rfl rfl rfl ?_
    refine mm_iald (n := 45) (sma_V5 h_v) hT.1 smd_V_typeUsed_44 rfl ?_
    replace hT := hT.2
    refine mm_iconst (n := 46) (v := 4) smd_V_typeUsed_45 rfl (by decide) ?_
    refine mm_idiv (n := 47) smd_V_typeUsed_46 rfl (by decide) ?_
    exact mm_iret rfl smd_V_typeUsed_47 ⟨_, rfl, hT⟩
  have n8 := e
  clear e
  refine mm_tOut (tgt := 48) smd_V_typeUsed_6 (by have m6 := lv_neT n6 (show (6 : Int32).toInt = 6 by decide); have m7 := lv_neT n7 (show (7 : Int32).toInt = 7 by decide); have m8 := lv_neT n8 (show (8 : Int32).toInt = 8 by decide); omega) rfl ?_
  replace hT := hT.2.2 n6 n7 n8
  refine mm_iconst (n := 49) (v := -1) smd_V_typeUsed_48 rfl (by decide) ?_
  exact mm_iret rfl smd_V_typeUsed_49 ⟨_, rfl, hT⟩
set_option maxHeartbeats 4000000 in
set_option maxRecDepth 100000 in
theorem smr_V_firstPoint {Γ : mm_Ctx} {post : Int32 → mm_Mem → Prop} {h : mm_Mem} {v : Nat} (h_v : v = 1 ∨ v = 8) (x1 : Int32) (x2 : Int32) (hT : mm_W Γ smM_V_firstPoint (mm_pI post) 2 [some (.ref (mm_B Γ + v)), some (.int x1), some (.int x2), some (.int (0 : Int32))] [] h) : mm_SI Γ smM_V_firstPoint [.ref (mm_B Γ + v), .int x1, .int x2] h post := by
  refine mm_spec0 (M := smM_V_firstPoint) 1 (by decide +kernel) rfl (Nat.le_of_ble_eq_true rfl) ?_
  show mm_W Γ smM_V_firstPoint (mm_pI post) 0 [some (.ref (mm_B Γ + v)), some (.int x1), some (.int x2), none] [] h
  refine mm_iconst (n := 1) (v := 0) smd_V_firstPoint_0 rfl (by decide) ?_
  refine mm_istore_n (n := 2) (i := 3) (L' := [some (.ref (mm_B Γ + v)), some (.int x1), some (.int x2), some (.int (0 : Int32))]) smd_V_firstPoint_1 rfl rfl (by decide) rfl ?_
  exact mm_weak (by refine ⟨rfl, rfl, rfl, rfl, trivial⟩) hT
set_option maxHeartbeats 4000000 in
set_option maxRecDepth 100000 in
theorem smr_V_firstPoint_2 {Γ : mm_Ctx} {post : Int32 → mm_Mem → Prop} {h : mm_Mem} {v : Nat} (h_v : v = 1 ∨ v = 8) (x1 : Int32) (x2 : Int32) (x3 : Int32) (hT : (vp_in x1 6) ∧ (((h (v + 1) x1.toNatClampNeg) ≤ x3 → (post (-1 : Int32) h)) ∧ (¬ (h (v + 1) x1.toNatClampNeg) ≤ x3 → (mm_SI Γ smM_V_at [.int x1, .int x3] h (fun r18 h18 => (vp_in r18 72) ∧ ((¬ (h18 (v + 2) r18.toNatClampNeg) = (12 : Int32) → (mm_W Γ smM_V_firstPoint (mm_pI post) 2 [some (.ref (mm_B Γ + v)), some (.int x1), some (.int x2), some (.int (x3 + (1 : Int32)))] [] h18)) ∧ ((h18 (v + 2) r18.toNatClampNeg) = (12 : Int32) → (mm_SI Γ smM_V_at [.int x1, .int x3] h18 (fun r33 h33 => (vp_in r33 72) ∧ ((¬ (h33 (v + 3) r33.toNatClampNeg) = x2 → (mm_W Γ smM_V_firstPoint (mm_pI post) 2 [some (.ref (mm_B Γ + v)), some (.int x1), some (.int x2), some (.int (x3 + (1 : Int32)))] [] h33)) ∧ ((h33 (v + 3) r33.toNatClampNeg) = x2 → (post x3 h33)))))))))))) : mm_W Γ smM_V_firstPoint (mm_pI post) 2 [some (.ref (mm_B Γ + v)), some (.int x1), some (.int x2), some (.int x3)] [] h := by
  refine mm_iload_n (n := 3) (i := 3) smd_V_firstPoint_2 rfl rfl rfl ?_
  refine mm_aload_n (n := 4) (i := 0) smd_V_firstPoint_3 rfl rfl rfl ?_
  refine mm_get (n := 7) (v := .ref (mm_B Γ + (v + 1))) smk_V_9 (smb_V h_v) rfl smd_V_firstPoint_4 rfl ?_
  refine mm_iload_n (n := 8) (i := 1) smd_V_firstPoint_7 rfl rfl rfl ?_
  refine mm_iald (n := 9) (sma_V1 h_v) hT.1 smd_V_firstPoint_8 rfl ?_
  replace hT := hT.2
  refine mm_icmp_ge (n := 12) (tgt := 49) smd_V_firstPoint_9 rfl rfl (fun hc => ?_) (fun hc => ?_)
  · replace hT := hT.1 hc
    refine mm_iconst (n := 50) (v := -1) smd_V_firstPoint_49 rfl (by decide) ?_
    exact mm_iret rfl smd_V_firstPoint_50 ⟨_, rfl, hT⟩
  · replace hT := hT.2 hc
    refine mm_aload_n (n := 13) (i := 0) smd_V_firstPoint_12 rfl rfl rfl ?_
    refine mm_get (n := 16) (v := .ref (mm_B Γ + (v + 2))) smk_V_15 (smb_V h_v) rfl smd_V_firstPoint_13 rfl ?_
    refine mm_iload_n (n := 17) (i := 1) smd_V_firstPoint_16 rfl rfl rfl ?_
    refine mm_iload_n (n := 18) (i := 3) smd_V_firstPoint_17 rfl rfl rfl ?_
    refine mm_callSI (n := 21) (As := [.int x1, .int x3]) (rest := [.ref (mm_B Γ + (v + 2))]) smv_V_at smw_223 (mm_hRm (by decide) (by decide)) smd_V_firstPoint_18 rfl rfl (Nat.le_of_ble_eq_true rfl) hT (fun r18 h18 hT => ?_)
    refine mm_iald (n := 22) (sma_V2 h_v) hT.1 smd_V_firstPoint_21 rfl ?_
    replace hT := hT.2
    refine mm_bipush (n := 24) (v := 12) smd_V_firstPoint_22 rfl (by decide) ?_
    refine mm_icmp_ne (n := 27) (tgt := 43) smd_V_firstPoint_24 rfl rfl (fun hc => ?_) (fun hc => ?_)
    · replace hT := hT.1 hc
      refine mm_iinc (n := 46) (i := 3) (d := 1) (L' := [some (.ref (mm_B Γ + v)), some (.int x1), some (.int x2), some (.int (x3 + (1 : Int32)))]) smd_V_firstPoint_43 rfl rfl (by decide) (by decide) rfl ?_
      refine mm_goto (n := 2) smd_V_firstPoint_46 rfl ?_
      exact mm_weak (by refine ⟨rfl, rfl, rfl, rfl, trivial⟩) hT
    · replace hT := hT.2 hc
      refine mm_aload_n (n := 28) (i := 0) smd_V_firstPoint_27 rfl rfl rfl ?_
      refine mm_get (n := 31) (v := .ref (mm_B Γ + (v + 3))) smk_V_18 (smb_V h_v) rfl smd_V_firstPoint_28 rfl ?_
      refine mm_iload_n (n := 32) (i := 1) smd_V_firstPoint_31 rfl rfl rfl ?_
      refine mm_iload_n (n := 33) (i := 3) smd_V_firstPoint_32 rfl rfl rfl ?_
      refine mm_callSI (n := 36) (As := [.int x1, .int x3]) (rest := [.ref (mm_B Γ + (v + 3))]) smv_V_at smw_223 (mm_hRm (by decide) (by decide)) smd_V_firstPoint_33 rfl rfl (Nat.le_of_ble_eq_true rfl) hT (fun r33 h33 hT => ?_)
      refine mm_iald (n := 37) (sma_V3 h_v) hT.1 smd_V_firstPoint_36 rfl ?_
      replace hT := hT.2
      refine mm_iload_n (n := 38) (i := 2) smd_V_firstPoint_37 rfl rfl rfl ?_
      refine mm_icmp_ne (n := 41) (tgt := 43) smd_V_firstPoint_38 rfl rfl (fun hc => ?_) (fun hc => ?_)
      · replace hT := hT.1 hc
        refine mm_iinc (n := 46) (i := 3) (d := 1) (L' := [some (.ref (mm_B Γ + v)), some (.int x1), some (.int x2), some (.int (x3 + (1 : Int32)))]) smd_V_firstPoint_43 rfl rfl (by decide) (by decide) rfl ?_
        refine mm_goto (n := 2) smd_V_firstPoint_46 rfl ?_
        exact mm_weak (by refine ⟨rfl, rfl, rfl, rfl, trivial⟩) hT
      · replace hT := hT.2 hc
        refine mm_iload_n (n := 42) (i := 3) smd_V_firstPoint_41 rfl rfl rfl ?_
        exact mm_iret rfl smd_V_firstPoint_42 ⟨_, rfl, hT⟩
set_option maxHeartbeats 4000000 in
set_option maxRecDepth 100000 in
theorem smr_V_firstWrongWord {Γ : mm_Ctx} {post : Int32 → mm_Mem → Prop} {h : mm_Mem} {v : Nat} (h_v : v = 1 ∨ v = 8) (hT : mm_W Γ smM_V_firstWrongWord (mm_pI post) 2 [some (.ref (mm_B Γ + v)), some (.int (0 : Int32)), none, none, none] [] h) : mm_SI Γ smM_V_firstWrongWord [.ref (mm_B Γ + v)] h post := by
  refine mm_spec0 (M := smM_V_firstWrongWord) 4 (by decide +kernel) rfl (Nat.le_of_ble_eq_true rfl) ?_
  show mm_W Γ smM_V_firstWrongWord (mm_pI post) 0 [some (.ref (mm_B Γ + v)), none, none, none, none] [] h
  refine mm_iconst (n := 1) (v := 0) smd_V_firstWrongWord_0 rfl (by decide) ?_
  refine mm_istore_n (n := 2) (i := 1) (L' := [some (.ref (mm_B Γ + v)), some (.int (0 : Int32)), none, none, none]) smd_V_firstWrongWord_1 rfl rfl (by decide) rfl ?_
  exact mm_weak (by refine ⟨rfl, rfl, trivial⟩) hT
set_option maxHeartbeats 4000000 in
set_option maxRecDepth 100000 in
theorem smr_V_firstWrongWord_2 {Γ : mm_Ctx} {post : Int32 → mm_Mem → Prop} {h : mm_Mem} {v : Nat} (h_v : v = 1 ∨ v = 8) (x1 : Int32) (hT : ((6 : Int32) ≤ x1 → (post (-1 : Int32) h)) ∧ (¬ (6 : Int32) ≤ x1 → (mm_W Γ smM_V_firstWrongWord (mm_pI post) 10 [some (.ref (mm_B Γ + v)), some (.int x1), some (.int (0 : Int32)), none, none] [] h))) : mm_W Γ smM_V_firstWrongWord (mm_pI post) 2 [some (.ref (mm_B Γ + v)), some (.int x1), none, none, none] [] h := by
  refine mm_iload_n (n := 3) (i := 1) smd_V_firstWrongWord_2 rfl rfl rfl ?_
  refine mm_bipush (n := 5) (v := 6) smd_V_firstWrongWord_3 rfl (by decide) ?_
  refine mm_icmp_ge (n := 8) (tgt := 82) smd_V_firstWrongWord_5 rfl rfl (fun hc => ?_) (fun hc => ?_)
  · replace hT := hT.1 hc
    refine mm_iconst (n := 83) (v := -1) smd_V_firstWrongWord_82 rfl (by decide) ?_
    exact mm_iret rfl smd_V_firstWrongWord_83 ⟨_, rfl, hT⟩
  · replace hT := hT.2 hc
    refine mm_iconst (n := 9) (v := 0) smd_V_firstWrongWord_8 rfl (by decide) ?_
    refine mm_istore_n (n := 10) (i := 2) (L' := [some (.ref (mm_B Γ + v)), some (.int x1), some (.int (0 : Int32)), none, none]) smd_V_firstWrongWord_9 rfl rfl (by decide) rfl ?_
    exact mm_weak (by refine ⟨rfl, rfl, rfl, trivial⟩) hT
set_option maxHeartbeats 4000000 in
set_option maxRecDepth 100000 in
theorem smr_V_firstWrongWord_10 {Γ : mm_Ctx} {post : Int32 → mm_Mem → Prop} {h : mm_Mem} {v : Nat} (h_v : v = 1 ∨ v = 8) (x1 : Int32) (x2 : Int32) (hT : (vp_in x1 6) ∧ (((h (v + 1) x1.toNatClampNeg) ≤ x2 → (mm_W Γ smM_V_firstWrongWord (mm_pI post) 2 [some (.ref (mm_B Γ + v)), some (.int (x1 + (1 : Int32))), none, none, none] [] h)) ∧ (¬ (h (v + 1) x1.toNatClampNeg) ≤ x2 → (mm_SI Γ smM_V_at [.int x1, .int x2] h (fun r22 h22 => (vp_in x1 6) ∧ ((¬ x2 = ((h22 (v + 1) x1.toNatClampNeg) - (1 : Int32)) → ((¬ (0 : Int32) = 0 → (post r22 h22)) ∧ ((0 : Int32) = 0 → (mm_SI Γ smM_V_isRight [.ref (mm_B Γ + v), .int x1, .int r22] h22 (fun r62 h62 => (¬ r62 = 0 → (mm_W Γ smM_V_firstWrongWord (mm_pI post) 10 [some (.ref (mm_B Γ + v)), some (.int x1), some (.int (x2 + (1 : Int32))), none, none] [] h62)) ∧ (r62 = 0 → (post r22 h62))))))) ∧ (x2 = ((h22 (v + 1) x1.toNatClampNeg) - (1 : Int32)) → ((vp_in r22 72) ∧ (((h22 (v + 2) r22.toNatClampNeg) = 0 → ((¬ (0 : Int32) = 0 → (post r22 h22)) ∧ ((0 : Int32) = 0 → (mm_SI Γ smM_V_isRight [.ref (mm_B Γ + v), .int x1, .int r22] h22 (fun r62 h62 => (¬ r62 = 0 → (mm_W Γ smM_V_firstWrongWord (mm_pI post) 10 [some (.ref (mm_B Γ + v)), some (.int x1), some (.int (x2 + (1 : Int32))), none, none] [] h62)) ∧ (r62 = 0 → (post r22 h62))))))) ∧ (¬ (h22 (v + 2) r22.toNatClampNeg) = 0 → ((¬ (1 : Int32) = 0 → (post r22 h22)) ∧ ((1 : Int32) = 0 → (mm_SI Γ smM_V_isRight [.ref (mm_B Γ + v), .int x1, .int r22] h22 (fun r62 h62 => (¬ r62 = 0 → (mm_W Γ smM_V_firstWrongWord (mm_pI post) 10 [some (.ref (mm_B Γ + v)), some (.int x1), some (.int (x2 + (1 : Int32))), none, none] [] h62)) ∧ (r62 = 0 → (post r22 h62)))))))))))))))) : mm_W Γ smM_V_firstWrongWord (mm_pI post) 10 [some (.ref (mm_B Γ + v)), some (.int x1), some (.int x2), none, none] [] h := by
  refine mm_iload_n (n := 11) (i := 2) smd_V_firstWrongWord_10 rfl rfl rfl ?_
  refine mm_aload_n (n := 12) (i := 0) smd_V_firstWrongWord_11 rfl rfl rfl ?_
  refine mm_get (n := 15) (v := .ref (mm_B Γ + (v + 1))) smk_V_9 (smb_V h_v) rfl smd_V_firstWrongWord_12 rfl ?_
  refine mm_iload_n (n := 16) (i := 1) smd_V_firstWrongWord_15 rfl rfl rfl ?_
  refine mm_iald (n := 17) (sma_V1 h_v) hT.1 smd_V_firstWrongWord_16 rfl ?_
  replace hT := hT.2
  refine mm_icmp_ge (n := 20) (tgt := 76) smd_V_firstWrongWord_17 rfl rfl (fun hc => ?_) (fun hc => ?_)
  · replace hT := hT.1 hc
    refine mm_iinc (n := 79) (i := 1) (d := 1) (L' := [some (.ref (mm_B Γ + v)), some (.int (x1 + (1 : Int32))), some (.int x2), none, none]) smd_V_firstWrongWord_76 rfl rfl (by decide) (by decide) rfl ?_
    refine mm_goto (n := 2) smd_V_firstWrongWord_79 rfl ?_
    exact mm_weak (by refine ⟨rfl, rfl, trivial⟩) hT
  · replace hT := hT.2 hc
    refine mm_iload_n (n := 21) (i := 1) smd_V_firstWrongWord_20 rfl rfl rfl ?_
    refine mm_iload_n (n := 22) (i := 2) smd_V_firstWrongWord_21 rfl rfl rfl ?_
    refine mm_callSI (n := 25) (As := [.int x1, .int x2]) (rest := []) smv_V_at smw_223 (mm_hRm (by decide) (by decide)) smd_V_firstWrongWord_22 rfl rfl (Nat.le_of_ble_eq_true rfl) hT (fun r22 h22 hT => ?_)
    refine mm_istore_n (n := 26) (i := 3) (L' := [some (.ref (mm_B Γ + v)), some (.int x1), some (.int x2), some (.int r22), none]) smd_V_firstWrongWord_25 rfl rfl (by decide) rfl ?_
    refine mm_iload_n (n := 27) (i := 2) smd_V_firstWrongWord_26 rfl rfl rfl ?_
    refine mm_aload_n (n := 28) (i := 0) smd_V_firstWrongWord_27 rfl rfl rfl ?_
    refine mm_get (n := 31) (v := .ref (mm_B Γ + (v + 1))) smk_V_9 (smb_V h_v) rfl smd_V_firstWrongWord_28 rfl ?_
    refine mm_iload_n (n := 32) (i := 1) smd_V_firstWrongWord_31 rfl rfl rfl ?_
    refine mm_iald (n := 33) (sma_V1 h_v) hT.1 smd_V_firstWrongWord_32 rfl ?_
    replace hT := hT.2
    refine mm_iconst (n := 34) (v := 1) smd_V_firstWrongWord_33 rfl (by decide) ?_
    refine mm_isub (n := 35) smd_V_firstWrongWord_34 rfl ?_
    refine mm_icmp_ne (n := 38) (tgt := 51) smd_V_firstWrongWord_35 rfl rfl (fun hc => ?_) (fun hc => ?_)
    · replace hT := hT.1 hc
      refine mm_iconst (n := 52) (v := 0) smd_V_firstWrongWord_51 rfl (by decide) ?_
      refine mm_istore (n := 54) (i := 4) (L' := [some (.ref (mm_B Γ + v)), some (.int x1), some (.int x2), some (.int r22), some (.int (0 : Int32))]) smd_V_firstWrongWord_52 rfl (by decide) rfl ?_
      refine mm_iload (n := 56) (i := 4) smd_V_firstWrongWord_54 rfl rfl ?_
      refine mm_if_ne (n := 59) (tgt := 68) smd_V_firstWrongWord_56 rfl rfl (fun hc => ?_) (fun hc => ?_)
      · replace hT := hT.1 hc
        refine mm_iload_n (n := 69) (i := 3) smd_V_firstWrongWord_68 rfl rfl rfl ?_
        exact mm_iret rfl smd_V_firstWrongWord_69 ⟨_, rfl, hT⟩
      · replace hT := hT.2 hc
        refine mm_aload_n (n := 60) (i := 0) smd_V_firstWrongWord_59 rfl rfl rfl ?_
        refine mm_iload_n (n := 61) (i := 1) smd_V_firstWrongWord_60 rfl rfl rfl ?_
        refine mm_iload_n (n := 62) (i := 3) smd_V_firstWrongWord_61 rfl rfl rfl ?_
        refine mm_callVI (n := 65) (As := [.int x1, .int r22]) (rest := []) smv_V_isRight smw_274 (smb_V h_v) (mm_hRm (by decide) (by decide)) smd_V_firstWrongWord_62 rfl rfl (Nat.le_of_ble_eq_true rfl) hT (fun r62 h62 hT => ?_)
        refine mm_if_ne (n := 68) (tgt := 70) smd_V_firstWrongWord_65 rfl rfl (fun hc => ?_) (fun hc => ?_)
        · replace hT := hT.1 hc
          refine mm_iinc (n := 73) (i := 2) (d := 1) (L' := [some (.ref (mm_B Γ + v)), some (.int x1), some (.int (x2 + (1 : Int32))), some (.int r22), some (.int (0 : Int32))]) smd_V_firstWrongWord_70 rfl rfl (by decide) (by decide) rfl ?_
          refine mm_goto (n := 10) smd_V_firstWrongWord_73 rfl ?_
          exact mm_weak (by refine ⟨rfl, rfl, rfl, trivial⟩) hT
        · replace hT := hT.2 hc
          refine mm_iload_n (n := 69) (i := 3) smd_V_firstWrongWord_68 rfl rfl rfl ?_
          exact mm_iret rfl smd_V_firstWrongWord_69 ⟨_, rfl, hT⟩
    · replace hT := hT.2 hc
      refine mm_aload_n (n := 39) (i := 0) smd_V_firstWrongWord_38 rfl rfl rfl ?_
      refine mm_get (n := 42) (v := .ref (mm_B Γ + (v + 2))) smk_V_15 (smb_V h_v) rfl smd_V_firstWrongWord_39 rfl ?_
      refine mm_iload_n (n := 43) (i := 3) smd_V_firstWrongWord_42 rfl rfl rfl ?_
      refine mm_iald (n := 44) (sma_V2 h_v) hT.1 smd_V_firstWrongWord_43 rfl ?_
      replace hT := hT.2
      refine mm_if_eq (n := 47) (tgt := 51) smd_V_firstWrongWord_44 rfl rfl (fun hc => ?_) (fun hc => ?_)
      · replace hT := hT.1 hc
        refine mm_iconst (n := 52) (v := 0) smd_V_firstWrongWord_51 rfl (by decide) ?_
        refine mm_istore (n := 54) (i := 4) (L' := [some (.ref (mm_B Γ + v)), some (.int x1), some (.int x2), some (.int r22), some (.int (0 : Int32))]) smd_V_firstWrongWord_52 rfl (by decide) rfl ?_
        refine mm_iload (n := 56) (i := 4) smd_V_firstWrongWord_54 rfl rfl ?_
        refine mm_if_ne (n := 59) (tgt := 68) smd_V_firstWrongWord_56 rfl rfl (fun hc => ?_) (fun hc => ?_)
        · replace hT := hT.1 hc
          refine mm_iload_n (n := 69) (i := 3) smd_V_firstWrongWord_68 rfl rfl rfl ?_
          exact mm_iret rfl smd_V_firstWrongWord_69 ⟨_, rfl, hT⟩
        · replace hT := hT.2 hc
          refine mm_aload_n (n := 60) (i := 0) smd_V_firstWrongWord_59 rfl rfl rfl ?_
          refine mm_iload_n (n := 61) (i := 1) smd_V_firstWrongWord_60 rfl rfl rfl ?_
          refine mm_iload_n (n := 62) (i := 3) smd_V_firstWrongWord_61 rfl rfl rfl ?_
          refine mm_callVI (n := 65) (As := [.int x1, .int r22]) (rest := []) smv_V_isRight smw_274 (smb_V h_v) (mm_hRm (by decide) (by decide)) smd_V_firstWrongWord_62 rfl rfl (Nat.le_of_ble_eq_true rfl) hT (fun r62 h62 hT => ?_)
          refine mm_if_ne (n := 68) (tgt := 70) smd_V_firstWrongWord_65 rfl rfl (fun hc => ?_) (fun hc => ?_)
          · replace hT := hT.1 hc
            refine mm_iinc (n := 73) (i := 2) (d := 1) (L' := [some (.ref (mm_B Γ + v)), some (.int x1), some (.int (x2 + (1 : Int32))), some (.int r22), some (.int (0 : Int32))]) smd_V_firstWrongWord_70 rfl rfl (by decide) (by decide) rfl ?_
            refine mm_goto (n := 10) smd_V_firstWrongWord_73 rfl ?_
            exact mm_weak (by refine ⟨rfl, rfl, rfl, trivial⟩) hT
          · replace hT := hT.2 hc
            refine mm_iload_n (n := 69) (i := 3) smd_V_firstWrongWord_68 rfl rfl rfl ?_
            exact mm_iret rfl smd_V_firstWrongWord_69 ⟨_, rfl, hT⟩
      · replace hT := hT.2 hc
        refine mm_iconst (n := 48) (v := 1) smd_V_firstWrongWord_47 rfl (by decide) ?_
        refine mm_goto (n := 52) smd_V_firstWrongWord_48 rfl ?_
        refine mm_istore (n := 54) (i := 4) (L' := [some (.ref (mm_B Γ + v)), some (.int x1), some (.int x2), some (.int r22), some (.int (1 : Int32))]) smd_V_firstWrongWord_52 rfl (by decide) rfl ?_
        refine mm_iload (n := 56) (i := 4) smd_V_firstWrongWord_54 rfl rfl ?_
        refine mm_if_ne (n := 59) (tgt := 68) smd_V_firstWrongWord_56 rfl rfl (fun hc => ?_) (fun hc => ?_)
        · replace hT := hT.1 hc
          refine mm_iload_n (n := 69) (i := 3) smd_V_firstWrongWord_68 rfl rfl rfl ?_
          exact mm_iret rfl smd_V_firstWrongWord_69 ⟨_, rfl, hT⟩
        · replace hT := hT.2 hc
          refine mm_aload_n (n := 60) (i := 0) smd_V_firstWrongWord_59 rfl rfl rfl ?_
          refine mm_iload_n (n := 61) (i := 1) smd_V_firstWrongWord_60 rfl rfl rfl ?_
          refine mm_iload_n (n := 62) (i := 3) smd_V_firstWrongWord_61 rfl rfl rfl ?_
          refine mm_callVI (n := 65) (As := [.int x1, .int r22]) (rest := []) smv_V_isRight smw_274 (smb_V h_v) (mm_hRm (by decide) (by decide)) smd_V_firstWrongWord_62 rfl rfl (Nat.le_of_ble_eq_true rfl) hT (fun r62 h62 hT => ?_)
          refine mm_if_ne (n := 68) (tgt := 70) smd_V_firstWrongWord_65 rfl rfl (fun hc => ?_) (fun hc => ?_)
          · replace hT := hT.1 hc
            refine mm_iinc (n := 73) (i := 2) (d := 1) (L' := [some (.ref (mm_B Γ + v)), some (.int x1), some (.int (x2 + (1 : Int32))), some (.int r22), some (.int (1 : Int32))]) smd_V_firstWrongWord_70 rfl rfl (by decide) (by decide) rfl ?_
            refine mm_goto (n := 10) smd_V_firstWrongWord_73 rfl ?_
            exact mm_weak (by refine ⟨rfl, rfl, rfl, trivial⟩) hT
          · replace hT := hT.2 hc
            refine mm_iload_n (n := 69) (i := 3) smd_V_firstWrongWord_68 rfl rfl rfl ?_
            exact mm_iret rfl smd_V_firstWrongWord_69 ⟨_, rfl, hT⟩
set_option maxHeartbeats 4000000 in
set_option maxRecDepth 100000 in
theorem smr_V_isRight {Γ : mm_Ctx} {post : Int32 → mm_Mem → Prop} {h : mm_Mem} {v : Nat} (h_v : v = 1 ∨ v = 8) (x1 : Int32) (x2 : Int32) (hT : (vp_in x2 72) ∧ (((h (v + 2) x2.toNatClampNeg) = 0 ∨ (h (v + 2) x2.toNatClampNeg) = 1 ∨ (h (v + 2) x2.toNatClampNeg) = 11 → ((vp_in x2 72) ∧ (mm_SI Γ smM_V_isLocal [.int (h (v + 3) x2.toNatClampNeg)] h (fun r78 h78 => (r78 = 0 ∨ r78 = 1) ∧ post r78 h78)))) ∧ ((h (v + 2) x2.toNatClampNeg) = 2 ∨ (h (v + 2) x2.toNatClampNeg) = 3 → ((vp_in x2 72) ∧ (mm_SI Γ smM_V_isLocal [.int (h (v + 3) x2.toNatClampNeg)] h (fun r88 h88 => (r88 = 0 → (post (0 : Int32) h88)) ∧ (¬ r88 = 0 → ((vp_in x2 72) ∧ (mm_SI Γ smM_V_isLocal [.int (h88 (v + 4) x2.toNatClampNeg)] h88 (fun r100 h100 => (r100 = 0 → (post (0 : Int32) h100)) ∧ (¬ r100 = 0 → ((vp_in x2 72) ∧ (mm_SI Γ smM_V_isLocal [.int (h100 (v + 5) x2.toNatClampNeg)] h100 (fun r112 h112 => (r112 = 0 → (post (0 : Int32) h112)) ∧ (¬ r112 = 0 → (post (1 : Int32) h112)))))))))))))) ∧ ((h (v + 2) x2.toNatClampNeg) = 4 → ((vp_in x2 72) ∧ (mm_SI Γ smM_V_isLocal [.int (h (v + 3) x2.toNatClampNeg)] h (fun r130 h130 => (r130 = 0 → (post (0 : Int32) h130)) ∧ (¬ r130 = 0 → ((vp_in x2 72) ∧ ((vp_in x1 6) ∧ (mm_SI Γ smM_S_isWithin [.int (h130 (v + 4) x2.toNatClampNeg), .int (h130 (v + 1) x1.toNatClampNeg)] h130 (fun r148 h148 => (r148 = 0 → (post (0 : Int32) h148)) ∧ (¬ r148 = 0 → (post (1 : Int32) h148))))))))))) ∧ ((h (v + 2) x2.toNatClampNeg) = 5 → ((vp_in x2 72) ∧ (mm_SI Γ smM_V_isLocal [.int (h (v + 3) x2.toNatClampNeg)] h (fun r166 h166 => (r166 = 0 → (post (0 : Int32) h166)) ∧ (¬ r166 = 0 → ((vp_in x2 72) ∧ (mm_SI Γ smM_V_hasProcedure [.ref (mm_B Γ + v), .int (h166 (v + 4) x2.toNatClampNeg)] h166 (fun r179 h179 => (r179 = 0 → (post (0 : Int32) h179)) ∧ (¬ r179 = 0 → ((vp_in x2 72) ∧ (mm_SI Γ smM_V_isLocal [.int (h179 (v + 5) x2.toNatClampNeg)] h179 (fun r191 h191 => (r191 = 0 → (post (0 : Int32) h191)) ∧ (¬ r191 = 0 → (post (1 : Int32) h191)))))))))))))) ∧ ((h (v + 2) x2.toNatClampNeg) = 6 → ((vp_in x2 72) ∧ (mm_SI Γ smM_V_isLocal [.int (h (v + 3) x2.toNatClampNeg)] h (fun r209 h209 => (r209 = 0 → (post (0 : Int32) h209)) ∧ (¬ r209 = 0 → ((vp_in x2 72) ∧ (mm_SI Γ smM_S_isWithin [.int (h209 (v + 4) x2.toNatClampNeg), .int (3 : Int32)] h209 (fun r222 h222 => (r222 = 0 → (post (0 : Int32) h222)) ∧ (¬ r222 = 0 → ((vp_in x2 72) ∧ ((vp_in (h222 (v + 4) x2.toNatClampNeg) 3) ∧ (((h222 (v + 6) (h222 (v + 4) x2.toNatClampNeg).toNatClampNeg) ≤ 0 → (post (0 : Int32) h222)) ∧ (¬ (h222 (v + 6) (h222 (v + 4) x2.toNatClampNeg).toNatClampNeg) ≤ 0 → (post (1 : Int32) h222)))))))))))))) ∧ ((h (v + 2) x2.toNatClampNeg) = 7 ∨ (h (v + 2) x2.toNatClampNeg) = 8 → ((vp_in x2 72) ∧ (mm_SI Γ smM_V_isLocal [.int (h (v + 3) x2.toNatClampNeg)] h (fun r254 h254 => (r254 = 0 → (post (0 : Int32) h254)) ∧ (¬ r254 = 0 → ((vp_in x2 72) ∧ (mm_SI Γ smM_V_isLocal [.int (h254 (v + 4) x2.toNatClampNeg)] h254 (fun r266 h266 => (r266 = 0 → (post (0 : Int32) h266)) ∧ (¬ r266 = 0 → ((vp_in x2 72) ∧ (mm_SI Γ smM_V_isFieldOfType [.ref (mm_B Γ + v), .int (h266 (v + 5) x2.toNatClampNeg)] h266 (fun r279 h279 => (r279 = 0 → (post (0 : Int32) h279)) ∧ (¬ r279 = 0 → (post (1 : Int32) h279)))))))))))))) ∧ ((h (v + 2) x2.toNatClampNeg) = 9 ∨ (h (v + 2) x2.toNatClampNeg) = 10 → ((vp_in x2 72) ∧ (mm_SI Γ smM_V_isLocal [.int (h (v + 3) x2.toNatClampNeg)] h (fun r297 h297 => (r297 = 0 → (post (0 : Int32) h297)) ∧ (¬ r297 = 0 → ((vp_in x2 72) ∧ (mm_SI Γ smM_S_isWithin [.int (h297 (v + 4) x2.toNatClampNeg), .int (4 : Int32)] h297 (fun r310 h310 => (r310 = 0 → (post (0 : Int32) h310)) ∧ (¬ r310 = 0 → (post (1 : Int32) h310)))))))))) ∧ ((h (v + 2) x2.toNatClampNeg) = 12 → ((vp_in x2 72) ∧ (mm_SI Γ smM_S_isWithin [.int (h (v + 3) x2.toNatClampNeg), .int (4 : Int32)] h (fun r329 h329 => (r329 = 0 ∨ r329 = 1) ∧ post r329 h329)))) ∧ (¬ (h (v + 2) x2.toNatClampNeg) = 0 → ¬ (h (v + 2) x2.toNatClampNeg) = 1 → ¬ (h (v + 2) x2.toNatClampNeg) = 2 → ¬ (h (v + 2) x2.toNatClampNeg) = 3 → ¬ (h (v + 2) x2.toNatClampNeg) = 4 → ¬ (h (v + 2) x2.toNatClampNeg) = 5 → ¬ (h (v + 2) x2.toNatClampNeg) = 6 → ¬ (h (v + 2) x2.toNatClampNeg) = 7 → ¬ (h (v + 2) x2.toNatClampNeg) = 8 → ¬ (h (v + 2) x2.toNatClampNeg) = 9 → ¬ (h (v + 2) x2.toNatClampNeg) = 10 → ¬ (h (v + 2) x2.toNatClampNeg) = 11 → ¬ (h (v + 2) x2.toNatClampNeg) = 12 → (post (0 : Int32) h)))) : mm_SI Γ smM_V_isRight [.ref (mm_B Γ + v), .int x1, .int x2] h post := by
  refine mm_spec0 (M := smM_V_isRight) 0 (by decide +kernel) rfl (Nat.le_of_ble_eq_true rfl) ?_
  show mm_W Γ smM_V_isRight (mm_pI post) 0 [some (.ref (mm_B Γ + v)), some (.int x1), some (.int x2)] [] h
  refine mm_aload_n (n := 1) (i := 0) smd_V_isRight_0 rfl rfl rfl ?_
  refine mm_get (n := 4) (v := .ref (mm_B Γ + (v + 2))) smk_V_15 (smb_V h_v) rfl smd_V_isRight_1 rfl ?_
  refine mm_iload_n (n := 5) (i := 2) smd_V_isRight_4 rfl rfl rfl ?_
  refine mm_iald (n := 6) (sma_V2 h_v) hT.1 smd_V_isRight_5 rfl ?_
  replace hT := hT.2
  by_cases e : (h (v + 2) x2.toNatClampNeg) = 0
  · refine mm_tIn (tgt := 72) smd_V_isRight_6 0 e (by decide) (by decide) rfl rfl ?_
    replace hT := hT.1 (Or.inl e)
    refine mm_aload_n (n := 73) (i := 0) smd_V_isRight_72 rfl rfl rfl ?_
    refine mm_get (n := 76) (v := .ref (mm_B Γ + (v + 3))) smk_V_18 (smb_V h_v) rfl smd_V_isRight_73 rfl ?_
    refine mm_iload_n (n := 77) (i := 2) smd_V_isRight_76 rfl rfl rfl ?_
    refine mm_iald (n := 78) (sma_V3 h_v) hT.1 smd_V_isRight_77 rfl ?_
    replace hT := hT.2
    refine mm_callSI (n := 81) (As := [.int (h (v + 3) x2.toNatClampNeg)]) (rest := []) smv_V_isLocal smw_278 (mm_hRm (by decide) (by decide)) smd_V_isRight_78 rfl rfl (Nat.le_of_ble_eq_true rfl) hT (fun r78 h78 hT => ?_)
    exact mm_zret rfl hT.1 smd_V_isRight_81 ⟨_, rfl, hT.2⟩
  have n0 := e
  clear e
  by_cases e : (h (v + 2) x2.toNatClampNeg) = 1
  · refine mm_tIn (tgt := 72) smd_V_isRight_6 1 e (by decide) (by decide) rfl rfl ?_
    replace hT := hT.1 (Or.inr (Or.inl e))
    refine mm_aload_n (n := 73) (i := 0) smd_V_isRight_72 rfl rfl rfl ?_
    refine mm_get (n := 76) (v := .ref (mm_B Γ + (v + 3))) smk_V_18 (smb_V h_v) rfl smd_V_isRight_73 rfl ?_
    refine mm_iload_n (n := 77) (i := 2) smd_V_isRight_76 rfl rfl rfl ?_
    refine mm_iald (n := 78) (sma_V3 h_v) hT.1 smd_V_isRight_77 rfl ?_
    replace hT := hT.2
    refine mm_callSI (n := 81) (As := [.int (h (v + 3) x2.toNatClampNeg)]) (rest := []) smv_V_isLocal smw_278 (mm_hRm (by decide) (by decide)) smd_V_isRight_78 rfl rfl (Nat.le_of_ble_eq_true rfl) hT (fun r78 h78 hT => ?_)
    exact mm_zret rfl hT.1 smd_V_isRight_81 ⟨_, rfl, hT.2⟩
  have n1 := e
  clear e
  by_cases e : (h (v + 2) x2.toNatClampNeg) = 2
  · refine mm_tIn (tgt := 82) smd_V_isRight_6 2 e (by decide) (by decide) rfl rfl ?_
    replace hT := hT.2.1 (Or.inl e)
    refine mm_aload_n (n := 83) (i := 0) smd_V_isRight_82 rfl rfl rfl ?_
    refine mm_get (n := 86) (v := .ref (mm_B Γ + (v + 3))) smk_V_18 (smb_V h_v) rfl smd_V_isRight_83 rfl ?_
    refine mm_iload_n (n := 87) (i := 2) smd_V_isRight_86 rfl rfl rfl ?_
    refine mm_iald (n := 88) (sma_V3 h_v) hT.1 smd_V_isRight_87 rfl ?_
    replace hT := hT.2
    refine mm_callSI (n := 91) (As := [.int (h (v + 3) x2.toNatClampNeg)]) (rest := []) smv_V_isLocal smw_278 (mm_hRm (by decide) (by decide)) smd_V_isRight_88 rfl rfl (Nat.le_of_ble_eq_true rfl) hT (fun r88 h88 hT => ?_)
    refine mm_if_eq (n := 94) (tgt := 122) smd_V_isRight_91 rfl rfl (fun hc => ?_) (fun hc => ?_)
    · replace hT := hT.1 hc
      refine mm_iconst (n := 123) (v := 0) smd_V_isRight_122 rfl (by decide) ?_
      exact mm_zret rfl (Or.inl rfl) smd_V_isRight_123 ⟨_, rfl, hT⟩
    · replace hT := hT.2 hc
      refine mm_aload_n (n := 95) (i := 0) smd_V_isRight_94 rfl rfl rfl ?_
      refine mm_get (n := 98) (v := .ref (mm_B Γ + (v + 4))) smk_V_21 (smb_V h_v) rfl smd_V_isRight_95 rfl ?_
      refine mm_iload_n (n := 99) (i := 2) smd_V_isRight_98 rfl rfl rfl ?_
      refine mm_iald (n := 100) (sma_V4 h_v) hT.1 smd_V_isRight_99 rfl ?_
      replace hT := hT.2
      refine mm_callSI (n := 103) (As := [.int (h88 (v + 4) x2.toNatClampNeg)]) (rest := []) smv_V_isLocal smw_278 (mm_hRm (by decide) (by decide)) smd_V_isRight_100 rfl rfl (Nat.le_of_ble_eq_true rfl) hT (fun r100 h100 hT => ?_)
      refine mm_if_eq (n := 106) (tgt := 122) smd_V_isRight_103 rfl rfl (fun hc => ?_) (fun hc => ?_)
      · replace hT := hT.1 hc
        refine mm_iconst (n := 123) (v := 0) smd_V_isRight_122 rfl (by decide) ?_
        exact mm_zret rfl (Or.inl rfl) smd_V_isRight_123 ⟨_, rfl, hT⟩
      · replace hT := hT.2 hc
        refine mm_aload_n (n := 107) (i := 0) smd_V_isRight_106 rfl rfl rfl ?_
        refine mm_get (n := 110) (v := .ref (mm_B Γ + (v + 5))) smk_V_24 (smb_V h_v) rfl smd_V_isRight_107 rfl ?_
        refine mm_iload_n (n := 111) (i := 2) smd_V_isRight_110 rfl rfl rfl ?_
        refine mm_iald (n := 112) (sma_V5 h_v) hT.1 smd_V_isRight_111 rfl ?_
        replace hT := hT.2
        refine mm_callSI (n := 115) (As := [.int (h100 (v + 5) x2.toNatClampNeg)]) (rest := []) smv_V_isLocal smw_278 (mm_hRm (by decide) (by decide)) smd_V_isRight_112 rfl rfl (Nat.le_of_ble_eq_true rfl) hT (fun r112 h112 hT => ?_)
        refine mm_if_eq (n := 118) (tgt := 122) smd_V_isRight_115 rfl rfl (fun hc => ?_) (fun hc => ?_)
        · replace hT := hT.1 hc
          refine mm_iconst (n := 123) (v := 0) smd_V_isRight_122 rfl (by decide) ?_
          exact mm_zret rfl (Or.inl rfl) smd_V_isRight_123 ⟨_, rfl, hT⟩
        · replace hT := hT.2 hc
          refine mm_iconst (n := 119) (v := 1) smd_V_isRight_118 rfl (by decide) ?_
          refine mm_goto (n := 123) smd_V_isRight_119 rfl ?_
          exact mm_zret rfl (Or.inr rfl) smd_V_isRight_123 ⟨_, rfl, hT⟩
  have n2 := e
  clear e
  by_cases e : (h (v + 2) x2.toNatClampNeg) = 3
  · refine mm_tIn (tgt := 82) smd_V_isRight_6 3 e (by decide) (by decide) rfl rfl ?_
    replace hT := hT.2.1 (Or.inr (e))
    refine mm_aload_n (n := 83) (i := 0) smd_V_isRight_82 rfl rfl rfl ?_
    refine mm_get (n := 86) (v := .ref (mm_B Γ + (v + 3))) smk_V_18 (smb_V h_v) rfl smd_V_isRight_83 rfl ?_
    refine mm_iload_n (n := 87) (i := 2) smd_V_isRight_86 rfl rfl rfl ?_
    refine mm_iald (n := 88) (sma_V3 h_v) hT.1 smd_V_isRight_87 rfl ?_
    replace hT := hT.2
    refine mm_callSI (n := 91) (As := [.int (h (v + 3) x2.toNatClampNeg)]) (rest := []) smv_V_isLocal smw_278 (mm_hRm (by decide) (by decide)) smd_V_isRight_88 rfl rfl (Nat.le_of_ble_eq_true rfl) hT (fun r88 h88 hT => ?_)
    refine mm_if_eq (n := 94) (tgt := 122) smd_V_isRight_91 rfl rfl (fun hc => ?_) (fun hc => ?_)
    · replace hT := hT.1 hc
      refine mm_iconst (n := 123) (v := 0) smd_V_isRight_122 rfl (by decide) ?_
      exact mm_zret rfl (Or.inl rfl) smd_V_isRight_123 ⟨_, rfl, hT⟩
    · replace hT := hT.2 hc
      refine mm_aload_n (n := 95) (i := 0) smd_V_isRight_94 rfl rfl rfl ?_
      refine mm_get (n := 98) (v := .ref (mm_B Γ + (v + 4))) smk_V_21 (smb_V h_v) rfl smd_V_isRight_95 rfl ?_
      refine mm_iload_n (n := 99) (i := 2) smd_V_isRight_98 rfl rfl rfl ?_
      refine mm_iald (n := 100) (sma_V4 h_v) hT.1 smd_V_isRight_99 rfl ?_
      replace hT := hT.2
      refine mm_callSI (n := 103) (As := [.int (h88 (v + 4) x2.toNatClampNeg)]) (rest := []) smv_V_isLocal smw_278 (mm_hRm (by decide) (by decide)) smd_V_isRight_100 rfl rfl (Nat.le_of_ble_eq_true rfl) hT (fun r100 h100 hT => ?_)
      refine mm_if_eq (n := 106) (tgt := 122) smd_V_isRight_103 rfl rfl (fun hc => ?_) (fun hc => ?_)
      · replace hT := hT.1 hc
        refine mm_iconst (n := 123) (v := 0) smd_V_isRight_122 rfl (by decide) ?_
        exact mm_zret rfl (Or.inl rfl) smd_V_isRight_123 ⟨_, rfl, hT⟩
      · replace hT := hT.2 hc
        refine mm_aload_n (n := 107) (i := 0) smd_V_isRight_106 rfl rfl rfl ?_
        refine mm_get (n := 110) (v := .ref (mm_B Γ + (v + 5))) smk_V_24 (smb_V h_v) rfl smd_V_isRight_107 rfl ?_
        refine mm_iload_n (n := 111) (i := 2) smd_V_isRight_110 rfl rfl rfl ?_
        refine mm_iald (n := 112) (sma_V5 h_v) hT.1 smd_V_isRight_111 rfl ?_
        replace hT := hT.2
        refine mm_callSI (n := 115) (As := [.int (h100 (v + 5) x2.toNatClampNeg)]) (rest := []) smv_V_isLocal smw_278 (mm_hRm (by decide) (by decide)) smd_V_isRight_112 rfl rfl (Nat.le_of_ble_eq_true rfl) hT (fun r112 h112 hT => ?_)
        refine mm_if_eq (n := 118) (tgt := 122) smd_V_isRight_115 rfl rfl (fun hc => ?_) (fun hc => ?_)
        · replace hT := hT.1 hc
          refine mm_iconst (n := 123) (v := 0) smd_V_isRight_122 rfl (by decide) ?_
          exact mm_zret rfl (Or.inl rfl) smd_V_isRight_123 ⟨_, rfl, hT⟩
        · replace hT := hT.2 hc
          refine mm_iconst (n := 119) (v := 1) smd_V_isRight_118 rfl (by decide) ?_
          refine mm_goto (n := 123) smd_V_isRight_119 rfl ?_
          exact mm_zret rfl (Or.inr rfl) smd_V_isRight_123 ⟨_, rfl, hT⟩
  have n3 := e
  clear e
  by_cases e : (h (v + 2) x2.toNatClampNeg) = 4
  · refine mm_tIn (tgt := 124) smd_V_isRight_6 4 e (by decide) (by decide) rfl rfl ?_
    replace hT := hT.2.2.1 (e)
    refine mm_aload_n (n := 125) (i := 0) smd_V_isRight_124 rfl rfl rfl ?_
    refine mm_get (n := 128) (v := .ref (mm_B Γ + (v + 3))) smk_V_18 (smb_V h_v) rfl smd_V_isRight_125 rfl ?_
    refine mm_iload_n (n := 129) (i := 2) smd_V_isRight_128 rfl rfl rfl ?_
    refine mm_iald (n := 130) (sma_V3 h_v) hT.1 smd_V_isRight_129 rfl ?_
    replace hT := hT.2
    refine mm_callSI (n := 133) (As := [.int (h (v + 3) x2.toNatClampNeg)]) (rest := []) smv_V_isLocal smw_278 (mm_hRm (by decide) (by decide)) smd_V_isRight_130 rfl rfl (Nat.le_of_ble_eq_true rfl) hT (fun r130 h130 hT => ?_)
    refine mm_if_eq (n := 136) (tgt := 158) smd_V_isRight_133 rfl rfl (fun hc => ?_) (fun hc => ?_)
    · replace hT := hT.1 hc
      refine mm_iconst (n := 159) (v := 0) smd_V_isRight_158 rfl (by decide) ?_
      exact mm_zret rfl (Or.inl rfl) smd_V_isRight_159 ⟨_, rfl, hT⟩
    · replace hT := hT.2 hc
      refine mm_aload_n (n := 137) (i := 0) smd_V_isRight_136 rfl rfl rfl ?_
      refine mm_get (n := 140) (v := .ref (mm_B Γ + (v + 4))) smk_V_21 (smb_V h_v) rfl smd_V_isRight_137 rfl ?_
      refine mm_iload_n (n := 141) (i := 2) smd_V_isRight_140 rfl rfl rfl ?_
      refine mm_iald (n := 142) (sma_V4 h_v) hT.1 smd_V_isRight_141 rfl ?_
      replace hT := hT.2
      refine mm_aload_n (n := 143) (i := 0) smd_V_isRight_142 rfl rfl rfl ?_
      refine mm_get (n := 146) (v := .ref (mm_B Γ + (v + 1))) smk_V_9 (smb_V h_v) rfl smd_V_isRight_143 rfl ?_
      refine mm_iload_n (n := 147) (i := 1) smd_V_isRight_146 rfl rfl rfl ?_
      refine mm_iald (n := 148) (sma_V1 h_v) hT.1 smd_V_isRight_147 rfl ?_
      replace hT := hT.2
      refine mm_callSNI (n := 151) (As := [.int (h130 (v + 4) x2.toNatClampNeg), .int (h130 (v + 1) x1.toNatClampNeg)]) (rest := []) smv_S_isWithin rfl (mm_hRm (by decide) (by decide)) smd_V_isRight_148 rfl rfl (Nat.le_of_ble_eq_true rfl) hT (fun r148 h148 hT => ?_)
      refine mm_if_eq (n := 154) (tgt := 158) smd_V_isRight_151 rfl rfl (fun hc => ?_) (fun hc => ?_)
      · replace hT := hT.1 hc
        refine mm_iconst (n := 159) (v := 0) smd_V_isRight_158 rfl (by decide) ?_
        exact mm_zret rfl (Or.inl rfl) smd_V_isRight_159 ⟨_, rfl, hT⟩
      · replace hT := hT.2 hc
        refine mm_iconst (n := 155) (v := 1) smd_V_isRight_154 rfl (by decide) ?_
        refine mm_goto (n := 159) smd_V_isRight_155 rfl ?_
        exact mm_zret rfl (Or.inr rfl) smd_V_isRight_159 ⟨_, rfl, hT⟩
  have n4 := e
  clear e
  by_cases e : (h (v + 2) x2.toNatClampNeg) = 5
  · refine mm_tIn (tgt := 160) smd_V_isRight_6 5 e (by decide) (by decide) rfl rfl ?_
    replace hT := hT.2.2.2.1 (e)
    refine mm_aload_n (n := 161) (i := 0) smd_V_isRight_160 rfl rfl rfl ?_
    refine mm_get (n := 164) (v := .ref (mm_B Γ + (v + 3))) smk_V_18 (smb_V h_v) rfl smd_V_isRight_161 rfl ?_
    refine mm_iload_n (n := 165) (i := 2) smd_V_isRight_164 rfl rfl rfl ?_
    refine mm_iald (n := 166) (sma_V3 h_v) hT.1 smd_V_isRight_165 rfl ?_
    replace hT := hT.2
    refine mm_callSI (n := 169) (As := [.int (h (v + 3) x2.toNatClampNeg)]) (rest := []) smv_V_isLocal smw_278 (mm_hRm (by decide) (by decide)) smd_V_isRight_166 rfl rfl (Nat.le_of_ble_eq_true rfl) hT (fun r166 h166 hT => ?_)
    refine mm_if_eq (n := 172) (tgt := 201) smd_V_isRight_169 rfl rfl (fun hc => ?_) (fun hc => ?_)
    · replace hT := hT.1 hc
      refine mm_iconst (n := 202) (v := 0) smd_V_isRight_201 rfl (by decide) ?_
      exact mm_zret rfl (Or.inl rfl) smd_V_isRight_202 ⟨_, rfl, hT⟩
    · replace hT := hT.2 hc
      refine mm_aload_n (n := 173) (i := 0) smd_V_isRight_172 rfl rfl rfl ?_
      refine mm_aload_n (n := 174) (i := 0) smd_V_isRight_173 rfl rfl rfl ?_
      refine mm_get (n := 177) (v := .ref (mm_B Γ + (v + 4))) smk_V_21 (smb_V h_v) rfl smd_V_isRight_174 rfl ?_
      refine mm_iload_n (n := 178) (i := 2) smd_V_isRight_177 rfl rfl rfl ?_
      refine mm_iald (n := 179) (sma_V4 h_v) hT.1 smd_V_isRight_178 rfl ?_
      replace hT := hT.2
      refine mm_callVI (n := 182) (As := [.int (h166 (v + 4) x2.toNatClampNeg)]) (rest := []) smv_V_hasProcedure smw_282 (smb_V h_v) (mm_hRm (by decide) (by decide)) smd_V_isRight_179 rfl rfl (Nat.le_of_ble_eq_true rfl) hT (fun r179 h179 hT => ?_)
      refine mm_if_eq (n := 185) (tgt := 201) smd_V_isRight_182 rfl rfl (fun hc => ?_) (fun hc => ?_)
      · replace hT := hT.1 hc
        refine mm_iconst (n := 202) (v := 0) smd_V_isRight_201 rfl (by decide) ?_
        exact mm_zret rfl (Or.inl rfl) smd_V_isRight_202 ⟨_, rfl, hT⟩
      · replace hT := hT.2 hc
        refine mm_aload_n (n := 186) (i := 0) smd_V_isRight_185 rfl rfl rfl ?_
        refine mm_get (n := 189) (v := .ref (mm_B Γ + (v + 5))) smk_V_24 (smb_V h_v) rfl smd_V_isRight_186 rfl ?_
        refine mm_iload_n (n := 190) (i := 2) smd_V_isRight_189 rfl rfl rfl ?_
        refine mm_iald (n := 191) (sma_V5 h_v) hT.1 smd_V_isRight_190 rfl ?_
        replace hT := hT.2
        refine mm_callSI (n := 194) (As := [.int (h179 (v + 5) x2.toNatClampNeg)]) (rest := []) smv_V_isLocal smw_278 (mm_hRm (by decide) (by decide)) smd_V_isRight_191 rfl rfl (Nat.le_of_ble_eq_true rfl) hT (fun r191 h191 hT => ?_)
        refine mm_if_eq (n := 197) (tgt := 201) smd_V_isRight_194 rfl rfl (fun hc => ?_) (fun hc => ?_)
        · replace hT := hT.1 hc
          refine mm_iconst (n := 202) (v := 0) smd_V_isRight_201 rfl (by decide) ?_
          exact mm_zret rfl (Or.inl rfl) smd_V_isRight_202 ⟨_, rfl, hT⟩
        · replace hT := hT.2 hc
          refine mm_iconst (n := 198) (v := 1) smd_V_isRight_197 rfl (by decide) ?_
          refine mm_goto (n := 202) smd_V_isRight_198 rfl ?_
          exact mm_zret rfl (Or.inr rfl) smd_V_isRight_202 ⟨_, rfl, hT⟩
  have n5 := e
  clear e
  by_cases e : (h (v + 2) x2.toNatClampNeg) = 6
  · refine mm_tIn (tgt := 203) smd_V_isRight_6 6 e (by decide) (by decide) rfl rfl ?_
    replace hT := hT.2.2.2.2.1 (e)
    refine mm_aload_n (n := 204) (i := 0) smd_V_isRight_203 rfl rfl rfl ?_
    refine mm_get (n := 207) (v := .ref (mm_B Γ + (v + 3))) smk_V_18 (smb_V h_v) rfl smd_V_isRight_204 rfl ?_
    refine mm_iload_n (n := 208) (i := 2) smd_V_isRight_207 rfl rfl rfl ?_
    refine mm_iald (n := 209) (sma_V3 h_v) hT.1 smd_V_isRight_208 rfl ?_
    replace hT := hT.2
    refine mm_callSI (n := 212) (As := [.int (h (v + 3) x2.toNatClampNeg)]) (rest := []) smv_V_isLocal smw_278 (mm_hRm (by decide) (by decide)) smd_V_isRight_209 rfl rfl (Nat.le_of_ble_eq_true rfl) hT (fun r209 h209 hT => ?_)
    refine mm_if_eq (n := 215) (tgt := 246) smd_V_isRight_212 rfl rfl (fun hc => ?_) (fun hc => ?_)
    · replace hT := hT.1 hc
      refine mm_iconst (n := 247) (v := 0) smd_V_isRight_246 rfl (by decide) ?_
      exact mm_zret rfl (Or.inl rfl) smd_V_isRight_247 ⟨_, rfl, hT⟩
    · replace hT := hT.2 hc
      refine mm_aload_n (n := 216) (i := 0) smd_V_isRight_215 rfl rfl rfl ?_
      refine mm_get (n := 219) (v := .ref (mm_B Γ + (v + 4))) smk_V_21 (smb_V h_v) rfl smd_V_isRight_216 rfl ?_
      refine mm_iload_n (n := 220) (i := 2) smd_V_isRight_219 rfl rfl rfl ?_
      refine mm_iald (n := 221) (sma_V4 h_v) hT.1 smd_V_isRight_220 rfl ?_
      replace hT := hT.2
      refine mm_iconst (n := 222) (v := 3) smd_V_isRight_221 rfl (by decide) ?_
      refine mm_callSNI (n := 225) (As := [.int (h209 (v + 4) x2.toNatClampNeg), .int (3 : Int32)]) (rest := []) smv_S_isWithin rfl (mm_hRm (by decide) (by decide)) smd_V_isRight_222 rfl rfl (Nat.le_of_ble_eq_true rfl) hT (fun r222 h222 hT => ?_)
      refine mm_if_eq (n := 228) (tgt := 246) smd_V_isRight_225 rfl rfl (fun hc => ?_) (fun hc => ?_)
      · replace hT := hT.1 hc
        refine mm_iconst (n := 247) (v := 0) smd_V_isRight_246 rfl (by decide) ?_
        exact mm_zret rfl (Or.inl rfl) smd_V_isRight_247 ⟨_, rfl, hT⟩
      · replace hT := hT.2 hc
        refine mm_aload_n (n := 229) (i := 0) smd_V_isRight_228 rfl rfl rfl ?_
        refine mm_get (n := 232) (v := .ref (mm_B Γ + (v + 6))) smk_V_27 (smb_V h_v) rfl smd_V_isRight_229 rfl ?_
        refine mm_aload_n (n := 233) (i := 0) smd_V_isRight_232 rfl rfl rfl ?_
        refine mm_get (n := 236) (v := .ref (mm_B Γ + (v + 4))) smk_V_21 (smb_V h_v) rfl smd_V_isRight_233 rfl ?_
        refine mm_iload_n (n := 237) (i := 2) smd_V_isRight_236 rfl rfl rfl ?_
        refine mm_iald (n := 238) (sma_V4 h_v) hT.1 smd_V_isRight_237 rfl ?_
        replace hT := hT.2
        refine mm_iald (n := 239) (sma_V6 h_v) hT.1 smd_V_isRight_238 rfl ?_
        replace hT := hT.2
        refine mm_if_le (n := 242) (tgt := 246) smd_V_isRight_239 rfl rfl (fun hc => ?_) (fun hc => ?_)
        · replace hT := hT.1 hc
          refine mm_iconst (n := 247) (v := 0) smd_V_isRight_246 rfl (by decide) ?_
          exact mm_zret rfl (Or.inl rfl) smd_V_isRight_247 ⟨_, rfl, hT⟩
        · replace hT := hT.2 hc
          refine mm_iconst (n := 243) (v := 1) smd_V_isRight_242 rfl (by decide) ?_
          refine mm_goto (n := 247) smd_V_isRight_243 rfl ?_
          exact mm_zret rfl (Or.inr rfl) smd_V_isRight_247 ⟨_, rfl, hT⟩
  have n6 := e
  clear e
  by_cases e : (h (v + 2) x2.toNatClampNeg) = 7
  · refine mm_tIn (tgt := 248) smd_V_isRight_6 7 e (by decide) (by decide) rfl rfl ?_
    replace hT := hT.2.2.2.2.2.1 (Or.inl e)
    refine mm_aload_n (n := 249) (i := 0) smd_V_isRight_248 rfl rfl rfl ?_
    refine mm_get (n := 252) (v := .ref (mm_B Γ + (v + 3))) smk_V_18 (smb_V h_v) rfl smd_V_isRight_249 rfl ?_
    refine mm_iload_n (n := 253) (i := 2) smd_V_isRight_252 rfl rfl rfl ?_
    refine mm_iald (n := 254) (sma_V3 h_v) hT.1 smd_V_isRight_253 rfl ?_
    replace hT := hT.2
    refine mm_callSI (n := 257) (As := [.int (h (v + 3) x2.toNatClampNeg)]) (rest := []) smv_V_isLocal smw_278 (mm_hRm (by decide) (by decide)) smd_V_isRight_254 rfl rfl (Nat.le_of_ble_eq_true rfl) hT (fun r254 h254 hT => ?_)
    refine mm_if_eq (n := 260) (tgt := 289) smd_V_isRight_257 rfl rfl (fun hc => ?_) (fun hc => ?_)
    · replace hT := hT.1 hc
      refine mm_iconst (n := 290) (v := 0) smd_V_isRight_289 rfl (by decide) ?_
      exact mm_zret rfl (Or.inl rfl) smd_V_isRight_290 ⟨_, rfl, hT⟩
    · replace hT := hT.2 hc
      refine mm_aload_n (n := 261) (i := 0) smd_V_isRight_260 rfl rfl rfl ?_
      refine mm_get (n := 264) (v := .ref (mm_B Γ + (v + 4))) smk_V_21 (smb_V h_v) rfl smd_V_isRight_261 rfl ?_
      refine mm_iload_n (n := 265) (i := 2) smd_V_isRight_264 rfl rfl rfl ?_
      refine mm_iald (n := 266) (sma_V4 h_v) hT.1 smd_V_isRight_265 rfl ?_
      replace hT := hT.2
      refine mm_callSI (n := 269) (As := [.int (h254 (v + 4) x2.toNatClampNeg)]) (rest := []) smv_V_isLocal smw_278 (mm_hRm (by decide) (by decide)) smd_V_isRight_266 rfl rfl (Nat.le_of_ble_eq_true rfl) hT (fun r266 h266 hT => ?_)
      refine mm_if_eq (n := 272) (tgt := 289) smd_V_isRight_269 rfl rfl (fun hc => ?_) (fun hc => ?_)
      · replace hT := hT.1 hc
        refine mm_iconst (n := 290) (v := 0) smd_V_isRight_289 rfl (by decide) ?_
        exact mm_zret rfl (Or.inl rfl) smd_V_isRight_290 ⟨_, rfl, hT⟩
      · replace hT := hT.2 hc
        refine mm_aload_n (n := 273) (i := 0) smd_V_isRight_272 rfl rfl rfl ?_
        refine mm_aload_n (n := 274) (i := 0) smd_V_isRight_273 rfl rfl rfl ?_
        refine mm_get (n := 277) (v := .ref (mm_B Γ + (v + 5))) smk_V_24 (smb_V h_v) rfl smd_V_isRight_274 rfl ?_
        refine mm_iload_n (n := 278) (i := 2) smd_V_isRight_277 rfl rfl rfl ?_
        refine mm_iald (n := 279) (sma_V5 h_v) hT.1 smd_V_isRight_278 rfl ?_
        replace hT := hT.2
        refine mm_callVI (n := 282) (As := [.int (h266 (v + 5) x2.toNatClampNeg)]) (rest := []) smv_V_isFieldOfType smw_286 (smb_V h_v) (mm_hRm (by decide) (by decide)) smd_V_isRight_279 rfl rfl (Nat.le_of_ble_eq_true rfl) hT (fun r279 h279 hT => ?_)
        refine mm_if_eq (n := 285) (tgt := 289) smd_V_isRight_282 rfl rfl (fun hc => ?_) (fun hc => ?_)
        · replace hT := hT.1 hc
          refine mm_iconst (n := 290) (v := 0) smd_V_isRight_289 rfl (by decide) ?_
          exact mm_zret rfl (Or.inl rfl) smd_V_isRight_290 ⟨_, rfl, hT⟩
        · replace hT := hT.2 hc
          refine mm_iconst (n := 286) (v := 1) smd_V_isRight_285 rfl (by decide) ?_
          refine mm_goto (n := 290) smd_V_isRight_286 rfl ?_
          exact mm_zret rfl (Or.inr rfl) smd_V_isRight_290 ⟨_, rfl, hT⟩
  have n7 := e
  clear e
  by_cases e : (h (v + 2) x2.toNatClampNeg) = 8
  · refine mm_tIn (tgt := 248) smd_V_isRight_6 8 e (by decide) (by decide) rfl rfl ?_
    replace hT := hT.2.2.2.2.2.1 (Or.inr (e))
    refine mm_aload_n (n := 249) (i := 0) smd_V_isRight_248 rfl rfl rfl ?_
    refine mm_get (n := 252) (v := .ref (mm_B Γ + (v + 3))) smk_V_18 (smb_V h_v) rfl smd_V_isRight_249 rfl ?_
    refine mm_iload_n (n := 253) (i := 2) smd_V_isRight_252 rfl rfl rfl ?_
    refine mm_iald (n := 254) (sma_V3 h_v) hT.1 smd_V_isRight_253 rfl ?_
    replace hT := hT.2
    refine mm_callSI (n := 257) (As := [.int (h (v + 3) x2.toNatClampNeg)]) (rest := []) smv_V_isLocal smw_278 (mm_hRm (by decide) (by decide)) smd_V_isRight_254 rfl rfl (Nat.le_of_ble_eq_true rfl) hT (fun r254 h254 hT => ?_)
    refine mm_if_eq (n := 260) (tgt := 289) smd_V_isRight_257 rfl rfl (fun hc => ?_) (fun hc => ?_)
    · replace hT := hT.1 hc
      refine mm_iconst (n := 290) (v := 0) smd_V_isRight_289 rfl (by decide) ?_
      exact mm_zret rfl (Or.inl rfl) smd_V_isRight_290 ⟨_, rfl, hT⟩
    · replace hT := hT.2 hc
      refine mm_aload_n (n := 261) (i := 0) smd_V_isRight_260 rfl rfl rfl ?_
      refine mm_get (n := 264) (v := .ref (mm_B Γ + (v + 4))) smk_V_21 (smb_V h_v) rfl smd_V_isRight_261 rfl ?_
      refine mm_iload_n (n := 265) (i := 2) smd_V_isRight_264 rfl rfl rfl ?_
      refine mm_iald (n := 266) (sma_V4 h_v) hT.1 smd_V_isRight_265 rfl ?_
      replace hT := hT.2
      refine mm_callSI (n := 269) (As := [.int (h254 (v + 4) x2.toNatClampNeg)]) (rest := []) smv_V_isLocal smw_278 (mm_hRm (by decide) (by decide)) smd_V_isRight_266 rfl rfl (Nat.le_of_ble_eq_true rfl) hT (fun r266 h266 hT => ?_)
      refine mm_if_eq (n := 272) (tgt := 289) smd_V_isRight_269 rfl rfl (fun hc => ?_) (fun hc => ?_)
      · replace hT := hT.1 hc
        refine mm_iconst (n := 290) (v := 0) smd_V_isRight_289 rfl (by decide) ?_
        exact mm_zret rfl (Or.inl rfl) smd_V_isRight_290 ⟨_, rfl, hT⟩
      · replace hT := hT.2 hc
        refine mm_aload_n (n := 273) (i := 0) smd_V_isRight_272 rfl rfl rfl ?_
        refine mm_aload_n (n := 274) (i := 0) smd_V_isRight_273 rfl rfl rfl ?_
        refine mm_get (n := 277) (v := .ref (mm_B Γ + (v + 5))) smk_V_24 (smb_V h_v) rfl smd_V_isRight_274 rfl ?_
        refine mm_iload_n (n := 278) (i := 2) smd_V_isRight_277 rfl rfl rfl ?_
        refine mm_iald (n := 279) (sma_V5 h_v) hT.1 smd_V_isRight_278 rfl ?_
        replace hT := hT.2
        refine mm_callVI (n := 282) (As := [.int (h266 (v + 5) x2.toNatClampNeg)]) (rest := []) smv_V_isFieldOfType smw_286 (smb_V h_v) (mm_hRm (by decide) (by decide)) smd_V_isRight_279 rfl rfl (Nat.le_of_ble_eq_true rfl) hT (fun r279 h279 hT => ?_)
        refine mm_if_eq (n := 285) (tgt := 289) smd_V_isRight_282 rfl rfl (fun hc => ?_) (fun hc => ?_)
        · replace hT := hT.1 hc
          refine mm_iconst (n := 290) (v := 0) smd_V_isRight_289 rfl (by decide) ?_
          exact mm_zret rfl (Or.inl rfl) smd_V_isRight_290 ⟨_, rfl, hT⟩
        · replace hT := hT.2 hc
          refine mm_iconst (n := 286) (v := 1) smd_V_isRight_285 rfl (by decide) ?_
          refine mm_goto (n := 290) smd_V_isRight_286 rfl ?_
          exact mm_zret rfl (Or.inr rfl) smd_V_isRight_290 ⟨_, rfl, hT⟩
  have n8 := e
  clear e
  by_cases e : (h (v + 2) x2.toNatClampNeg) = 9
  · refine mm_tIn (tgt := 291) smd_V_isRight_6 9 e (by decide) (by decide) rfl rfl ?_
    replace hT := hT.2.2.2.2.2.2.1 (Or.inl e)
    refine mm_aload_n (n := 292) (i := 0) smd_V_isRight_291 rfl rfl rfl ?_
    refine mm_get (n := 295) (v := .ref (mm_B Γ + (v + 3))) smk_V_18 (smb_V h_v) rfl smd_V_isRight_292 rfl ?_
    refine mm_iload_n (n := 296) (i := 2) smd_V_isRight_295 rfl rfl rfl ?_
    refine mm_iald (n := 297) (sma_V3 h_v) hT.1 smd_V_isRight_296 rfl ?_
    replace hT := hT.2
    refine mm_callSI (n := 300) (As := [.int (h (v + 3) x2.toNatClampNeg)]) (rest := []) smv_V_isLocal smw_278 (mm_hRm (by decide) (by decide)) smd_V_isRight_297 rfl rfl (Nat.le_of_ble_eq_true rfl) hT (fun r297 h297 hT => ?_)
    refine mm_if_eq (n := 303) (tgt := 320) smd_V_isRight_300 rfl rfl (fun hc => ?_) (fun hc => ?_)
    · replace hT := hT.1 hc
      refine mm_iconst (n := 321) (v := 0) smd_V_isRight_320 rfl (by decide) ?_
      exact mm_zret rfl (Or.inl rfl) smd_V_isRight_321 ⟨_, rfl, hT⟩
    · replace hT := hT.2 hc
      refine mm_aload_n (n := 304) (i := 0) smd_V_isRight_303 rfl rfl rfl ?_
      refine mm_get (n := 307) (v := .ref (mm_B Γ + (v + 4))) smk_V_21 (smb_V h_v) rfl smd_V_isRight_304 rfl ?_
      refine mm_iload_n (n := 308) (i := 2) smd_V_isRight_307 rfl rfl rfl ?_
      refine mm_iald (n := 309) (sma_V4 h_v) hT.1 smd_V_isRight_308 rfl ?_
      replace hT := hT.2
      refine mm_iconst (n := 310) (v := 4) smd_V_isRight_309 rfl (by decide) ?_
      refine mm_callSNI (n := 313) (As := [.int (h297 (v + 4) x2.toNatClampNeg), .int (4 : Int32)]) (rest := []) smv_S_isWithin rfl (mm_hRm (by decide) (by decide)) smd_V_isRight_310 rfl rfl (Nat.le_of_ble_eq_true rfl) hT (fun r310 h310 hT => ?_)
      refine mm_if_eq (n := 316) (tgt := 320) smd_V_isRight_313 rfl rfl (fun hc => ?_) (fun hc => ?_)
      · replace hT := hT.1 hc
        refine mm_iconst (n := 321) (v := 0) smd_V_isRight_320 rfl (by decide) ?_
        exact mm_zret rfl (Or.inl rfl) smd_V_isRight_321 ⟨_, rfl, hT⟩
      · replace hT := hT.2 hc
        refine mm_iconst (n := 317) (v := 1) smd_V_isRight_316 rfl (by decide) ?_
        refine mm_goto (n := 321) smd_V_isRight_317 rfl ?_
        exact mm_zret rfl (Or.inr rfl) smd_V_isRight_321 ⟨_, rfl, hT⟩
  have n9 := e
  clear e
  by_cases e : (h (v + 2) x2.toNatClampNeg) = 10
  · refine mm_tIn (tgt := 291) smd_V_isRight_6 10 e (by decide) (by decide) rfl rfl ?_
    replace hT := hT.2.2.2.2.2.2.1 (Or.inr (e))
    refine mm_aload_n (n := 292) (i := 0) smd_V_isRight_291 rfl rfl rfl ?_
    refine mm_get (n := 295) (v := .ref (mm_B Γ + (v + 3))) smk_V_18 (smb_V h_v) rfl smd_V_isRight_292 rfl ?_
    refine mm_iload_n (n := 296) (i := 2) smd_V_isRight_295 rfl rfl rfl ?_
    refine mm_iald (n := 297) (sma_V3 h_v) hT.1 smd_V_isRight_296 rfl ?_
    replace hT := hT.2
    refine mm_callSI (n := 300) (As := [.int (h (v + 3) x2.toNatClampNeg)]) (rest := []) smv_V_isLocal smw_278 (mm_hRm (by decide) (by decide)) smd_V_isRight_297 rfl rfl (Nat.le_of_ble_eq_true rfl) hT (fun r297 h297 hT => ?_)
    refine mm_if_eq (n := 303) (tgt := 320) smd_V_isRight_300 rfl rfl (fun hc => ?_) (fun hc => ?_)
    · replace hT := hT.1 hc
      refine mm_iconst (n := 321) (v := 0) smd_V_isRight_320 rfl (by decide) ?_
      exact mm_zret rfl (Or.inl rfl) smd_V_isRight_321 ⟨_, rfl, hT⟩
    · replace hT := hT.2 hc
      refine mm_aload_n (n := 304) (i := 0) smd_V_isRight_303 rfl rfl rfl ?_
      refine mm_get (n := 307) (v := .ref (mm_B Γ + (v + 4))) smk_V_21 (smb_V h_v) rfl smd_V_isRight_304 rfl ?_
      refine mm_iload_n (n := 308) (i := 2) smd_V_isRight_307 rfl rfl rfl ?_
      refine mm_iald (n := 309) (sma_V4 h_v) hT.1 smd_V_isRight_308 rfl ?_
      replace hT := hT.2
      refine mm_iconst (n := 310) (v := 4) smd_V_isRight_309 rfl (by decide) ?_
      refine mm_callSNI (n := 313) (As := [.int (h297 (v + 4) x2.toNatClampNeg), .int (4 : Int32)]) (rest := []) smv_S_isWithin rfl (mm_hRm (by decide) (by decide)) smd_V_isRight_310 rfl rfl (Nat.le_of_ble_eq_true rfl) hT (fun r310 h310 hT => ?_)
      refine mm_if_eq (n := 316) (tgt := 320) smd_V_isRight_313 rfl rfl (fun hc => ?_) (fun hc => ?_)
      · replace hT := hT.1 hc
        refine mm_iconst (n := 321) (v := 0) smd_V_isRight_320 rfl (by decide) ?_
        exact mm_zret rfl (Or.inl rfl) smd_V_isRight_321 ⟨_, rfl, hT⟩
      · replace hT := hT.2 hc
        refine mm_iconst (n := 317) (v := 1) smd_V_isRight_316 rfl (by decide) ?_
        refine mm_goto (n := 321) smd_V_isRight_317 rfl ?_
        exact mm_zret rfl (Or.inr rfl) smd_V_isRight_321 ⟨_, rfl, hT⟩
  have n10 := e
  clear e
  by_cases e : (h (v + 2) x2.toNatClampNeg) = 11
  · refine mm_tIn (tgt := 72) smd_V_isRight_6 11 e (by decide) (by decide) rfl rfl ?_
    replace hT := hT.1 (Or.inr (Or.inr (e)))
    refine mm_aload_n (n := 73) (i := 0) smd_V_isRight_72 rfl rfl rfl ?_
    refine mm_get (n := 76) (v := .ref (mm_B Γ + (v + 3))) smk_V_18 (smb_V h_v) rfl smd_V_isRight_73 rfl ?_
    refine mm_iload_n (n := 77) (i := 2) smd_V_isRight_76 rfl rfl rfl ?_
    refine mm_iald (n := 78) (sma_V3 h_v) hT.1 smd_V_isRight_77 rfl ?_
    replace hT := hT.2
    refine mm_callSI (n := 81) (As := [.int (h (v + 3) x2.toNatClampNeg)]) (rest := []) smv_V_isLocal smw_278 (mm_hRm (by decide) (by decide)) smd_V_isRight_78 rfl rfl (Nat.le_of_ble_eq_true rfl) hT (fun r78 h78 hT => ?_)
    exact mm_zret rfl hT.1 smd_V_isRight_81 ⟨_, rfl, hT.2⟩
  have n11 := e
  clear e
  by_cases e : (h (v + 2) x2.toNatClampNeg) = 12
  · refine mm_tIn (tgt := 322) smd_V_isRight_6 12 e (by decide) (by decide) rfl rfl ?_
    replace hT := hT.2.2.2.2.2.2.2.1 (e)
    refine mm_aload_n (n := 323) (i := 0) smd_V_isRight_322 rfl rfl rfl ?_
    refine mm_get (n := 326) (v := .ref (mm_B Γ + (v + 3))) smk_V_18 (smb_V h_v) rfl smd_V_isRight_323 rfl ?_
    refine mm_iload_n (n := 327) (i := 2) smd_V_isRight_326 rfl rfl rfl ?_
    refine mm_iald (n := 328) (sma_V3 h_v) hT.1 smd_V_isRight_327 rfl ?_
    replace hT := hT.2
    refine mm_iconst (n := 329) (v := 4) smd_V_isRight_328 rfl (by decide) ?_
    refine mm_callSNI (n := 332) (As := [.int (h (v + 3) x2.toNatClampNeg), .int (4 : Int32)]) (rest := []) smv_S_isWithin rfl (mm_hRm (by decide) (by decide)) smd_V_isRight_329 rfl rfl (Nat.le_of_ble_eq_true rfl) hT (fun r329 h329 hT => ?_)
    exact mm_zret rfl hT.1 smd_V_isRight_332 ⟨_, rfl, hT.2⟩
  have n12 := e
  clear e
  refine mm_tOut (tgt := 333) smd_V_isRight_6 (by have m0 := lv_neT n0 (show (0 : Int32).toInt = 0 by decide); have m1 := lv_neT n1 (show (1 : Int32).toInt = 1 by decide); have m2 := lv_neT n2 (show (2 : Int32).toInt = 2 by decide); have m3 := lv_neT n3 (show (3 : Int32).toInt = 3 by decide); have m4 := lv_neT n4 (show (4 : Int32).toInt = 4 by decide); have m5 := lv_neT n5 (show (5 : Int32).toInt = 5 by decide); have m6 := lv_neT n6 (show (6 : Int32).toInt = 6 by decide); have m7 := lv_neT n7 (show (7 : Int32).toInt = 7 by decide); have m8 := lv_neT n8 (show (8 : Int32).toInt = 8 by decide); have m9 := lv_neT n9 (show (9 : Int32).toInt = 9 by decide); have m10 := lv_neT n10 (show (10 : Int32).toInt = 10 by decide); have m11 := lv_neT n11 (show (11 : Int32).toInt = 11 by decide); have m12 := lv_neT n12 (show (12 : Int32).toInt = 12 by decide); omega) rfl ?_
  replace hT := hT.2.2.2.2.2.2.2.2 n0 n1 n2 n3 n4 n5 n6 n7 n8 n9 n10 n11 n12
  refine mm_iconst (n := 334) (v := 0) smd_V_isRight_333 rfl (by decide) ?_
  exact mm_zret rfl (Or.inl rfl) smd_V_isRight_334 ⟨_, rfl, hT⟩
set_option maxHeartbeats 4000000 in
set_option maxRecDepth 100000 in
theorem smr_V_isLocal {Γ : mm_Ctx} {post : Int32 → mm_Mem → Prop} {h : mm_Mem} (x0 : Int32) (hT : mm_SI Γ smM_S_isWithin [.int x0, .int (3 : Int32)] h (fun r2 h2 => (r2 = 0 ∨ r2 = 1) ∧ post r2 h2)) : mm_SI Γ smM_V_isLocal [.int x0] h post := by
  refine mm_spec0 (M := smM_V_isLocal) 0 (by decide +kernel) rfl (Nat.le_of_ble_eq_true rfl) ?_
  show mm_W Γ smM_V_isLocal (mm_pI post) 0 [some (.int x0)] [] h
  refine mm_iload_n (n := 1) (i := 0) smd_V_isLocal_0 rfl rfl rfl ?_
  refine mm_iconst (n := 2) (v := 3) smd_V_isLocal_1 rfl (by decide) ?_
  refine mm_callSNI (n := 5) (As := [.int x0, .int (3 : Int32)]) (rest := []) smv_S_isWithin rfl (mm_hRm (by decide) (by decide)) smd_V_isLocal_2 rfl rfl (Nat.le_of_ble_eq_true rfl) hT (fun r2 h2 hT => ?_)
  exact mm_zret rfl hT.1 smd_V_isLocal_5 ⟨_, rfl, hT.2⟩
set_option maxHeartbeats 4000000 in
set_option maxRecDepth 100000 in
theorem smr_V_isFieldOfType {Γ : mm_Ctx} {post : Int32 → mm_Mem → Prop} {h : mm_Mem} {v : Nat} (h_v : v = 1 ∨ v = 8) (x1 : Int32) (hT : mm_SI Γ smM_S_isWithin [.int x1, .int (12 : Int32)] h (fun r3 h3 => (r3 = 0 → (post (0 : Int32) h3)) ∧ (¬ r3 = 0 → ((vp_in (x1 / (4 : Int32)) 3) ∧ (((h3 (v + 6) (x1 / (4 : Int32)).toNatClampNeg) ≤ (x1 - x1 / (4 : Int32) * (4 : Int32)) → (post (0 : Int32) h3)) ∧ (¬ (h3 (v + 6) (x1 / (4 : Int32)).toNatClampNeg) ≤ (x1 - x1 / (4 : Int32) * (4 : Int32)) → (post (1 : Int32) h3))))))) : mm_SI Γ smM_V_isFieldOfType [.ref (mm_B Γ + v), .int x1] h post := by
  refine mm_spec0 (M := smM_V_isFieldOfType) 0 (by decide +kernel) rfl (Nat.le_of_ble_eq_true rfl) ?_
  show mm_W Γ smM_V_isFieldOfType (mm_pI post) 0 [some (.ref (mm_B Γ + v)), some (.int x1)] [] h
  refine mm_iload_n (n := 1) (i := 1) smd_V_isFieldOfType_0 rfl rfl rfl ?_
  refine mm_bipush (n := 3) (v := 12) smd_V_isFieldOfType_1 rfl (by decide) ?_
  refine mm_callSNI (n := 6) (As := [.int x1, .int (12 : Int32)]) (rest := []) smv_S_isWithin rfl (mm_hRm (by decide) (by decide)) smd_V_isFieldOfType_3 rfl rfl (Nat.le_of_ble_eq_true rfl) hT (fun r3 h3 hT => ?_)
  refine mm_if_eq (n := 9) (tgt := 27) smd_V_isFieldOfType_6 rfl rfl (fun hc => ?_) (fun hc => ?_)
  · replace hT := hT.1 hc
    refine mm_iconst (n := 28) (v := 0) smd_V_isFieldOfType_27 rfl (by decide) ?_
    exact mm_zret rfl (Or.inl rfl) smd_V_isFieldOfType_28 ⟨_, rfl, hT⟩
  · replace hT := hT.2 hc
    refine mm_iload_n (n := 10) (i := 1) smd_V_isFieldOfType_9 rfl rfl rfl ?_
    refine mm_iconst (n := 11) (v := 4) smd_V_isFieldOfType_10 rfl (by decide) ?_
    refine mm_irem (n := 12) smd_V_isFieldOfType_11 rfl (by decide) ?_
    refine mm_aload_n (n := 13) (i := 0) smd_V_isFieldOfType_12 rfl rfl rfl ?_
    refine mm_get (n := 16) (v := .ref (mm_B Γ + (v + 6))) smk_V_27 (smb_V h_v) rfl smd_V_isFieldOfType_13 rfl ?_
    refine mm_iload_n (n := 17) (i := 1) smd_V_isFieldOfType_16 rfl rfl rfl ?_
    refine mm_iconst (n := 18) (v := 4) smd_V_isFieldOfType_17 rfl (by decide) ?_
    refine mm_idiv (n := 19) smd_V_isFieldOfType_18 rfl (by decide) ?_
    refine mm_iald (n := 20) (sma_V6 h_v) hT.1 smd_V_isFieldOfType_19 rfl ?_
    replace hT := hT.2
    refine mm_icmp_ge (n := 23) (tgt := 27) smd_V_isFieldOfType_20 rfl rfl (fun hc => ?_) (fun hc => ?_)
    · replace hT := hT.1 hc
      refine mm_iconst (n := 28) (v := 0) smd_V_isFieldOfType_27 rfl (by decide) ?_
      exact mm_zret rfl (Or.inl rfl) smd_V_isFieldOfType_28 ⟨_, rfl, hT⟩
    · replace hT := hT.2 hc
      refine mm_iconst (n := 24) (v := 1) smd_V_isFieldOfType_23 rfl (by decide) ?_
      refine mm_goto (n := 28) smd_V_isFieldOfType_24 rfl ?_
      exact mm_zret rfl (Or.inr rfl) smd_V_isFieldOfType_28 ⟨_, rfl, hT⟩
end
