section
-- ===== PART A: goes FIRST, ahead of the names: the tables' words, and 'selects' of the private methods out of them =====
/-- a private method of a class that the tables say can be made, by its rows of tables_1 -/
def lw_okq (q : MethodName × Nat) : Prop := (q.1.cls ≠ "java/lang/invoke/MethodHandle" ∧ q.1.cls ≠ "java/lang/invoke/VarHandle") ∧ Cond.instantiable q.1.cls q.2 ∈ tables_1 ∧ Cond.privateMethod q.1 ∈ tables_1 ∧ Cond.instanceMethod q.1 ∈ tables_1
theorem lw_p0 : lw_okq (⟨"SwitchedModules$Version", "isRight", "(II)Z"⟩, 6) := ⟨⟨by decide +kernel, by decide +kernel⟩, List.mem_of_getElem? (i := 18) (by decide +kernel), List.mem_of_getElem? (i := 233) (by decide +kernel), List.mem_of_getElem? (i := 234) (by decide +kernel)⟩
theorem lw_p1 : lw_okq (⟨"SwitchedModules$Version", "isFieldOfType", "(I)Z"⟩, 6) := ⟨⟨by decide +kernel, by decide +kernel⟩, List.mem_of_getElem? (i := 18) (by decide +kernel), List.mem_of_getElem? (i := 245) (by decide +kernel), List.mem_of_getElem? (i := 246) (by decide +kernel)⟩
theorem lw_p2 : lw_okq (⟨"SwitchedModules", "draftChanges", "(I)Z"⟩, 9) := ⟨⟨by decide +kernel, by decide +kernel⟩, List.mem_of_getElem? (i := 10) (by decide +kernel), List.mem_of_getElem? (i := 261) (by decide +kernel), List.mem_of_getElem? (i := 262) (by decide +kernel)⟩
theorem lw_p3 : lw_okq (⟨"SwitchedModules$Version", "typeUsed", "(I)I"⟩, 6) := ⟨⟨by decide +kernel, by decide +kernel⟩, List.mem_of_getElem? (i := 18) (by decide +kernel), List.mem_of_getElem? (i := 273) (by decide +kernel), List.mem_of_getElem? (i := 274) (by decide +kernel)⟩
theorem lw_p4 : lw_okq (⟨"SwitchedModules", "firstTaskInTheWay", "(I)I"⟩, 9) := ⟨⟨by decide +kernel, by decide +kernel⟩, List.mem_of_getElem? (i := 10) (by decide +kernel), List.mem_of_getElem? (i := 281) (by decide +kernel), List.mem_of_getElem? (i := 282) (by decide +kernel)⟩
theorem lw_p5 : lw_okq (⟨"SwitchedModules", "isInTheWay", "(LSwitchedModules$Task;)Z"⟩, 9) := ⟨⟨by decide +kernel, by decide +kernel⟩, List.mem_of_getElem? (i := 10) (by decide +kernel), List.mem_of_getElem? (i := 286) (by decide +kernel), List.mem_of_getElem? (i := 287) (by decide +kernel)⟩
theorem lw_p6 : lw_okq (⟨"SwitchedModules", "placeInDraft", "(LSwitchedModules$Task;)I"⟩, 9) := ⟨⟨by decide +kernel, by decide +kernel⟩, List.mem_of_getElem? (i := 10) (by decide +kernel), List.mem_of_getElem? (i := 290) (by decide +kernel), List.mem_of_getElem? (i := 291) (by decide +kernel)⟩
theorem lw_p7 : lw_okq (⟨"SwitchedModules", "dropUnreachable", "()I"⟩, 9) := ⟨⟨by decide +kernel, by decide +kernel⟩, List.mem_of_getElem? (i := 10) (by decide +kernel), List.mem_of_getElem? (i := 303) (by decide +kernel), List.mem_of_getElem? (i := 304) (by decide +kernel)⟩
theorem lw_p8 : lw_okq (⟨"SwitchedModules$Heap", "makeOverOne", "(ILSwitchedModules$Rules;)Z"⟩, 6) := ⟨⟨by decide +kernel, by decide +kernel⟩, List.mem_of_getElem? (i := 74) (by decide +kernel), List.mem_of_getElem? (i := 333) (by decide +kernel), List.mem_of_getElem? (i := 334) (by decide +kernel)⟩
theorem lw_p9 : lw_okq (⟨"SwitchedModules", "takeThePlace", "()V"⟩, 9) := ⟨⟨by decide +kernel, by decide +kernel⟩, List.mem_of_getElem? (i := 10) (by decide +kernel), List.mem_of_getElem? (i := 345) (by decide +kernel), List.mem_of_getElem? (i := 346) (by decide +kernel)⟩
theorem lw_p10 : lw_okq (⟨"SwitchedModules", "moveFrames", "()V"⟩, 9) := ⟨⟨by decide +kernel, by decide +kernel⟩, List.mem_of_getElem? (i := 10) (by decide +kernel), List.mem_of_getElem? (i := 349) (by decide +kernel), List.mem_of_getElem? (i := 350) (by decide +kernel)⟩
theorem lw_p11 : lw_okq (⟨"SwitchedModules", "isTask", "(I)Z"⟩, 9) := ⟨⟨by decide +kernel, by decide +kernel⟩, List.mem_of_getElem? (i := 10) (by decide +kernel), List.mem_of_getElem? (i := 374) (by decide +kernel), List.mem_of_getElem? (i := 375) (by decide +kernel)⟩
theorem lw_p12 : lw_okq (⟨"SwitchedModules", "perform", "(LSwitchedModules$Task;)V"⟩, 9) := ⟨⟨by decide +kernel, by decide +kernel⟩, List.mem_of_getElem? (i := 10) (by decide +kernel), List.mem_of_getElem? (i := 378) (by decide +kernel), List.mem_of_getElem? (i := 379) (by decide +kernel)⟩
theorem lw_p13 : lw_okq (⟨"SwitchedModules", "makeObject", "(LSwitchedModules$Task;II)V"⟩, 9) := ⟨⟨by decide +kernel, by decide +kernel⟩, List.mem_of_getElem? (i := 10) (by decide +kernel), List.mem_of_getElem? (i := 398) (by decide +kernel), List.mem_of_getElem? (i := 399) (by decide +kernel)⟩
theorem lw_p14 : lw_okq (⟨"SwitchedModules", "get", "(LSwitchedModules$Task;III)V"⟩, 9) := ⟨⟨by decide +kernel, by decide +kernel⟩, List.mem_of_getElem? (i := 10) (by decide +kernel), List.mem_of_getElem? (i := 410) (by decide +kernel), List.mem_of_getElem? (i := 411) (by decide +kernel)⟩
theorem lw_p15 : lw_okq (⟨"SwitchedModules", "put", "(LSwitchedModules$Task;III)V"⟩, 9) := ⟨⟨by decide +kernel, by decide +kernel⟩, List.mem_of_getElem? (i := 10) (by decide +kernel), List.mem_of_getElem? (i := 418) (by decide +kernel), List.mem_of_getElem? (i := 419) (by decide +kernel)⟩
def lw_privs_1 : List (MethodName × Nat) := [(⟨"SwitchedModules$Version", "isRight", "(II)Z"⟩, 6), (⟨"SwitchedModules$Version", "isFieldOfType", "(I)Z"⟩, 6), (⟨"SwitchedModules", "draftChanges", "(I)Z"⟩, 9), (⟨"SwitchedModules$Version", "typeUsed", "(I)I"⟩, 6), (⟨"SwitchedModules", "firstTaskInTheWay", "(I)I"⟩, 9), (⟨"SwitchedModules", "isInTheWay", "(LSwitchedModules$Task;)Z"⟩, 9), (⟨"SwitchedModules", "placeInDraft", "(LSwitchedModules$Task;)I"⟩, 9), (⟨"SwitchedModules", "dropUnreachable", "()I"⟩, 9), (⟨"SwitchedModules$Heap", "makeOverOne", "(ILSwitchedModules$Rules;)Z"⟩, 6), (⟨"SwitchedModules", "takeThePlace", "()V"⟩, 9), (⟨"SwitchedModules", "moveFrames", "()V"⟩, 9), (⟨"SwitchedModules", "isTask", "(I)Z"⟩, 9), (⟨"SwitchedModules", "perform", "(LSwitchedModules$Task;)V"⟩, 9), (⟨"SwitchedModules", "makeObject", "(LSwitchedModules$Task;II)V"⟩, 9), (⟨"SwitchedModules", "get", "(LSwitchedModules$Task;III)V"⟩, 9), (⟨"SwitchedModules", "put", "(LSwitchedModules$Task;III)V"⟩, 9)]
theorem lw_r1 : ∀ q ∈ lw_privs_1, lw_okq q := List.forall_mem_cons.mpr ⟨lw_p0, List.forall_mem_cons.mpr ⟨lw_p1, List.forall_mem_cons.mpr ⟨lw_p2, List.forall_mem_cons.mpr ⟨lw_p3, List.forall_mem_cons.mpr ⟨lw_p4, List.forall_mem_cons.mpr ⟨lw_p5, List.forall_mem_cons.mpr ⟨lw_p6, List.forall_mem_cons.mpr ⟨lw_p7, List.forall_mem_cons.mpr ⟨lw_p8, List.forall_mem_cons.mpr ⟨lw_p9, List.forall_mem_cons.mpr ⟨lw_p10, List.forall_mem_cons.mpr ⟨lw_p11, List.forall_mem_cons.mpr ⟨lw_p12, List.forall_mem_cons.mpr ⟨lw_p13, List.forall_mem_cons.mpr ⟨lw_p14, List.forall_mem_cons.mpr ⟨lw_p15, fun _ h => absurd h List.not_mem_nil⟩⟩⟩⟩⟩⟩⟩⟩⟩⟩⟩⟩⟩⟩⟩⟩
theorem lw_p16 : lw_okq (⟨"SwitchedModulesModel", "clearRules", "(I)V"⟩, 19) := ⟨⟨by decide +kernel, by decide +kernel⟩, List.mem_of_getElem? (i := 475) (by decide +kernel), List.mem_of_getElem? (i := 557) (by decide +kernel), List.mem_of_getElem? (i := 558) (by decide +kernel)⟩
theorem lw_p17 : lw_okq (⟨"SwitchedModulesModel", "settle", "()V"⟩, 19) := ⟨⟨by decide +kernel, by decide +kernel⟩, List.mem_of_getElem? (i := 475) (by decide +kernel), List.mem_of_getElem? (i := 569) (by decide +kernel), List.mem_of_getElem? (i := 570) (by decide +kernel)⟩
theorem lw_p18 : lw_okq (⟨"SwitchedModulesModel", "isRight", "(II)Z"⟩, 19) := ⟨⟨by decide +kernel, by decide +kernel⟩, List.mem_of_getElem? (i := 475) (by decide +kernel), List.mem_of_getElem? (i := 577) (by decide +kernel), List.mem_of_getElem? (i := 578) (by decide +kernel)⟩
theorem lw_p19 : lw_okq (⟨"SwitchedModulesModel", "isField", "(I)Z"⟩, 19) := ⟨⟨by decide +kernel, by decide +kernel⟩, List.mem_of_getElem? (i := 475) (by decide +kernel), List.mem_of_getElem? (i := 584) (by decide +kernel), List.mem_of_getElem? (i := 585) (by decide +kernel)⟩
theorem lw_p20 : lw_okq (⟨"SwitchedModulesModel", "isChanged", "(I)Z"⟩, 19) := ⟨⟨by decide +kernel, by decide +kernel⟩, List.mem_of_getElem? (i := 475) (by decide +kernel), List.mem_of_getElem? (i := 596) (by decide +kernel), List.mem_of_getElem? (i := 597) (by decide +kernel)⟩
theorem lw_p21 : lw_okq (⟨"SwitchedModulesModel", "isOther", "(I)Z"⟩, 19) := ⟨⟨by decide +kernel, by decide +kernel⟩, List.mem_of_getElem? (i := 475) (by decide +kernel), List.mem_of_getElem? (i := 600) (by decide +kernel), List.mem_of_getElem? (i := 601) (by decide +kernel)⟩
theorem lw_p22 : lw_okq (⟨"SwitchedModulesModel", "usesTouched", "(I)Z"⟩, 19) := ⟨⟨by decide +kernel, by decide +kernel⟩, List.mem_of_getElem? (i := 475) (by decide +kernel), List.mem_of_getElem? (i := 604) (by decide +kernel), List.mem_of_getElem? (i := 605) (by decide +kernel)⟩
theorem lw_p23 : lw_okq (⟨"SwitchedModulesModel", "isInTheWay", "(II)Z"⟩, 19) := ⟨⟨by decide +kernel, by decide +kernel⟩, List.mem_of_getElem? (i := 475) (by decide +kernel), List.mem_of_getElem? (i := 612) (by decide +kernel), List.mem_of_getElem? (i := 613) (by decide +kernel)⟩
theorem lw_p24 : lw_okq (⟨"SwitchedModulesModel", "pointOf", "(II)I"⟩, 19) := ⟨⟨by decide +kernel, by decide +kernel⟩, List.mem_of_getElem? (i := 475) (by decide +kernel), List.mem_of_getElem? (i := 619) (by decide +kernel), List.mem_of_getElem? (i := 620) (by decide +kernel)⟩
theorem lw_p25 : lw_okq (⟨"SwitchedModulesModel", "sweep", "()I"⟩, 19) := ⟨⟨by decide +kernel, by decide +kernel⟩, List.mem_of_getElem? (i := 475) (by decide +kernel), List.mem_of_getElem? (i := 627) (by decide +kernel), List.mem_of_getElem? (i := 628) (by decide +kernel)⟩
theorem lw_p26 : lw_okq (⟨"SwitchedModulesModel", "mark", "(I)V"⟩, 19) := ⟨⟨by decide +kernel, by decide +kernel⟩, List.mem_of_getElem? (i := 475) (by decide +kernel), List.mem_of_getElem? (i := 631) (by decide +kernel), List.mem_of_getElem? (i := 632) (by decide +kernel)⟩
theorem lw_p27 : lw_okq (⟨"SwitchedModulesModel", "isObject", "(I)Z"⟩, 19) := ⟨⟨by decide +kernel, by decide +kernel⟩, List.mem_of_getElem? (i := 475) (by decide +kernel), List.mem_of_getElem? (i := 635) (by decide +kernel), List.mem_of_getElem? (i := 636) (by decide +kernel)⟩
theorem lw_p28 : lw_okq (⟨"SwitchedModulesModel", "countMarked", "()I"⟩, 19) := ⟨⟨by decide +kernel, by decide +kernel⟩, List.mem_of_getElem? (i := 475) (by decide +kernel), List.mem_of_getElem? (i := 639) (by decide +kernel), List.mem_of_getElem? (i := 640) (by decide +kernel)⟩
theorem lw_p29 : lw_okq (⟨"SwitchedModulesModel", "areMadeOver", "(I)Z"⟩, 19) := ⟨⟨by decide +kernel, by decide +kernel⟩, List.mem_of_getElem? (i := 475) (by decide +kernel), List.mem_of_getElem? (i := 660) (by decide +kernel), List.mem_of_getElem? (i := 661) (by decide +kernel)⟩
theorem lw_p30 : lw_okq (⟨"SwitchedModulesModel", "isMadeOver", "(I)Z"⟩, 19) := ⟨⟨by decide +kernel, by decide +kernel⟩, List.mem_of_getElem? (i := 475) (by decide +kernel), List.mem_of_getElem? (i := 664) (by decide +kernel), List.mem_of_getElem? (i := 665) (by decide +kernel)⟩
theorem lw_p31 : lw_okq (⟨"SwitchedModulesModel", "moveFrames", "()V"⟩, 19) := ⟨⟨by decide +kernel, by decide +kernel⟩, List.mem_of_getElem? (i := 475) (by decide +kernel), List.mem_of_getElem? (i := 668) (by decide +kernel), List.mem_of_getElem? (i := 669) (by decide +kernel)⟩
def lw_privs_2 : List (MethodName × Nat) := [(⟨"SwitchedModulesModel", "clearRules", "(I)V"⟩, 19), (⟨"SwitchedModulesModel", "settle", "()V"⟩, 19), (⟨"SwitchedModulesModel", "isRight", "(II)Z"⟩, 19), (⟨"SwitchedModulesModel", "isField", "(I)Z"⟩, 19), (⟨"SwitchedModulesModel", "isChanged", "(I)Z"⟩, 19), (⟨"SwitchedModulesModel", "isOther", "(I)Z"⟩, 19), (⟨"SwitchedModulesModel", "usesTouched", "(I)Z"⟩, 19), (⟨"SwitchedModulesModel", "isInTheWay", "(II)Z"⟩, 19), (⟨"SwitchedModulesModel", "pointOf", "(II)I"⟩, 19), (⟨"SwitchedModulesModel", "sweep", "()I"⟩, 19), (⟨"SwitchedModulesModel", "mark", "(I)V"⟩, 19), (⟨"SwitchedModulesModel", "isObject", "(I)Z"⟩, 19), (⟨"SwitchedModulesModel", "countMarked", "()I"⟩, 19), (⟨"SwitchedModulesModel", "areMadeOver", "(I)Z"⟩, 19), (⟨"SwitchedModulesModel", "isMadeOver", "(I)Z"⟩, 19), (⟨"SwitchedModulesModel", "moveFrames", "()V"⟩, 19)]
theorem lw_r2 : ∀ q ∈ lw_privs_2, lw_okq q := List.forall_mem_cons.mpr ⟨lw_p16, List.forall_mem_cons.mpr ⟨lw_p17, List.forall_mem_cons.mpr ⟨lw_p18, List.forall_mem_cons.mpr ⟨lw_p19, List.forall_mem_cons.mpr ⟨lw_p20, List.forall_mem_cons.mpr ⟨lw_p21, List.forall_mem_cons.mpr ⟨lw_p22, List.forall_mem_cons.mpr ⟨lw_p23, List.forall_mem_cons.mpr ⟨lw_p24, List.forall_mem_cons.mpr ⟨lw_p25, List.forall_mem_cons.mpr ⟨lw_p26, List.forall_mem_cons.mpr ⟨lw_p27, List.forall_mem_cons.mpr ⟨lw_p28, List.forall_mem_cons.mpr ⟨lw_p29, List.forall_mem_cons.mpr ⟨lw_p30, List.forall_mem_cons.mpr ⟨lw_p31, fun _ h => absurd h List.not_mem_nil⟩⟩⟩⟩⟩⟩⟩⟩⟩⟩⟩⟩⟩⟩⟩⟩
theorem lw_p32 : lw_okq (⟨"SwitchedModulesModel", "push", "(IIII)V"⟩, 19) := ⟨⟨by decide +kernel, by decide +kernel⟩, List.mem_of_getElem? (i := 475) (by decide +kernel), List.mem_of_getElem? (i := 680) (by decide +kernel), List.mem_of_getElem? (i := 681) (by decide +kernel)⟩
theorem lw_p33 : lw_okq (⟨"SwitchedModulesModel", "isTask", "(I)Z"⟩, 19) := ⟨⟨by decide +kernel, by decide +kernel⟩, List.mem_of_getElem? (i := 475) (by decide +kernel), List.mem_of_getElem? (i := 688) (by decide +kernel), List.mem_of_getElem? (i := 689) (by decide +kernel)⟩
theorem lw_p34 : lw_okq (⟨"SwitchedModulesModel", "act", "(I)I"⟩, 19) := ⟨⟨by decide +kernel, by decide +kernel⟩, List.mem_of_getElem? (i := 475) (by decide +kernel), List.mem_of_getElem? (i := 692) (by decide +kernel), List.mem_of_getElem? (i := 693) (by decide +kernel)⟩
theorem lw_p35 : lw_okq (⟨"SwitchedModulesModel", "giveBack", "(II)I"⟩, 19) := ⟨⟨by decide +kernel, by decide +kernel⟩, List.mem_of_getElem? (i := 475) (by decide +kernel), List.mem_of_getElem? (i := 696) (by decide +kernel), List.mem_of_getElem? (i := 697) (by decide +kernel)⟩
theorem lw_p36 : lw_okq (⟨"SwitchedModulesModel", "fault", "(I)I"⟩, 19) := ⟨⟨by decide +kernel, by decide +kernel⟩, List.mem_of_getElem? (i := 475) (by decide +kernel), List.mem_of_getElem? (i := 700) (by decide +kernel), List.mem_of_getElem? (i := 701) (by decide +kernel)⟩
theorem lw_p37 : lw_okq (⟨"SwitchedModulesModel", "create", "(III)I"⟩, 19) := ⟨⟨by decide +kernel, by decide +kernel⟩, List.mem_of_getElem? (i := 475) (by decide +kernel), List.mem_of_getElem? (i := 704) (by decide +kernel), List.mem_of_getElem? (i := 705) (by decide +kernel)⟩
theorem lw_p38 : lw_okq (⟨"SwitchedModulesModel", "make", "(I)I"⟩, 19) := ⟨⟨by decide +kernel, by decide +kernel⟩, List.mem_of_getElem? (i := 475) (by decide +kernel), List.mem_of_getElem? (i := 708) (by decide +kernel), List.mem_of_getElem? (i := 709) (by decide +kernel)⟩
theorem lw_p39 : lw_okq (⟨"SwitchedModulesModel", "free", "()I"⟩, 19) := ⟨⟨by decide +kernel, by decide +kernel⟩, List.mem_of_getElem? (i := 475) (by decide +kernel), List.mem_of_getElem? (i := 712) (by decide +kernel), List.mem_of_getElem? (i := 713) (by decide +kernel)⟩
theorem lw_p40 : lw_okq (⟨"SwitchedModulesModel", "access", "(IIIIII)I"⟩, 19) := ⟨⟨by decide +kernel, by decide +kernel⟩, List.mem_of_getElem? (i := 475) (by decide +kernel), List.mem_of_getElem? (i := 716) (by decide +kernel), List.mem_of_getElem? (i := 717) (by decide +kernel)⟩
theorem lw_p41 : lw_okq (⟨"SwitchedModulesModel", "take", "(I)I"⟩, 19) := ⟨⟨by decide +kernel, by decide +kernel⟩, List.mem_of_getElem? (i := 475) (by decide +kernel), List.mem_of_getElem? (i := 720) (by decide +kernel), List.mem_of_getElem? (i := 721) (by decide +kernel)⟩
def lw_privs_3 : List (MethodName × Nat) := [(⟨"SwitchedModulesModel", "push", "(IIII)V"⟩, 19), (⟨"SwitchedModulesModel", "isTask", "(I)Z"⟩, 19), (⟨"SwitchedModulesModel", "act", "(I)I"⟩, 19), (⟨"SwitchedModulesModel", "giveBack", "(II)I"⟩, 19), (⟨"SwitchedModulesModel", "fault", "(I)I"⟩, 19), (⟨"SwitchedModulesModel", "create", "(III)I"⟩, 19), (⟨"SwitchedModulesModel", "make", "(I)I"⟩, 19), (⟨"SwitchedModulesModel", "free", "()I"⟩, 19), (⟨"SwitchedModulesModel", "access", "(IIIIII)I"⟩, 19), (⟨"SwitchedModulesModel", "take", "(I)I"⟩, 19)]
theorem lw_r3 : ∀ q ∈ lw_privs_3, lw_okq q := List.forall_mem_cons.mpr ⟨lw_p32, List.forall_mem_cons.mpr ⟨lw_p33, List.forall_mem_cons.mpr ⟨lw_p34, List.forall_mem_cons.mpr ⟨lw_p35, List.forall_mem_cons.mpr ⟨lw_p36, List.forall_mem_cons.mpr ⟨lw_p37, List.forall_mem_cons.mpr ⟨lw_p38, List.forall_mem_cons.mpr ⟨lw_p39, List.forall_mem_cons.mpr ⟨lw_p40, List.forall_mem_cons.mpr ⟨lw_p41, fun _ h => absurd h List.not_mem_nil⟩⟩⟩⟩⟩⟩⟩⟩⟩⟩
def lw_privs : List (MethodName × Nat) := lw_privs_1 ++ (lw_privs_2 ++ (lw_privs_3))
def lw_tbl : List Cond := k2_sels lw_privs ++ tables_1
theorem lw_privs_ok : ∀ q ∈ lw_privs, lw_okq q := by
  show ∀ q ∈ lw_privs_1 ++ (lw_privs_2 ++ (lw_privs_3)), lw_okq q
  exact List.forall_mem_append.mpr ⟨lw_r1, List.forall_mem_append.mpr ⟨lw_r2, lw_r3⟩⟩
end
section
def smR_H : String := "SwitchedModules$Heap"
def smF_H : u_T := fun k => match k with
  | 0 => ("SwitchedModules$Heap", "type", "[I", true)
  | 1 => ("SwitchedModules$Heap", "cells", "[I", true)
  | 2 => ("SwitchedModules$Heap", "madeOver", "[I", true)
  | 3 => ("SwitchedModules$Heap", "marked", "[Z", true)
  | 4 => ("SwitchedModules$Heap", "found", "[I", true)
  | _ => ("SwitchedModules$Heap", "foundCount", "I", false)
def smT_H : Nat → FieldType := fun k => match k with
  | 0 => .array .int
  | 1 => .array .int
  | 2 => .array .int
  | 3 => .array .boolean
  | 4 => .array .int
  | _ => .int
theorem smN_H : ∀ a, a < 6 → ∀ b, b < 6 → a ≠ b → (smF_H a).2.1 ≠ (smF_H b).2.1 := by decide +kernel
theorem smO_H : ∀ k, k < 6 → parseFieldDescriptor (smF_H k).2.2.1 = some (smT_H k) := by decide +kernel
def smR_R : String := "SwitchedModules$Rules"
def smF_R : u_T := fun k => match k with
  | 0 => ("SwitchedModules$Rules", "touched", "[Z", true)
  | 1 => ("SwitchedModules$Rules", "kind", "[I", true)
  | 2 => ("SwitchedModules$Rules", "from", "[I", true)
  | _ => ("SwitchedModules$Rules", "k", "[I", true)
def smT_R : Nat → FieldType := fun k => match k with
  | 0 => .array .boolean
  | 1 => .array .int
  | 2 => .array .int
  | _ => .array .int
theorem smN_R : ∀ a, a < 4 → ∀ b, b < 4 → a ≠ b → (smF_R a).2.1 ≠ (smF_R b).2.1 := by decide +kernel
theorem smO_R : ∀ k, k < 4 → parseFieldDescriptor (smF_R k).2.2.1 = some (smT_R k) := by decide +kernel
def smR_T : String := "SwitchedModules$Task"
def smF_T : u_T := fun k => match k with
  | 0 => ("SwitchedModules$Task", "procedure", "[I", true)
  | 1 => ("SwitchedModules$Task", "place", "[I", true)
  | 2 => ("SwitchedModules$Task", "locals", "[I", true)
  | 3 => ("SwitchedModules$Task", "answerLocal", "[I", true)
  | 4 => ("SwitchedModules$Task", "queue", "[I", true)
  | 5 => ("SwitchedModules$Task", "depth", "I", false)
  | 6 => ("SwitchedModules$Task", "queued", "I", false)
  | 7 => ("SwitchedModules$Task", "condition", "I", false)
  | _ => ("SwitchedModules$Task", "outcome", "I", false)
def smT_T : Nat → FieldType := fun k => match k with
  | 0 => .array .int
  | 1 => .array .int
  | 2 => .array .int
  | 3 => .array .int
  | 4 => .array .int
  | 5 => .int
  | 6 => .int
  | 7 => .int
  | _ => .int
theorem smN_T : ∀ a, a < 9 → ∀ b, b < 9 → a ≠ b → (smF_T a).2.1 ≠ (smF_T b).2.1 := by decide +kernel
theorem smO_T : ∀ k, k < 9 → parseFieldDescriptor (smF_T k).2.2.1 = some (smT_T k) := by decide +kernel
def smR_V : String := "SwitchedModules$Version"
def smF_V : u_T := fun k => match k with
  | 0 => ("SwitchedModules$Version", "length", "[I", true)
  | 1 => ("SwitchedModules$Version", "op", "[I", true)
  | 2 => ("SwitchedModules$Version", "a", "[I", true)
  | 3 => ("SwitchedModules$Version", "b", "[I", true)
  | 4 => ("SwitchedModules$Version", "c", "[I", true)
  | _ => ("SwitchedModules$Version", "fieldCount", "[I", true)
def smT_V : Nat → FieldType := fun k => match k with
  | 0 => .array .int
  | 1 => .array .int
  | 2 => .array .int
  | 3 => .array .int
  | 4 => .array .int
  | _ => .array .int
theorem smN_V : ∀ a, a < 6 → ∀ b, b < 6 → a ≠ b → (smF_V a).2.1 ≠ (smF_V b).2.1 := by decide +kernel
theorem smO_V : ∀ k, k < 6 → parseFieldDescriptor (smF_V k).2.2.1 = some (smT_V k) := by decide +kernel
def smR_S : String := "SwitchedModules"
def smF_S : u_T := fun k => match k with
  | 0 => ("SwitchedModules", "present", "LSwitchedModules$Version;", true)
  | 1 => ("SwitchedModules", "draft", "LSwitchedModules$Version;", true)
  | 2 => ("SwitchedModules", "rules", "LSwitchedModules$Rules;", true)
  | 3 => ("SwitchedModules", "objects", "LSwitchedModules$Heap;", true)
  | 4 => ("SwitchedModules", "globals", "[I", true)
  | 5 => ("SwitchedModules", "tasks", "[LSwitchedModules$Task;", true)
  | 6 => ("SwitchedModules", "begun", "I", false)
  | 7 => ("SwitchedModules", "number", "I", false)
  | _ => ("SwitchedModules", "staged", "Z", false)
def smT_S : Nat → FieldType := fun k => match k with
  | 0 => .object "SwitchedModules$Version"
  | 1 => .object "SwitchedModules$Version"
  | 2 => .object "SwitchedModules$Rules"
  | 3 => .object "SwitchedModules$Heap"
  | 4 => .array .int
  | 5 => .array (.object "SwitchedModules$Task")
  | 6 => .int
  | 7 => .int
  | _ => .boolean
theorem smN_S : ∀ a, a < 9 → ∀ b, b < 9 → a ≠ b → (smF_S a).2.1 ≠ (smF_S b).2.1 := by decide +kernel
theorem smO_S : ∀ k, k < 9 → parseFieldDescriptor (smF_S k).2.2.1 = some (smT_S k) := by decide +kernel
def smR_M : String := "SwitchedModulesModel"
def smF_M : u_T := fun k => match k with
  | 0 => ("SwitchedModulesModel", "code", "[I", true)
  | 1 => ("SwitchedModulesModel", "lengths", "[I", true)
  | 2 => ("SwitchedModulesModel", "widths", "[I", true)
  | 3 => ("SwitchedModulesModel", "rules", "[I", true)
  | 4 => ("SwitchedModulesModel", "touched", "[Z", true)
  | 5 => ("SwitchedModulesModel", "staged", "Z", false)
  | 6 => ("SwitchedModulesModel", "version", "I", false)
  | 7 => ("SwitchedModulesModel", "globals", "[I", true)
  | 8 => ("SwitchedModulesModel", "types", "[I", true)
  | 9 => ("SwitchedModulesModel", "fields", "[I", true)
  | 10 => ("SwitchedModulesModel", "saved", "[I", true)
  | 11 => ("SwitchedModulesModel", "marked", "[Z", true)
  | 12 => ("SwitchedModulesModel", "tasks", "I", false)
  | 13 => ("SwitchedModulesModel", "states", "[I", true)
  | 14 => ("SwitchedModulesModel", "results", "[I", true)
  | 15 => ("SwitchedModulesModel", "depths", "[I", true)
  | 16 => ("SwitchedModulesModel", "frames", "[I", true)
  | 17 => ("SwitchedModulesModel", "queued", "[I", true)
  | _ => ("SwitchedModulesModel", "queues", "[I", true)
def smT_M : Nat → FieldType := fun k => match k with
  | 0 => .array .int
  | 1 => .array .int
  | 2 => .array .int
  | 3 => .array .int
  | 4 => .array .boolean
  | 5 => .boolean
  | 6 => .int
  | 7 => .array .int
  | 8 => .array .int
  | 9 => .array .int
  | 10 => .array .int
  | 11 => .array .boolean
  | 12 => .int
  | 13 => .array .int
  | 14 => .array .int
  | 15 => .array .int
  | 16 => .array .int
  | 17 => .array .int
  | _ => .array .int
theorem smN_M : ∀ a, a < 19 → ∀ b, b < 19 → a ≠ b → (smF_M a).2.1 ≠ (smF_M b).2.1 := by decide +kernel
theorem smO_M : ∀ k, k < 19 → parseFieldDescriptor (smF_M k).2.2.1 = some (smT_M k) := by decide +kernel
def smy_S_init : MethodName := ⟨"SwitchedModules", "<init>", "()V"⟩
def smy_S_word : MethodName := ⟨"SwitchedModules", "word", "(IIIIII)I"⟩
def smy_S_cut : MethodName := ⟨"SwitchedModules", "cut", "(II)Z"⟩
def smy_S_fields : MethodName := ⟨"SwitchedModules", "fields", "(II)Z"⟩
def smy_S_rule : MethodName := ⟨"SwitchedModules", "rule", "(IIIII)I"⟩
def smy_S_reset : MethodName := ⟨"SwitchedModules", "reset", "()Z"⟩
def smy_S_stage : MethodName := ⟨"SwitchedModules", "stage", "()I"⟩
def smy_S_withdraw : MethodName := ⟨"SwitchedModules", "withdraw", "()Z"⟩
def smy_S_changed : MethodName := ⟨"SwitchedModules", "changed", "(I)Z"⟩
def smy_S_blocker : MethodName := ⟨"SwitchedModules", "blocker", "(I)I"⟩
def smy_S_attempt : MethodName := ⟨"SwitchedModules", "attempt", "(I)I"⟩
def smy_S_version : MethodName := ⟨"SwitchedModules", "version", "()I"⟩
def smy_S_spawn : MethodName := ⟨"SwitchedModules", "spawn", "(II)I"⟩
def smy_S_step : MethodName := ⟨"SwitchedModules", "step", "(II)I"⟩
def smy_S_send : MethodName := ⟨"SwitchedModules", "send", "(II)I"⟩
def smy_S_state : MethodName := ⟨"SwitchedModules", "state", "(I)I"⟩
def smy_S_result : MethodName := ⟨"SwitchedModules", "result", "(I)I"⟩
def smy_S_frames : MethodName := ⟨"SwitchedModules", "frames", "(I)I"⟩
def smy_S_frame : MethodName := ⟨"SwitchedModules", "frame", "(III)I"⟩
def smy_S_global : MethodName := ⟨"SwitchedModules", "global", "(I)I"⟩
def smy_S_typeOf : MethodName := ⟨"SwitchedModules", "typeOf", "(I)I"⟩
def smy_S_field : MethodName := ⟨"SwitchedModules", "field", "(II)I"⟩
def smy_S_heap : MethodName := ⟨"SwitchedModules", "heap", "()I"⟩
def smy_S_collect : MethodName := ⟨"SwitchedModules", "collect", "()I"⟩
def smy_S_isWithin : MethodName := ⟨"SwitchedModules", "isWithin", "(II)Z"⟩
def smy_S_isTask : MethodName := ⟨"SwitchedModules", "isTask", "(I)Z"⟩
def smy_S_draftChanges : MethodName := ⟨"SwitchedModules", "draftChanges", "(I)Z"⟩
def smy_S_firstTaskInTheWay : MethodName := ⟨"SwitchedModules", "firstTaskInTheWay", "(I)I"⟩
def smy_S_isInTheWay : MethodName := ⟨"SwitchedModules", "isInTheWay", "(LSwitchedModules$Task;)Z"⟩
def smy_S_placeInDraft : MethodName := ⟨"SwitchedModules", "placeInDraft", "(LSwitchedModules$Task;)I"⟩
def smy_S_takeThePlace : MethodName := ⟨"SwitchedModules", "takeThePlace", "()V"⟩
def smy_S_moveFrames : MethodName := ⟨"SwitchedModules", "moveFrames", "()V"⟩
def smy_S_dropUnreachable : MethodName := ⟨"SwitchedModules", "dropUnreachable", "()I"⟩
def smy_S_perform : MethodName := ⟨"SwitchedModules", "perform", "(LSwitchedModules$Task;)V"⟩
def smy_S_call : MethodName := ⟨"SwitchedModules", "call", "(LSwitchedModules$Task;III)V"⟩
def smy_S_makeObject : MethodName := ⟨"SwitchedModules", "makeObject", "(LSwitchedModules$Task;II)V"⟩
def smy_S_get : MethodName := ⟨"SwitchedModules", "get", "(LSwitchedModules$Task;III)V"⟩
def smy_S_put : MethodName := ⟨"SwitchedModules", "put", "(LSwitchedModules$Task;III)V"⟩
def smy_M_init : MethodName := ⟨"SwitchedModulesModel", "<init>", "()V"⟩
def smy_M_isProcedure : MethodName := ⟨"SwitchedModulesModel", "isProcedure", "(I)Z"⟩
def smy_M_isType : MethodName := ⟨"SwitchedModulesModel", "isType", "(I)Z"⟩
def smy_M_isLocal : MethodName := ⟨"SwitchedModulesModel", "isLocal", "(I)Z"⟩
def smy_M_word : MethodName := ⟨"SwitchedModulesModel", "word", "(IIIIII)I"⟩
def smy_M_cut : MethodName := ⟨"SwitchedModulesModel", "cut", "(II)Z"⟩
def smy_M_clearRules : MethodName := ⟨"SwitchedModulesModel", "clearRules", "(I)V"⟩
def smy_M_fields : MethodName := ⟨"SwitchedModulesModel", "fields", "(II)Z"⟩
def smy_M_rule : MethodName := ⟨"SwitchedModulesModel", "rule", "(IIIII)I"⟩
def smy_M_settle : MethodName := ⟨"SwitchedModulesModel", "settle", "()V"⟩
def smy_M_reset : MethodName := ⟨"SwitchedModulesModel", "reset", "()Z"⟩
def smy_M_isField : MethodName := ⟨"SwitchedModulesModel", "isField", "(I)Z"⟩
def smy_M_isRight : MethodName := ⟨"SwitchedModulesModel", "isRight", "(II)Z"⟩
def smy_M_stage : MethodName := ⟨"SwitchedModulesModel", "stage", "()I"⟩
def smy_M_withdraw : MethodName := ⟨"SwitchedModulesModel", "withdraw", "()Z"⟩
def smy_M_isOther : MethodName := ⟨"SwitchedModulesModel", "isOther", "(I)Z"⟩
def smy_M_usesTouched : MethodName := ⟨"SwitchedModulesModel", "usesTouched", "(I)Z"⟩
def smy_M_isChanged : MethodName := ⟨"SwitchedModulesModel", "isChanged", "(I)Z"⟩
def smy_M_changed : MethodName := ⟨"SwitchedModulesModel", "changed", "(I)Z"⟩
def smy_M_pointOf : MethodName := ⟨"SwitchedModulesModel", "pointOf", "(II)I"⟩
def smy_M_frameAt : MethodName := ⟨"SwitchedModulesModel", "frameAt", "(II)I"⟩
def smy_M_isInTheWay : MethodName := ⟨"SwitchedModulesModel", "isInTheWay", "(II)Z"⟩
def smy_M_blocker : MethodName := ⟨"SwitchedModulesModel", "blocker", "(I)I"⟩
def smy_M_isObject : MethodName := ⟨"SwitchedModulesModel", "isObject", "(I)Z"⟩
def smy_M_mark : MethodName := ⟨"SwitchedModulesModel", "mark", "(I)V"⟩
def smy_M_countMarked : MethodName := ⟨"SwitchedModulesModel", "countMarked", "()I"⟩
def smy_M_sweep : MethodName := ⟨"SwitchedModulesModel", "sweep", "()I"⟩
def smy_M_collect : MethodName := ⟨"SwitchedModulesModel", "collect", "()I"⟩
def smy_M_free : MethodName := ⟨"SwitchedModulesModel", "free", "()I"⟩
def smy_M_make : MethodName := ⟨"SwitchedModulesModel", "make", "(I)I"⟩
def smy_M_typeOf : MethodName := ⟨"SwitchedModulesModel", "typeOf", "(I)I"⟩
def smy_M_field : MethodName := ⟨"SwitchedModulesModel", "field", "(II)I"⟩
def smy_M_heap : MethodName := ⟨"SwitchedModulesModel", "heap", "()I"⟩
def smy_M_isMadeOver : MethodName := ⟨"SwitchedModulesModel", "isMadeOver", "(I)Z"⟩
def smy_M_areMadeOver : MethodName := ⟨"SwitchedModulesModel", "areMadeOver", "(I)Z"⟩
def smy_M_moveFrames : MethodName := ⟨"SwitchedModulesModel", "moveFrames", "()V"⟩
def smy_M_attempt : MethodName := ⟨"SwitchedModulesModel", "attempt", "(I)I"⟩
def smy_M_version : MethodName := ⟨"SwitchedModulesModel", "version", "()I"⟩
def smy_M_isTask : MethodName := ⟨"SwitchedModulesModel", "isTask", "(I)Z"⟩
def smy_M_push : MethodName := ⟨"SwitchedModulesModel", "push", "(IIII)V"⟩
def smy_M_spawn : MethodName := ⟨"SwitchedModulesModel", "spawn", "(II)I"⟩
def smy_M_fault : MethodName := ⟨"SwitchedModulesModel", "fault", "(I)I"⟩
def smy_M_giveBack : MethodName := ⟨"SwitchedModulesModel", "giveBack", "(II)I"⟩
def smy_M_take : MethodName := ⟨"SwitchedModulesModel", "take", "(I)I"⟩
def smy_M_act : MethodName := ⟨"SwitchedModulesModel", "act", "(I)I"⟩
def smy_M_create : MethodName := ⟨"SwitchedModulesModel", "create", "(III)I"⟩
def smy_M_access : MethodName := ⟨"SwitchedModulesModel", "access", "(IIIIII)I"⟩
def smy_M_step : MethodName := ⟨"SwitchedModulesModel", "step", "(II)I"⟩
def smy_M_send : MethodName := ⟨"SwitchedModulesModel", "send", "(II)I"⟩
def smy_M_state : MethodName := ⟨"SwitchedModulesModel", "state", "(I)I"⟩
def smy_M_result : MethodName := ⟨"SwitchedModulesModel", "result", "(I)I"⟩
def smy_M_frames : MethodName := ⟨"SwitchedModulesModel", "frames", "(I)I"⟩
def smy_M_frame : MethodName := ⟨"SwitchedModulesModel", "frame", "(III)I"⟩
def smy_M_global : MethodName := ⟨"SwitchedModulesModel", "global", "(I)I"⟩
def smy_H_init : MethodName := ⟨"SwitchedModules$Heap", "<init>", "()V"⟩
def smy_H_has : MethodName := ⟨"SwitchedModules$Heap", "has", "(I)Z"⟩
def smy_H_count : MethodName := ⟨"SwitchedModules$Heap", "count", "()I"⟩
def smy_H_leastFree : MethodName := ⟨"SwitchedModules$Heap", "leastFree", "()I"⟩
def smy_H_begin : MethodName := ⟨"SwitchedModules$Heap", "begin", "(II)V"⟩
def smy_H_cellOf : MethodName := ⟨"SwitchedModules$Heap", "cellOf", "(II)I"⟩
def smy_H_unmarkAll : MethodName := ⟨"SwitchedModules$Heap", "unmarkAll", "()V"⟩
def smy_H_mark : MethodName := ⟨"SwitchedModules$Heap", "mark", "(I)V"⟩
def smy_H_markFromMarked : MethodName := ⟨"SwitchedModules$Heap", "markFromMarked", "()V"⟩
def smy_H_dropUnmarked : MethodName := ⟨"SwitchedModules$Heap", "dropUnmarked", "()I"⟩
def smy_H_makeOver : MethodName := ⟨"SwitchedModules$Heap", "makeOver", "(LSwitchedModules$Rules;LSwitchedModules$Version;I)Z"⟩
def smy_H_makeOverOne : MethodName := ⟨"SwitchedModules$Heap", "makeOverOne", "(ILSwitchedModules$Rules;)Z"⟩
def smy_R_init : MethodName := ⟨"SwitchedModules$Rules", "<init>", "()V"⟩
def smy_R_write : MethodName := ⟨"SwitchedModules$Rules", "write", "(IIIII)V"⟩
def smy_R_forgetType : MethodName := ⟨"SwitchedModules$Rules", "forgetType", "(I)V"⟩
def smy_R_forgetAll : MethodName := ⟨"SwitchedModules$Rules", "forgetAll", "()V"⟩
def smy_R_firstWithoutSource : MethodName := ⟨"SwitchedModules$Rules", "firstWithoutSource", "(LSwitchedModules$Version;LSwitchedModules$Version;)I"⟩
def smy_R_isFaulty : MethodName := ⟨"SwitchedModules$Rules", "isFaulty", "(I[II)Z"⟩
def smy_R_valueOf : MethodName := ⟨"SwitchedModules$Rules", "valueOf", "(I[II)I"⟩
def smy_T_init : MethodName := ⟨"SwitchedModules$Task", "<init>", "()V"⟩
def smy_T_local : MethodName := ⟨"SwitchedModules$Task", "local", "(I)I"⟩
def smy_T_setLocal : MethodName := ⟨"SwitchedModules$Task", "setLocal", "(II)V"⟩
def smy_T_push : MethodName := ⟨"SwitchedModules$Task", "push", "(III)V"⟩
def smy_T_giveBack : MethodName := ⟨"SwitchedModules$Task", "giveBack", "(I)V"⟩
def smy_T_fail : MethodName := ⟨"SwitchedModules$Task", "fail", "()V"⟩
def smy_T_enqueue : MethodName := ⟨"SwitchedModules$Task", "enqueue", "(I)V"⟩
def smy_T_takeOldest : MethodName := ⟨"SwitchedModules$Task", "takeOldest", "()I"⟩
def smy_V_init : MethodName := ⟨"SwitchedModules$Version", "<init>", "()V"⟩
def smy_V_at : MethodName := ⟨"SwitchedModules$Version", "at", "(II)I"⟩
def smy_V_hasProcedure : MethodName := ⟨"SwitchedModules$Version", "hasProcedure", "(I)Z"⟩
def smy_V_write : MethodName := ⟨"SwitchedModules$Version", "write", "(IIIIII)V"⟩
def smy_V_copyFrom : MethodName := ⟨"SwitchedModules$Version", "copyFrom", "(LSwitchedModules$Version;)V"⟩
def smy_V_hasSameProcedure : MethodName := ⟨"SwitchedModules$Version", "hasSameProcedure", "(LSwitchedModules$Version;I)Z"⟩
def smy_V_usesTouchedType : MethodName := ⟨"SwitchedModules$Version", "usesTouchedType", "(I[Z)Z"⟩
def smy_V_typeUsed : MethodName := ⟨"SwitchedModules$Version", "typeUsed", "(I)I"⟩
def smy_V_firstPoint : MethodName := ⟨"SwitchedModules$Version", "firstPoint", "(II)I"⟩
def smy_V_firstWrongWord : MethodName := ⟨"SwitchedModules$Version", "firstWrongWord", "()I"⟩
def smy_V_isRight : MethodName := ⟨"SwitchedModules$Version", "isRight", "(II)Z"⟩
def smy_V_isLocal : MethodName := ⟨"SwitchedModules$Version", "isLocal", "(I)Z"⟩
def smy_V_isFieldOfType : MethodName := ⟨"SwitchedModules$Version", "isFieldOfType", "(I)Z"⟩
end
section
theorem smd_S_init_0 : decode prog_1_method_1_code 0 = .ok (.aload_n 0, 1) := by decide +kernel
theorem smd_S_init_1 : decode prog_1_method_1_code 1 = .ok (.invokespecial 1, 3) := by decide +kernel
theorem smd_S_init_4 : decode prog_1_method_1_code 4 = .ok (.aload_n 0, 1) := by decide +kernel
theorem smd_S_init_5 : decode prog_1_method_1_code 5 = .ok (.new 7, 3) := by decide +kernel
theorem smd_S_init_8 : decode prog_1_method_1_code 8 = .ok (.dup, 1) := by decide +kernel
theorem smd_S_init_9 : decode prog_1_method_1_code 9 = .ok (.invokespecial 9, 3) := by decide +kernel
theorem smd_S_init_12 : decode prog_1_method_1_code 12 = .ok (.putfield 10, 3) := by decide +kernel
theorem smd_S_init_15 : decode prog_1_method_1_code 15 = .ok (.aload_n 0, 1) := by decide +kernel
theorem smd_S_init_16 : decode prog_1_method_1_code 16 = .ok (.new 7, 3) := by decide +kernel
theorem smd_S_init_19 : decode prog_1_method_1_code 19 = .ok (.dup, 1) := by decide +kernel
theorem smd_S_init_20 : decode prog_1_method_1_code 20 = .ok (.invokespecial 9, 3) := by decide +kernel
theorem smd_S_init_23 : decode prog_1_method_1_code 23 = .ok (.putfield 16, 3) := by decide +kernel
theorem smd_S_init_26 : decode prog_1_method_1_code 26 = .ok (.aload_n 0, 1) := by decide +kernel
theorem smd_S_init_27 : decode prog_1_method_1_code 27 = .ok (.new 19, 3) := by decide +kernel
theorem smd_S_init_30 : decode prog_1_method_1_code 30 = .ok (.dup, 1) := by decide +kernel
theorem smd_S_init_31 : decode prog_1_method_1_code 31 = .ok (.invokespecial 21, 3) := by decide +kernel
theorem smd_S_init_34 : decode prog_1_method_1_code 34 = .ok (.putfield 22, 3) := by decide +kernel
theorem smd_S_init_37 : decode prog_1_method_1_code 37 = .ok (.aload_n 0, 1) := by decide +kernel
theorem smd_S_init_38 : decode prog_1_method_1_code 38 = .ok (.new 26, 3) := by decide +kernel
theorem smd_S_init_41 : decode prog_1_method_1_code 41 = .ok (.dup, 1) := by decide +kernel
theorem smd_S_init_42 : decode prog_1_method_1_code 42 = .ok (.invokespecial 28, 3) := by decide +kernel
theorem smd_S_init_45 : decode prog_1_method_1_code 45 = .ok (.putfield 29, 3) := by decide +kernel
theorem smd_S_init_48 : decode prog_1_method_1_code 48 = .ok (.aload_n 0, 1) := by decide +kernel
theorem smd_S_init_49 : decode prog_1_method_1_code 49 = .ok (.iconst 4, 1) := by decide +kernel
theorem smd_S_init_50 : decode prog_1_method_1_code 50 = .ok (.newarray .int, 2) := by decide +kernel
theorem smd_S_init_52 : decode prog_1_method_1_code 52 = .ok (.putfield 33, 3) := by decide +kernel
theorem smd_S_init_55 : decode prog_1_method_1_code 55 = .ok (.aload_n 0, 1) := by decide +kernel
theorem smd_S_init_56 : decode prog_1_method_1_code 56 = .ok (.bipush 6, 2) := by decide +kernel
theorem smd_S_init_58 : decode prog_1_method_1_code 58 = .ok (.anewarray 37, 3) := by decide +kernel
theorem smd_S_init_61 : decode prog_1_method_1_code 61 = .ok (.putfield 39, 3) := by decide +kernel
theorem smd_S_init_64 : decode prog_1_method_1_code 64 = .ok (.iconst 0, 1) := by decide +kernel
theorem smd_S_init_65 : decode prog_1_method_1_code 65 = .ok (.istore_n 1, 1) := by decide +kernel
theorem smd_S_init_66 : decode prog_1_method_1_code 66 = .ok (.iload_n 1, 1) := by decide +kernel
theorem smd_S_init_67 : decode prog_1_method_1_code 67 = .ok (.bipush 6, 2) := by decide +kernel
theorem smd_S_init_69 : decode prog_1_method_1_code 69 = .ok (.if_icmp .ge 22, 3) := by decide +kernel
theorem smd_S_init_72 : decode prog_1_method_1_code 72 = .ok (.aload_n 0, 1) := by decide +kernel
theorem smd_S_init_73 : decode prog_1_method_1_code 73 = .ok (.getfield 39, 3) := by decide +kernel
theorem smd_S_init_76 : decode prog_1_method_1_code 76 = .ok (.iload_n 1, 1) := by decide +kernel
theorem smd_S_init_77 : decode prog_1_method_1_code 77 = .ok (.new 37, 3) := by decide +kernel
theorem smd_S_init_80 : decode prog_1_method_1_code 80 = .ok (.dup, 1) := by decide +kernel
theorem smd_S_init_81 : decode prog_1_method_1_code 81 = .ok (.invokespecial 43, 3) := by decide +kernel
theorem smd_S_init_84 : decode prog_1_method_1_code 84 = .ok (.aastore, 1) := by decide +kernel
theorem smd_S_init_85 : decode prog_1_method_1_code 85 = .ok (.iinc 1 1, 3) := by decide +kernel
theorem smd_S_init_88 : decode prog_1_method_1_code 88 = .ok (.goto (-22), 3) := by decide +kernel
theorem smd_S_init_91 : decode prog_1_method_1_code 91 = .ok (.return_, 1) := by decide +kernel
theorem smd_S_word_0 : decode prog_1_method_2_code 0 = .ok (.iload_n 1, 1) := by decide +kernel
theorem smd_S_word_1 : decode prog_1_method_2_code 1 = .ok (.bipush 6, 2) := by decide +kernel
theorem smd_S_word_3 : decode prog_1_method_2_code 3 = .ok (.invokestatic 44, 3) := by decide +kernel
theorem smd_S_word_6 : decode prog_1_method_2_code 6 = .ok (.ifCond .eq 26, 3) := by decide +kernel
theorem smd_S_word_9 : decode prog_1_method_2_code 9 = .ok (.iload_n 2, 1) := by decide +kernel
theorem smd_S_word_10 : decode prog_1_method_2_code 10 = .ok (.ifCond .lt 22, 3) := by decide +kernel
theorem smd_S_word_13 : decode prog_1_method_2_code 13 = .ok (.iload_n 2, 1) := by decide +kernel
theorem smd_S_word_14 : decode prog_1_method_2_code 14 = .ok (.aload_n 0, 1) := by decide +kernel
theorem smd_S_word_15 : decode prog_1_method_2_code 15 = .ok (.getfield 16, 3) := by decide +kernel
theorem smd_S_word_18 : decode prog_1_method_2_code 18 = .ok (.getfield 48, 3) := by decide +kernel
theorem smd_S_word_21 : decode prog_1_method_2_code 21 = .ok (.iload_n 1, 1) := by decide +kernel
theorem smd_S_word_22 : decode prog_1_method_2_code 22 = .ok (.iaload, 1) := by decide +kernel
theorem smd_S_word_23 : decode prog_1_method_2_code 23 = .ok (.if_icmp .gt 9, 3) := by decide +kernel
theorem smd_S_word_26 : decode prog_1_method_2_code 26 = .ok (.iload_n 2, 1) := by decide +kernel
theorem smd_S_word_27 : decode prog_1_method_2_code 27 = .ok (.bipush 12, 2) := by decide +kernel
theorem smd_S_word_29 : decode prog_1_method_2_code 29 = .ok (.if_icmp .ne 5, 3) := by decide +kernel
theorem smd_S_word_32 : decode prog_1_method_2_code 32 = .ok (.iconst (-1), 1) := by decide +kernel
theorem smd_S_word_33 : decode prog_1_method_2_code 33 = .ok (.ireturn, 1) := by decide +kernel
theorem smd_S_word_34 : decode prog_1_method_2_code 34 = .ok (.aload_n 0, 1) := by decide +kernel
theorem smd_S_word_35 : decode prog_1_method_2_code 35 = .ok (.getfield 51, 3) := by decide +kernel
theorem smd_S_word_38 : decode prog_1_method_2_code 38 = .ok (.ifCond .eq 6, 3) := by decide +kernel
theorem smd_S_word_41 : decode prog_1_method_2_code 41 = .ok (.bipush (-2), 2) := by decide +kernel
theorem smd_S_word_43 : decode prog_1_method_2_code 43 = .ok (.ireturn, 1) := by decide +kernel
theorem smd_S_word_44 : decode prog_1_method_2_code 44 = .ok (.aload_n 0, 1) := by decide +kernel
theorem smd_S_word_45 : decode prog_1_method_2_code 45 = .ok (.getfield 16, 3) := by decide +kernel
theorem smd_S_word_48 : decode prog_1_method_2_code 48 = .ok (.iload_n 1, 1) := by decide +kernel
theorem smd_S_word_49 : decode prog_1_method_2_code 49 = .ok (.iload_n 2, 1) := by decide +kernel
theorem smd_S_word_50 : decode prog_1_method_2_code 50 = .ok (.iload_n 3, 1) := by decide +kernel
theorem smd_S_word_51 : decode prog_1_method_2_code 51 = .ok (.iload 4, 2) := by decide +kernel
theorem smd_S_word_53 : decode prog_1_method_2_code 53 = .ok (.iload 5, 2) := by decide +kernel
theorem smd_S_word_55 : decode prog_1_method_2_code 55 = .ok (.iload 6, 2) := by decide +kernel
theorem smd_S_word_57 : decode prog_1_method_2_code 57 = .ok (.invokevirtual 55, 3) := by decide +kernel
theorem smd_S_word_60 : decode prog_1_method_2_code 60 = .ok (.aload_n 0, 1) := by decide +kernel
theorem smd_S_word_61 : decode prog_1_method_2_code 61 = .ok (.getfield 16, 3) := by decide +kernel
theorem smd_S_word_64 : decode prog_1_method_2_code 64 = .ok (.getfield 48, 3) := by decide +kernel
theorem smd_S_word_67 : decode prog_1_method_2_code 67 = .ok (.iload_n 1, 1) := by decide +kernel
theorem smd_S_word_68 : decode prog_1_method_2_code 68 = .ok (.iaload, 1) := by decide +kernel
theorem smd_S_word_69 : decode prog_1_method_2_code 69 = .ok (.ireturn, 1) := by decide +kernel
theorem smd_S_cut_0 : decode prog_1_method_3_code 0 = .ok (.iload_n 1, 1) := by decide +kernel
theorem smd_S_cut_1 : decode prog_1_method_3_code 1 = .ok (.bipush 6, 2) := by decide +kernel
theorem smd_S_cut_3 : decode prog_1_method_3_code 3 = .ok (.invokestatic 44, 3) := by decide +kernel
theorem smd_S_cut_6 : decode prog_1_method_3_code 6 = .ok (.ifCond .eq 27, 3) := by decide +kernel
theorem smd_S_cut_9 : decode prog_1_method_3_code 9 = .ok (.iload_n 2, 1) := by decide +kernel
theorem smd_S_cut_10 : decode prog_1_method_3_code 10 = .ok (.ifCond .lt 23, 3) := by decide +kernel
theorem smd_S_cut_13 : decode prog_1_method_3_code 13 = .ok (.iload_n 2, 1) := by decide +kernel
theorem smd_S_cut_14 : decode prog_1_method_3_code 14 = .ok (.aload_n 0, 1) := by decide +kernel
theorem smd_S_cut_15 : decode prog_1_method_3_code 15 = .ok (.getfield 16, 3) := by decide +kernel
theorem smd_S_cut_18 : decode prog_1_method_3_code 18 = .ok (.getfield 48, 3) := by decide +kernel
theorem smd_S_cut_21 : decode prog_1_method_3_code 21 = .ok (.iload_n 1, 1) := by decide +kernel
theorem smd_S_cut_22 : decode prog_1_method_3_code 22 = .ok (.iaload, 1) := by decide +kernel
theorem smd_S_cut_23 : decode prog_1_method_3_code 23 = .ok (.if_icmp .gt 10, 3) := by decide +kernel
theorem smd_S_cut_26 : decode prog_1_method_3_code 26 = .ok (.aload_n 0, 1) := by decide +kernel
theorem smd_S_cut_27 : decode prog_1_method_3_code 27 = .ok (.getfield 51, 3) := by decide +kernel
theorem smd_S_cut_30 : decode prog_1_method_3_code 30 = .ok (.ifCond .eq 5, 3) := by decide +kernel
theorem smd_S_cut_33 : decode prog_1_method_3_code 33 = .ok (.iconst 0, 1) := by decide +kernel
theorem smd_S_cut_34 : decode prog_1_method_3_code 34 = .ok (.ireturn, 1) := by decide +kernel
theorem smd_S_cut_35 : decode prog_1_method_3_code 35 = .ok (.aload_n 0, 1) := by decide +kernel
theorem smd_S_cut_36 : decode prog_1_method_3_code 36 = .ok (.getfield 16, 3) := by decide +kernel
theorem smd_S_cut_39 : decode prog_1_method_3_code 39 = .ok (.getfield 48, 3) := by decide +kernel
theorem smd_S_cut_42 : decode prog_1_method_3_code 42 = .ok (.iload_n 1, 1) := by decide +kernel
theorem smd_S_cut_43 : decode prog_1_method_3_code 43 = .ok (.iload_n 2, 1) := by decide +kernel
theorem smd_S_cut_44 : decode prog_1_method_3_code 44 = .ok (.iastore, 1) := by decide +kernel
theorem smd_S_cut_45 : decode prog_1_method_3_code 45 = .ok (.iconst 1, 1) := by decide +kernel
theorem smd_S_cut_46 : decode prog_1_method_3_code 46 = .ok (.ireturn, 1) := by decide +kernel
theorem smd_S_fields_0 : decode prog_1_method_4_code 0 = .ok (.iload_n 1, 1) := by decide +kernel
theorem smd_S_fields_1 : decode prog_1_method_4_code 1 = .ok (.iconst 3, 1) := by decide +kernel
theorem smd_S_fields_2 : decode prog_1_method_4_code 2 = .ok (.invokestatic 44, 3) := by decide +kernel
theorem smd_S_fields_5 : decode prog_1_method_4_code 5 = .ok (.ifCond .eq 19, 3) := by decide +kernel
theorem smd_S_fields_8 : decode prog_1_method_4_code 8 = .ok (.iload_n 2, 1) := by decide +kernel
theorem smd_S_fields_9 : decode prog_1_method_4_code 9 = .ok (.ifCond .lt 15, 3) := by decide +kernel
theorem smd_S_fields_12 : decode prog_1_method_4_code 12 = .ok (.iload_n 2, 1) := by decide +kernel
theorem smd_S_fields_13 : decode prog_1_method_4_code 13 = .ok (.iconst 4, 1) := by decide +kernel
theorem smd_S_fields_14 : decode prog_1_method_4_code 14 = .ok (.if_icmp .gt 10, 3) := by decide +kernel
theorem smd_S_fields_17 : decode prog_1_method_4_code 17 = .ok (.aload_n 0, 1) := by decide +kernel
theorem smd_S_fields_18 : decode prog_1_method_4_code 18 = .ok (.getfield 51, 3) := by decide +kernel
theorem smd_S_fields_21 : decode prog_1_method_4_code 21 = .ok (.ifCond .eq 5, 3) := by decide +kernel
theorem smd_S_fields_24 : decode prog_1_method_4_code 24 = .ok (.iconst 0, 1) := by decide +kernel
theorem smd_S_fields_25 : decode prog_1_method_4_code 25 = .ok (.ireturn, 1) := by decide +kernel
theorem smd_S_fields_26 : decode prog_1_method_4_code 26 = .ok (.aload_n 0, 1) := by decide +kernel
theorem smd_S_fields_27 : decode prog_1_method_4_code 27 = .ok (.getfield 16, 3) := by decide +kernel
theorem smd_S_fields_30 : decode prog_1_method_4_code 30 = .ok (.getfield 59, 3) := by decide +kernel
theorem smd_S_fields_33 : decode prog_1_method_4_code 33 = .ok (.iload_n 1, 1) := by decide +kernel
theorem smd_S_fields_34 : decode prog_1_method_4_code 34 = .ok (.iload_n 2, 1) := by decide +kernel
theorem smd_S_fields_35 : decode prog_1_method_4_code 35 = .ok (.iastore, 1) := by decide +kernel
theorem smd_S_fields_36 : decode prog_1_method_4_code 36 = .ok (.aload_n 0, 1) := by decide +kernel
theorem smd_S_fields_37 : decode prog_1_method_4_code 37 = .ok (.getfield 22, 3) := by decide +kernel
theorem smd_S_fields_40 : decode prog_1_method_4_code 40 = .ok (.iload_n 1, 1) := by decide +kernel
theorem smd_S_fields_41 : decode prog_1_method_4_code 41 = .ok (.invokevirtual 62, 3) := by decide +kernel
theorem smd_S_fields_44 : decode prog_1_method_4_code 44 = .ok (.aload_n 0, 1) := by decide +kernel
theorem smd_S_fields_45 : decode prog_1_method_4_code 45 = .ok (.getfield 22, 3) := by decide +kernel
theorem smd_S_fields_48 : decode prog_1_method_4_code 48 = .ok (.getfield 66, 3) := by decide +kernel
theorem smd_S_fields_51 : decode prog_1_method_4_code 51 = .ok (.iload_n 1, 1) := by decide +kernel
theorem smd_S_fields_52 : decode prog_1_method_4_code 52 = .ok (.iconst 1, 1) := by decide +kernel
theorem smd_S_fields_53 : decode prog_1_method_4_code 53 = .ok (.bastore, 1) := by decide +kernel
theorem smd_S_fields_54 : decode prog_1_method_4_code 54 = .ok (.iconst 1, 1) := by decide +kernel
theorem smd_S_fields_55 : decode prog_1_method_4_code 55 = .ok (.ireturn, 1) := by decide +kernel
theorem smd_S_rule_0 : decode prog_1_method_5_code 0 = .ok (.iload_n 1, 1) := by decide +kernel
theorem smd_S_rule_1 : decode prog_1_method_5_code 1 = .ok (.iconst 3, 1) := by decide +kernel
theorem smd_S_rule_2 : decode prog_1_method_5_code 2 = .ok (.invokestatic 44, 3) := by decide +kernel
theorem smd_S_rule_5 : decode prog_1_method_5_code 5 = .ok (.ifCond .eq 19, 3) := by decide +kernel
theorem smd_S_rule_8 : decode prog_1_method_5_code 8 = .ok (.iload_n 2, 1) := by decide +kernel
theorem smd_S_rule_9 : decode prog_1_method_5_code 9 = .ok (.aload_n 0, 1) := by decide +kernel
theorem smd_S_rule_10 : decode prog_1_method_5_code 10 = .ok (.getfield 16, 3) := by decide +kernel
theorem smd_S_rule_13 : decode prog_1_method_5_code 13 = .ok (.getfield 59, 3) := by decide +kernel
theorem smd_S_rule_16 : decode prog_1_method_5_code 16 = .ok (.iload_n 1, 1) := by decide +kernel
theorem smd_S_rule_17 : decode prog_1_method_5_code 17 = .ok (.iaload, 1) := by decide +kernel
theorem smd_S_rule_18 : decode prog_1_method_5_code 18 = .ok (.invokestatic 44, 3) := by decide +kernel
theorem smd_S_rule_21 : decode prog_1_method_5_code 21 = .ok (.ifCond .ne 5, 3) := by decide +kernel
theorem smd_S_rule_24 : decode prog_1_method_5_code 24 = .ok (.iconst (-1), 1) := by decide +kernel
theorem smd_S_rule_25 : decode prog_1_method_5_code 25 = .ok (.ireturn, 1) := by decide +kernel
theorem smd_S_rule_26 : decode prog_1_method_5_code 26 = .ok (.iload_n 3, 1) := by decide +kernel
theorem smd_S_rule_27 : decode prog_1_method_5_code 27 = .ok (.ifCond .lt 17, 3) := by decide +kernel
theorem smd_S_rule_30 : decode prog_1_method_5_code 30 = .ok (.iload_n 3, 1) := by decide +kernel
theorem smd_S_rule_31 : decode prog_1_method_5_code 31 = .ok (.iconst 2, 1) := by decide +kernel
theorem smd_S_rule_32 : decode prog_1_method_5_code 32 = .ok (.if_icmp .gt 12, 3) := by decide +kernel
theorem smd_S_rule_35 : decode prog_1_method_5_code 35 = .ok (.iload 4, 2) := by decide +kernel
theorem smd_S_rule_37 : decode prog_1_method_5_code 37 = .ok (.iconst 4, 1) := by decide +kernel
theorem smd_S_rule_38 : decode prog_1_method_5_code 38 = .ok (.invokestatic 44, 3) := by decide +kernel
theorem smd_S_rule_41 : decode prog_1_method_5_code 41 = .ok (.ifCond .ne 5, 3) := by decide +kernel
theorem smd_S_rule_44 : decode prog_1_method_5_code 44 = .ok (.iconst (-1), 1) := by decide +kernel
theorem smd_S_rule_45 : decode prog_1_method_5_code 45 = .ok (.ireturn, 1) := by decide +kernel
theorem smd_S_rule_46 : decode prog_1_method_5_code 46 = .ok (.aload_n 0, 1) := by decide +kernel
theorem smd_S_rule_47 : decode prog_1_method_5_code 47 = .ok (.getfield 51, 3) := by decide +kernel
theorem smd_S_rule_50 : decode prog_1_method_5_code 50 = .ok (.ifCond .eq 6, 3) := by decide +kernel
theorem smd_S_rule_53 : decode prog_1_method_5_code 53 = .ok (.bipush (-2), 2) := by decide +kernel
theorem smd_S_rule_55 : decode prog_1_method_5_code 55 = .ok (.ireturn, 1) := by decide +kernel
theorem smd_S_rule_56 : decode prog_1_method_5_code 56 = .ok (.aload_n 0, 1) := by decide +kernel
theorem smd_S_rule_57 : decode prog_1_method_5_code 57 = .ok (.getfield 22, 3) := by decide +kernel
theorem smd_S_rule_60 : decode prog_1_method_5_code 60 = .ok (.iload_n 1, 1) := by decide +kernel
theorem smd_S_rule_61 : decode prog_1_method_5_code 61 = .ok (.iload_n 2, 1) := by decide +kernel
theorem smd_S_rule_62 : decode prog_1_method_5_code 62 = .ok (.iload_n 3, 1) := by decide +kernel
theorem smd_S_rule_63 : decode prog_1_method_5_code 63 = .ok (.iload 4, 2) := by decide +kernel
theorem smd_S_rule_65 : decode prog_1_method_5_code 65 = .ok (.iload 5, 2) := by decide +kernel
theorem smd_S_rule_67 : decode prog_1_method_5_code 67 = .ok (.invokevirtual 70, 3) := by decide +kernel
theorem smd_S_rule_70 : decode prog_1_method_5_code 70 = .ok (.aload_n 0, 1) := by decide +kernel
theorem smd_S_rule_71 : decode prog_1_method_5_code 71 = .ok (.getfield 22, 3) := by decide +kernel
theorem smd_S_rule_74 : decode prog_1_method_5_code 74 = .ok (.getfield 66, 3) := by decide +kernel
theorem smd_S_rule_77 : decode prog_1_method_5_code 77 = .ok (.iload_n 1, 1) := by decide +kernel
theorem smd_S_rule_78 : decode prog_1_method_5_code 78 = .ok (.iconst 1, 1) := by decide +kernel
theorem smd_S_rule_79 : decode prog_1_method_5_code 79 = .ok (.bastore, 1) := by decide +kernel
theorem smd_S_rule_80 : decode prog_1_method_5_code 80 = .ok (.iconst 0, 1) := by decide +kernel
theorem smd_S_rule_81 : decode prog_1_method_5_code 81 = .ok (.ireturn, 1) := by decide +kernel
theorem smd_S_reset_0 : decode prog_1_method_6_code 0 = .ok (.aload_n 0, 1) := by decide +kernel
theorem smd_S_reset_1 : decode prog_1_method_6_code 1 = .ok (.getfield 51, 3) := by decide +kernel
theorem smd_S_reset_4 : decode prog_1_method_6_code 4 = .ok (.ifCond .eq 5, 3) := by decide +kernel
theorem smd_S_reset_7 : decode prog_1_method_6_code 7 = .ok (.iconst 0, 1) := by decide +kernel
theorem smd_S_reset_8 : decode prog_1_method_6_code 8 = .ok (.ireturn, 1) := by decide +kernel
theorem smd_S_reset_9 : decode prog_1_method_6_code 9 = .ok (.aload_n 0, 1) := by decide +kernel
theorem smd_S_reset_10 : decode prog_1_method_6_code 10 = .ok (.getfield 16, 3) := by decide +kernel
theorem smd_S_reset_13 : decode prog_1_method_6_code 13 = .ok (.aload_n 0, 1) := by decide +kernel
theorem smd_S_reset_14 : decode prog_1_method_6_code 14 = .ok (.getfield 10, 3) := by decide +kernel
theorem smd_S_reset_17 : decode prog_1_method_6_code 17 = .ok (.invokevirtual 73, 3) := by decide +kernel
theorem smd_S_reset_20 : decode prog_1_method_6_code 20 = .ok (.aload_n 0, 1) := by decide +kernel
theorem smd_S_reset_21 : decode prog_1_method_6_code 21 = .ok (.getfield 22, 3) := by decide +kernel
theorem smd_S_reset_24 : decode prog_1_method_6_code 24 = .ok (.invokevirtual 77, 3) := by decide +kernel
theorem smd_S_reset_27 : decode prog_1_method_6_code 27 = .ok (.iconst 1, 1) := by decide +kernel
theorem smd_S_reset_28 : decode prog_1_method_6_code 28 = .ok (.ireturn, 1) := by decide +kernel
theorem smd_S_stage_0 : decode prog_1_method_7_code 0 = .ok (.aload_n 0, 1) := by decide +kernel
theorem smd_S_stage_1 : decode prog_1_method_7_code 1 = .ok (.getfield 51, 3) := by decide +kernel
theorem smd_S_stage_4 : decode prog_1_method_7_code 4 = .ok (.ifCond .eq 6, 3) := by decide +kernel
theorem smd_S_stage_7 : decode prog_1_method_7_code 7 = .ok (.bipush (-2), 2) := by decide +kernel
theorem smd_S_stage_9 : decode prog_1_method_7_code 9 = .ok (.ireturn, 1) := by decide +kernel
theorem smd_S_stage_10 : decode prog_1_method_7_code 10 = .ok (.aload_n 0, 1) := by decide +kernel
theorem smd_S_stage_11 : decode prog_1_method_7_code 11 = .ok (.getfield 16, 3) := by decide +kernel
theorem smd_S_stage_14 : decode prog_1_method_7_code 14 = .ok (.invokevirtual 80, 3) := by decide +kernel
theorem smd_S_stage_17 : decode prog_1_method_7_code 17 = .ok (.istore_n 1, 1) := by decide +kernel
theorem smd_S_stage_18 : decode prog_1_method_7_code 18 = .ok (.iload_n 1, 1) := by decide +kernel
theorem smd_S_stage_19 : decode prog_1_method_7_code 19 = .ok (.iconst (-1), 1) := by decide +kernel
theorem smd_S_stage_20 : decode prog_1_method_7_code 20 = .ok (.if_icmp .eq 8, 3) := by decide +kernel
theorem smd_S_stage_23 : decode prog_1_method_7_code 23 = .ok (.bipush (-100), 2) := by decide +kernel
theorem smd_S_stage_25 : decode prog_1_method_7_code 25 = .ok (.iload_n 1, 1) := by decide +kernel
theorem smd_S_stage_26 : decode prog_1_method_7_code 26 = .ok (.isub, 1) := by decide +kernel
theorem smd_S_stage_27 : decode prog_1_method_7_code 27 = .ok (.ireturn, 1) := by decide +kernel
theorem smd_S_stage_28 : decode prog_1_method_7_code 28 = .ok (.aload_n 0, 1) := by decide +kernel
theorem smd_S_stage_29 : decode prog_1_method_7_code 29 = .ok (.getfield 22, 3) := by decide +kernel
theorem smd_S_stage_32 : decode prog_1_method_7_code 32 = .ok (.aload_n 0, 1) := by decide +kernel
theorem smd_S_stage_33 : decode prog_1_method_7_code 33 = .ok (.getfield 10, 3) := by decide +kernel
theorem smd_S_stage_36 : decode prog_1_method_7_code 36 = .ok (.aload_n 0, 1) := by decide +kernel
theorem smd_S_stage_37 : decode prog_1_method_7_code 37 = .ok (.getfield 16, 3) := by decide +kernel
theorem smd_S_stage_40 : decode prog_1_method_7_code 40 = .ok (.invokevirtual 84, 3) := by decide +kernel
theorem smd_S_stage_43 : decode prog_1_method_7_code 43 = .ok (.istore_n 2, 1) := by decide +kernel
theorem smd_S_stage_44 : decode prog_1_method_7_code 44 = .ok (.iload_n 2, 1) := by decide +kernel
theorem smd_S_stage_45 : decode prog_1_method_7_code 45 = .ok (.iconst (-1), 1) := by decide +kernel
theorem smd_S_stage_46 : decode prog_1_method_7_code 46 = .ok (.if_icmp .eq 9, 3) := by decide +kernel
theorem smd_S_stage_49 : decode prog_1_method_7_code 49 = .ok (.sipush (-200), 3) := by decide +kernel
theorem smd_S_stage_52 : decode prog_1_method_7_code 52 = .ok (.iload_n 2, 1) := by decide +kernel
theorem smd_S_stage_53 : decode prog_1_method_7_code 53 = .ok (.isub, 1) := by decide +kernel
theorem smd_S_stage_54 : decode prog_1_method_7_code 54 = .ok (.ireturn, 1) := by decide +kernel
theorem smd_S_stage_55 : decode prog_1_method_7_code 55 = .ok (.aload_n 0, 1) := by decide +kernel
theorem smd_S_stage_56 : decode prog_1_method_7_code 56 = .ok (.iconst 1, 1) := by decide +kernel
theorem smd_S_stage_57 : decode prog_1_method_7_code 57 = .ok (.putfield 51, 3) := by decide +kernel
theorem smd_S_stage_60 : decode prog_1_method_7_code 60 = .ok (.iconst 0, 1) := by decide +kernel
theorem smd_S_stage_61 : decode prog_1_method_7_code 61 = .ok (.ireturn, 1) := by decide +kernel
theorem smd_S_withdraw_0 : decode prog_1_method_8_code 0 = .ok (.aload_n 0, 1) := by decide +kernel
theorem smd_S_withdraw_1 : decode prog_1_method_8_code 1 = .ok (.getfield 51, 3) := by decide +kernel
theorem smd_S_withdraw_4 : decode prog_1_method_8_code 4 = .ok (.istore_n 1, 1) := by decide +kernel
theorem smd_S_withdraw_5 : decode prog_1_method_8_code 5 = .ok (.aload_n 0, 1) := by decide +kernel
theorem smd_S_withdraw_6 : decode prog_1_method_8_code 6 = .ok (.iconst 0, 1) := by decide +kernel
theorem smd_S_withdraw_7 : decode prog_1_method_8_code 7 = .ok (.putfield 51, 3) := by decide +kernel
theorem smd_S_withdraw_10 : decode prog_1_method_8_code 10 = .ok (.iload_n 1, 1) := by decide +kernel
theorem smd_S_withdraw_11 : decode prog_1_method_8_code 11 = .ok (.ireturn, 1) := by decide +kernel
theorem smd_S_changed_0 : decode prog_1_method_9_code 0 = .ok (.aload_n 0, 1) := by decide +kernel
theorem smd_S_changed_1 : decode prog_1_method_9_code 1 = .ok (.getfield 51, 3) := by decide +kernel
theorem smd_S_changed_4 : decode prog_1_method_9_code 4 = .ok (.ifCond .eq 24, 3) := by decide +kernel
theorem smd_S_changed_7 : decode prog_1_method_9_code 7 = .ok (.iload_n 1, 1) := by decide +kernel
theorem smd_S_changed_8 : decode prog_1_method_9_code 8 = .ok (.bipush 6, 2) := by decide +kernel
theorem smd_S_changed_10 : decode prog_1_method_9_code 10 = .ok (.invokestatic 44, 3) := by decide +kernel
theorem smd_S_changed_13 : decode prog_1_method_9_code 13 = .ok (.ifCond .eq 15, 3) := by decide +kernel
theorem smd_S_changed_16 : decode prog_1_method_9_code 16 = .ok (.aload_n 0, 1) := by decide +kernel
theorem smd_S_changed_17 : decode prog_1_method_9_code 17 = .ok (.iload_n 1, 1) := by decide +kernel
theorem smd_S_changed_18 : decode prog_1_method_9_code 18 = .ok (.invokevirtual 88, 3) := by decide +kernel
theorem smd_S_changed_21 : decode prog_1_method_9_code 21 = .ok (.ifCond .eq 7, 3) := by decide +kernel
theorem smd_S_changed_24 : decode prog_1_method_9_code 24 = .ok (.iconst 1, 1) := by decide +kernel
theorem smd_S_changed_25 : decode prog_1_method_9_code 25 = .ok (.goto 4, 3) := by decide +kernel
theorem smd_S_changed_28 : decode prog_1_method_9_code 28 = .ok (.iconst 0, 1) := by decide +kernel
theorem smd_S_changed_29 : decode prog_1_method_9_code 29 = .ok (.ireturn, 1) := by decide +kernel
theorem smd_S_blocker_0 : decode prog_1_method_10_code 0 = .ok (.aload_n 0, 1) := by decide +kernel
theorem smd_S_blocker_1 : decode prog_1_method_10_code 1 = .ok (.getfield 51, 3) := by decide +kernel
theorem smd_S_blocker_4 : decode prog_1_method_10_code 4 = .ok (.ifCond .eq 11, 3) := by decide +kernel
theorem smd_S_blocker_7 : decode prog_1_method_10_code 7 = .ok (.aload_n 0, 1) := by decide +kernel
theorem smd_S_blocker_8 : decode prog_1_method_10_code 8 = .ok (.iload_n 1, 1) := by decide +kernel
theorem smd_S_blocker_9 : decode prog_1_method_10_code 9 = .ok (.invokevirtual 92, 3) := by decide +kernel
theorem smd_S_blocker_12 : decode prog_1_method_10_code 12 = .ok (.goto 4, 3) := by decide +kernel
theorem smd_S_blocker_15 : decode prog_1_method_10_code 15 = .ok (.iconst 0, 1) := by decide +kernel
theorem smd_S_blocker_16 : decode prog_1_method_10_code 16 = .ok (.ireturn, 1) := by decide +kernel
theorem smd_S_attempt_0 : decode prog_1_method_11_code 0 = .ok (.iload_n 1, 1) := by decide +kernel
theorem smd_S_attempt_1 : decode prog_1_method_11_code 1 = .ok (.ifCond .ge 5, 3) := by decide +kernel
theorem smd_S_attempt_4 : decode prog_1_method_11_code 4 = .ok (.iconst (-1), 1) := by decide +kernel
theorem smd_S_attempt_5 : decode prog_1_method_11_code 5 = .ok (.ireturn, 1) := by decide +kernel
theorem smd_S_attempt_6 : decode prog_1_method_11_code 6 = .ok (.aload_n 0, 1) := by decide +kernel
theorem smd_S_attempt_7 : decode prog_1_method_11_code 7 = .ok (.getfield 51, 3) := by decide +kernel
theorem smd_S_attempt_10 : decode prog_1_method_11_code 10 = .ok (.ifCond .ne 5, 3) := by decide +kernel
theorem smd_S_attempt_13 : decode prog_1_method_11_code 13 = .ok (.iconst 3, 1) := by decide +kernel
theorem smd_S_attempt_14 : decode prog_1_method_11_code 14 = .ok (.ireturn, 1) := by decide +kernel
theorem smd_S_attempt_15 : decode prog_1_method_11_code 15 = .ok (.aload_n 0, 1) := by decide +kernel
theorem smd_S_attempt_16 : decode prog_1_method_11_code 16 = .ok (.iconst 1, 1) := by decide +kernel
theorem smd_S_attempt_17 : decode prog_1_method_11_code 17 = .ok (.invokevirtual 92, 3) := by decide +kernel
theorem smd_S_attempt_20 : decode prog_1_method_11_code 20 = .ok (.ifCond .eq 5, 3) := by decide +kernel
theorem smd_S_attempt_23 : decode prog_1_method_11_code 23 = .ok (.iconst 0, 1) := by decide +kernel
theorem smd_S_attempt_24 : decode prog_1_method_11_code 24 = .ok (.ireturn, 1) := by decide +kernel
theorem smd_S_attempt_25 : decode prog_1_method_11_code 25 = .ok (.aload_n 0, 1) := by decide +kernel
theorem smd_S_attempt_26 : decode prog_1_method_11_code 26 = .ok (.invokevirtual 96, 3) := by decide +kernel
theorem smd_S_attempt_29 : decode prog_1_method_11_code 29 = .ok (.pop, 1) := by decide +kernel
theorem smd_S_attempt_30 : decode prog_1_method_11_code 30 = .ok (.aload_n 0, 1) := by decide +kernel
theorem smd_S_attempt_31 : decode prog_1_method_11_code 31 = .ok (.getfield 29, 3) := by decide +kernel
theorem smd_S_attempt_34 : decode prog_1_method_11_code 34 = .ok (.aload_n 0, 1) := by decide +kernel
theorem smd_S_attempt_35 : decode prog_1_method_11_code 35 = .ok (.getfield 22, 3) := by decide +kernel
theorem smd_S_attempt_38 : decode prog_1_method_11_code 38 = .ok (.aload_n 0, 1) := by decide +kernel
theorem smd_S_attempt_39 : decode prog_1_method_11_code 39 = .ok (.getfield 16, 3) := by decide +kernel
theorem smd_S_attempt_42 : decode prog_1_method_11_code 42 = .ok (.iload_n 1, 1) := by decide +kernel
theorem smd_S_attempt_43 : decode prog_1_method_11_code 43 = .ok (.invokevirtual 99, 3) := by decide +kernel
theorem smd_S_attempt_46 : decode prog_1_method_11_code 46 = .ok (.ifCond .ne 5, 3) := by decide +kernel
theorem smd_S_attempt_49 : decode prog_1_method_11_code 49 = .ok (.iconst 2, 1) := by decide +kernel
theorem smd_S_attempt_50 : decode prog_1_method_11_code 50 = .ok (.ireturn, 1) := by decide +kernel
theorem smd_S_attempt_51 : decode prog_1_method_11_code 51 = .ok (.aload_n 0, 1) := by decide +kernel
theorem smd_S_attempt_52 : decode prog_1_method_11_code 52 = .ok (.invokevirtual 103, 3) := by decide +kernel
theorem smd_S_attempt_55 : decode prog_1_method_11_code 55 = .ok (.iconst 1, 1) := by decide +kernel
theorem smd_S_attempt_56 : decode prog_1_method_11_code 56 = .ok (.ireturn, 1) := by decide +kernel
theorem smd_S_version_0 : decode prog_1_method_12_code 0 = .ok (.aload_n 0, 1) := by decide +kernel
theorem smd_S_version_1 : decode prog_1_method_12_code 1 = .ok (.getfield 106, 3) := by decide +kernel
theorem smd_S_version_4 : decode prog_1_method_12_code 4 = .ok (.ireturn, 1) := by decide +kernel
theorem smd_S_spawn_0 : decode prog_1_method_13_code 0 = .ok (.aload_n 0, 1) := by decide +kernel
theorem smd_S_spawn_1 : decode prog_1_method_13_code 1 = .ok (.getfield 10, 3) := by decide +kernel
theorem smd_S_spawn_4 : decode prog_1_method_13_code 4 = .ok (.iload_n 1, 1) := by decide +kernel
theorem smd_S_spawn_5 : decode prog_1_method_13_code 5 = .ok (.invokevirtual 110, 3) := by decide +kernel
theorem smd_S_spawn_8 : decode prog_1_method_13_code 8 = .ok (.ifCond .ne 5, 3) := by decide +kernel
theorem smd_S_spawn_11 : decode prog_1_method_13_code 11 = .ok (.iconst (-1), 1) := by decide +kernel
theorem smd_S_spawn_12 : decode prog_1_method_13_code 12 = .ok (.ireturn, 1) := by decide +kernel
theorem smd_S_spawn_13 : decode prog_1_method_13_code 13 = .ok (.aload_n 0, 1) := by decide +kernel
theorem smd_S_spawn_14 : decode prog_1_method_13_code 14 = .ok (.getfield 113, 3) := by decide +kernel
theorem smd_S_spawn_17 : decode prog_1_method_13_code 17 = .ok (.bipush 6, 2) := by decide +kernel
theorem smd_S_spawn_19 : decode prog_1_method_13_code 19 = .ok (.if_icmp .lt 6, 3) := by decide +kernel
theorem smd_S_spawn_22 : decode prog_1_method_13_code 22 = .ok (.bipush (-3), 2) := by decide +kernel
theorem smd_S_spawn_24 : decode prog_1_method_13_code 24 = .ok (.ireturn, 1) := by decide +kernel
theorem smd_S_spawn_25 : decode prog_1_method_13_code 25 = .ok (.aload_n 0, 1) := by decide +kernel
theorem smd_S_spawn_26 : decode prog_1_method_13_code 26 = .ok (.getfield 39, 3) := by decide +kernel
theorem smd_S_spawn_29 : decode prog_1_method_13_code 29 = .ok (.aload_n 0, 1) := by decide +kernel
theorem smd_S_spawn_30 : decode prog_1_method_13_code 30 = .ok (.getfield 113, 3) := by decide +kernel
theorem smd_S_spawn_33 : decode prog_1_method_13_code 33 = .ok (.aaload, 1) := by decide +kernel
theorem smd_S_spawn_34 : decode prog_1_method_13_code 34 = .ok (.iload_n 1, 1) := by decide +kernel
theorem smd_S_spawn_35 : decode prog_1_method_13_code 35 = .ok (.iload_n 2, 1) := by decide +kernel
theorem smd_S_spawn_36 : decode prog_1_method_13_code 36 = .ok (.iconst 0, 1) := by decide +kernel
theorem smd_S_spawn_37 : decode prog_1_method_13_code 37 = .ok (.invokevirtual 116, 3) := by decide +kernel
theorem smd_S_spawn_40 : decode prog_1_method_13_code 40 = .ok (.aload_n 0, 1) := by decide +kernel
theorem smd_S_spawn_41 : decode prog_1_method_13_code 41 = .ok (.dup, 1) := by decide +kernel
theorem smd_S_spawn_42 : decode prog_1_method_13_code 42 = .ok (.getfield 113, 3) := by decide +kernel
theorem smd_S_spawn_45 : decode prog_1_method_13_code 45 = .ok (.iconst 1, 1) := by decide +kernel
theorem smd_S_spawn_46 : decode prog_1_method_13_code 46 = .ok (.iadd, 1) := by decide +kernel
theorem smd_S_spawn_47 : decode prog_1_method_13_code 47 = .ok (.putfield 113, 3) := by decide +kernel
theorem smd_S_spawn_50 : decode prog_1_method_13_code 50 = .ok (.aload_n 0, 1) := by decide +kernel
theorem smd_S_spawn_51 : decode prog_1_method_13_code 51 = .ok (.getfield 113, 3) := by decide +kernel
theorem smd_S_spawn_54 : decode prog_1_method_13_code 54 = .ok (.ireturn, 1) := by decide +kernel
theorem smd_S_step_0 : decode prog_1_method_14_code 0 = .ok (.aload_n 0, 1) := by decide +kernel
theorem smd_S_step_1 : decode prog_1_method_14_code 1 = .ok (.iload_n 1, 1) := by decide +kernel
theorem smd_S_step_2 : decode prog_1_method_14_code 2 = .ok (.invokevirtual 120, 3) := by decide +kernel
theorem smd_S_step_5 : decode prog_1_method_14_code 5 = .ok (.ifCond .eq 15, 3) := by decide +kernel
theorem smd_S_step_8 : decode prog_1_method_14_code 8 = .ok (.iload_n 2, 1) := by decide +kernel
theorem smd_S_step_9 : decode prog_1_method_14_code 9 = .ok (.iconst 1, 1) := by decide +kernel
theorem smd_S_step_10 : decode prog_1_method_14_code 10 = .ok (.if_icmp .lt 10, 3) := by decide +kernel
theorem smd_S_step_13 : decode prog_1_method_14_code 13 = .ok (.iload_n 2, 1) := by decide +kernel
theorem smd_S_step_14 : decode prog_1_method_14_code 14 = .ok (.sipush 200, 3) := by decide +kernel
theorem smd_S_step_17 : decode prog_1_method_14_code 17 = .ok (.if_icmp .le 5, 3) := by decide +kernel
theorem smd_S_step_20 : decode prog_1_method_14_code 20 = .ok (.iconst (-1), 1) := by decide +kernel
theorem smd_S_step_21 : decode prog_1_method_14_code 21 = .ok (.ireturn, 1) := by decide +kernel
theorem smd_S_step_22 : decode prog_1_method_14_code 22 = .ok (.aload_n 0, 1) := by decide +kernel
theorem smd_S_step_23 : decode prog_1_method_14_code 23 = .ok (.getfield 39, 3) := by decide +kernel
theorem smd_S_step_26 : decode prog_1_method_14_code 26 = .ok (.iload_n 1, 1) := by decide +kernel
theorem smd_S_step_27 : decode prog_1_method_14_code 27 = .ok (.iconst 1, 1) := by decide +kernel
theorem smd_S_step_28 : decode prog_1_method_14_code 28 = .ok (.isub, 1) := by decide +kernel
theorem smd_S_step_29 : decode prog_1_method_14_code 29 = .ok (.aaload, 1) := by decide +kernel
theorem smd_S_step_30 : decode prog_1_method_14_code 30 = .ok (.astore_n 3, 1) := by decide +kernel
theorem smd_S_step_31 : decode prog_1_method_14_code 31 = .ok (.aload_n 3, 1) := by decide +kernel
theorem smd_S_step_32 : decode prog_1_method_14_code 32 = .ok (.getfield 123, 3) := by decide +kernel
theorem smd_S_step_35 : decode prog_1_method_14_code 35 = .ok (.iconst 1, 1) := by decide +kernel
theorem smd_S_step_36 : decode prog_1_method_14_code 36 = .ok (.if_icmp .ne 8, 3) := by decide +kernel
theorem smd_S_step_39 : decode prog_1_method_14_code 39 = .ok (.aload_n 3, 1) := by decide +kernel
theorem smd_S_step_40 : decode prog_1_method_14_code 40 = .ok (.iconst 0, 1) := by decide +kernel
theorem smd_S_step_41 : decode prog_1_method_14_code 41 = .ok (.putfield 123, 3) := by decide +kernel
theorem smd_S_step_44 : decode prog_1_method_14_code 44 = .ok (.iconst 0, 1) := by decide +kernel
theorem smd_S_step_45 : decode prog_1_method_14_code 45 = .ok (.istore 4, 2) := by decide +kernel
theorem smd_S_step_47 : decode prog_1_method_14_code 47 = .ok (.iload 4, 2) := by decide +kernel
theorem smd_S_step_49 : decode prog_1_method_14_code 49 = .ok (.iload_n 2, 1) := by decide +kernel
theorem smd_S_step_50 : decode prog_1_method_14_code 50 = .ok (.if_icmp .ge 21, 3) := by decide +kernel
theorem smd_S_step_53 : decode prog_1_method_14_code 53 = .ok (.aload_n 3, 1) := by decide +kernel
theorem smd_S_step_54 : decode prog_1_method_14_code 54 = .ok (.getfield 123, 3) := by decide +kernel
theorem smd_S_step_57 : decode prog_1_method_14_code 57 = .ok (.ifCond .ne 14, 3) := by decide +kernel
theorem smd_S_step_60 : decode prog_1_method_14_code 60 = .ok (.aload_n 0, 1) := by decide +kernel
theorem smd_S_step_61 : decode prog_1_method_14_code 61 = .ok (.aload_n 3, 1) := by decide +kernel
theorem smd_S_step_62 : decode prog_1_method_14_code 62 = .ok (.invokevirtual 126, 3) := by decide +kernel
theorem smd_S_step_65 : decode prog_1_method_14_code 65 = .ok (.iinc 4 1, 3) := by decide +kernel
theorem smd_S_step_68 : decode prog_1_method_14_code 68 = .ok (.goto (-21), 3) := by decide +kernel
theorem smd_S_step_71 : decode prog_1_method_14_code 71 = .ok (.aload_n 3, 1) := by decide +kernel
theorem smd_S_step_72 : decode prog_1_method_14_code 72 = .ok (.getfield 123, 3) := by decide +kernel
theorem smd_S_step_75 : decode prog_1_method_14_code 75 = .ok (.ireturn, 1) := by decide +kernel
theorem smd_S_send_0 : decode prog_1_method_15_code 0 = .ok (.aload_n 0, 1) := by decide +kernel
theorem smd_S_send_1 : decode prog_1_method_15_code 1 = .ok (.iload_n 1, 1) := by decide +kernel
theorem smd_S_send_2 : decode prog_1_method_15_code 2 = .ok (.invokevirtual 120, 3) := by decide +kernel
theorem smd_S_send_5 : decode prog_1_method_15_code 5 = .ok (.ifCond .ne 5, 3) := by decide +kernel
theorem smd_S_send_8 : decode prog_1_method_15_code 8 = .ok (.iconst (-1), 1) := by decide +kernel
theorem smd_S_send_9 : decode prog_1_method_15_code 9 = .ok (.ireturn, 1) := by decide +kernel
theorem smd_S_send_10 : decode prog_1_method_15_code 10 = .ok (.aload_n 0, 1) := by decide +kernel
theorem smd_S_send_11 : decode prog_1_method_15_code 11 = .ok (.getfield 39, 3) := by decide +kernel
theorem smd_S_send_14 : decode prog_1_method_15_code 14 = .ok (.iload_n 1, 1) := by decide +kernel
theorem smd_S_send_15 : decode prog_1_method_15_code 15 = .ok (.iconst 1, 1) := by decide +kernel
theorem smd_S_send_16 : decode prog_1_method_15_code 16 = .ok (.isub, 1) := by decide +kernel
theorem smd_S_send_17 : decode prog_1_method_15_code 17 = .ok (.aaload, 1) := by decide +kernel
theorem smd_S_send_18 : decode prog_1_method_15_code 18 = .ok (.astore_n 3, 1) := by decide +kernel
theorem smd_S_send_19 : decode prog_1_method_15_code 19 = .ok (.aload_n 3, 1) := by decide +kernel
theorem smd_S_send_20 : decode prog_1_method_15_code 20 = .ok (.getfield 123, 3) := by decide +kernel
theorem smd_S_send_23 : decode prog_1_method_15_code 23 = .ok (.iconst 2, 1) := by decide +kernel
theorem smd_S_send_24 : decode prog_1_method_15_code 24 = .ok (.if_icmp .eq 11, 3) := by decide +kernel
theorem smd_S_send_27 : decode prog_1_method_15_code 27 = .ok (.aload_n 3, 1) := by decide +kernel
theorem smd_S_send_28 : decode prog_1_method_15_code 28 = .ok (.getfield 123, 3) := by decide +kernel
theorem smd_S_send_31 : decode prog_1_method_15_code 31 = .ok (.iconst 3, 1) := by decide +kernel
theorem smd_S_send_32 : decode prog_1_method_15_code 32 = .ok (.if_icmp .ne 6, 3) := by decide +kernel
theorem smd_S_send_35 : decode prog_1_method_15_code 35 = .ok (.bipush (-2), 2) := by decide +kernel
theorem smd_S_send_37 : decode prog_1_method_15_code 37 = .ok (.ireturn, 1) := by decide +kernel
theorem smd_S_send_38 : decode prog_1_method_15_code 38 = .ok (.aload_n 3, 1) := by decide +kernel
theorem smd_S_send_39 : decode prog_1_method_15_code 39 = .ok (.getfield 130, 3) := by decide +kernel
theorem smd_S_send_42 : decode prog_1_method_15_code 42 = .ok (.bipush 8, 2) := by decide +kernel
theorem smd_S_send_44 : decode prog_1_method_15_code 44 = .ok (.if_icmp .lt 6, 3) := by decide +kernel
theorem smd_S_send_47 : decode prog_1_method_15_code 47 = .ok (.bipush (-3), 2) := by decide +kernel
theorem smd_S_send_49 : decode prog_1_method_15_code 49 = .ok (.ireturn, 1) := by decide +kernel
theorem smd_S_send_50 : decode prog_1_method_15_code 50 = .ok (.aload_n 3, 1) := by decide +kernel
theorem smd_S_send_51 : decode prog_1_method_15_code 51 = .ok (.iload_n 2, 1) := by decide +kernel
theorem smd_S_send_52 : decode prog_1_method_15_code 52 = .ok (.invokevirtual 133, 3) := by decide +kernel
theorem smd_S_send_55 : decode prog_1_method_15_code 55 = .ok (.aload_n 3, 1) := by decide +kernel
theorem smd_S_send_56 : decode prog_1_method_15_code 56 = .ok (.getfield 130, 3) := by decide +kernel
theorem smd_S_send_59 : decode prog_1_method_15_code 59 = .ok (.ireturn, 1) := by decide +kernel
theorem smd_S_state_0 : decode prog_1_method_16_code 0 = .ok (.aload_n 0, 1) := by decide +kernel
theorem smd_S_state_1 : decode prog_1_method_16_code 1 = .ok (.iload_n 1, 1) := by decide +kernel
theorem smd_S_state_2 : decode prog_1_method_16_code 2 = .ok (.invokevirtual 120, 3) := by decide +kernel
theorem smd_S_state_5 : decode prog_1_method_16_code 5 = .ok (.ifCond .eq 17, 3) := by decide +kernel
theorem smd_S_state_8 : decode prog_1_method_16_code 8 = .ok (.aload_n 0, 1) := by decide +kernel
theorem smd_S_state_9 : decode prog_1_method_16_code 9 = .ok (.getfield 39, 3) := by decide +kernel
theorem smd_S_state_12 : decode prog_1_method_16_code 12 = .ok (.iload_n 1, 1) := by decide +kernel
theorem smd_S_state_13 : decode prog_1_method_16_code 13 = .ok (.iconst 1, 1) := by decide +kernel
theorem smd_S_state_14 : decode prog_1_method_16_code 14 = .ok (.isub, 1) := by decide +kernel
theorem smd_S_state_15 : decode prog_1_method_16_code 15 = .ok (.aaload, 1) := by decide +kernel
theorem smd_S_state_16 : decode prog_1_method_16_code 16 = .ok (.getfield 123, 3) := by decide +kernel
theorem smd_S_state_19 : decode prog_1_method_16_code 19 = .ok (.goto 4, 3) := by decide +kernel
theorem smd_S_state_22 : decode prog_1_method_16_code 22 = .ok (.iconst (-1), 1) := by decide +kernel
theorem smd_S_state_23 : decode prog_1_method_16_code 23 = .ok (.ireturn, 1) := by decide +kernel
theorem smd_S_result_0 : decode prog_1_method_17_code 0 = .ok (.aload_n 0, 1) := by decide +kernel
theorem smd_S_result_1 : decode prog_1_method_17_code 1 = .ok (.iload_n 1, 1) := by decide +kernel
theorem smd_S_result_2 : decode prog_1_method_17_code 2 = .ok (.invokevirtual 120, 3) := by decide +kernel
theorem smd_S_result_5 : decode prog_1_method_17_code 5 = .ok (.ifCond .eq 17, 3) := by decide +kernel
theorem smd_S_result_8 : decode prog_1_method_17_code 8 = .ok (.aload_n 0, 1) := by decide +kernel
theorem smd_S_result_9 : decode prog_1_method_17_code 9 = .ok (.getfield 39, 3) := by decide +kernel
theorem smd_S_result_12 : decode prog_1_method_17_code 12 = .ok (.iload_n 1, 1) := by decide +kernel
theorem smd_S_result_13 : decode prog_1_method_17_code 13 = .ok (.iconst 1, 1) := by decide +kernel
theorem smd_S_result_14 : decode prog_1_method_17_code 14 = .ok (.isub, 1) := by decide +kernel
theorem smd_S_result_15 : decode prog_1_method_17_code 15 = .ok (.aaload, 1) := by decide +kernel
theorem smd_S_result_16 : decode prog_1_method_17_code 16 = .ok (.getfield 136, 3) := by decide +kernel
theorem smd_S_result_19 : decode prog_1_method_17_code 19 = .ok (.goto 4, 3) := by decide +kernel
theorem smd_S_result_22 : decode prog_1_method_17_code 22 = .ok (.iconst 0, 1) := by decide +kernel
theorem smd_S_result_23 : decode prog_1_method_17_code 23 = .ok (.ireturn, 1) := by decide +kernel
theorem smd_S_frames_0 : decode prog_1_method_18_code 0 = .ok (.aload_n 0, 1) := by decide +kernel
theorem smd_S_frames_1 : decode prog_1_method_18_code 1 = .ok (.iload_n 1, 1) := by decide +kernel
theorem smd_S_frames_2 : decode prog_1_method_18_code 2 = .ok (.invokevirtual 120, 3) := by decide +kernel
theorem smd_S_frames_5 : decode prog_1_method_18_code 5 = .ok (.ifCond .eq 17, 3) := by decide +kernel
theorem smd_S_frames_8 : decode prog_1_method_18_code 8 = .ok (.aload_n 0, 1) := by decide +kernel
theorem smd_S_frames_9 : decode prog_1_method_18_code 9 = .ok (.getfield 39, 3) := by decide +kernel
theorem smd_S_frames_12 : decode prog_1_method_18_code 12 = .ok (.iload_n 1, 1) := by decide +kernel
theorem smd_S_frames_13 : decode prog_1_method_18_code 13 = .ok (.iconst 1, 1) := by decide +kernel
theorem smd_S_frames_14 : decode prog_1_method_18_code 14 = .ok (.isub, 1) := by decide +kernel
theorem smd_S_frames_15 : decode prog_1_method_18_code 15 = .ok (.aaload, 1) := by decide +kernel
theorem smd_S_frames_16 : decode prog_1_method_18_code 16 = .ok (.getfield 139, 3) := by decide +kernel
theorem smd_S_frames_19 : decode prog_1_method_18_code 19 = .ok (.goto 4, 3) := by decide +kernel
theorem smd_S_frames_22 : decode prog_1_method_18_code 22 = .ok (.iconst (-1), 1) := by decide +kernel
theorem smd_S_frames_23 : decode prog_1_method_18_code 23 = .ok (.ireturn, 1) := by decide +kernel
theorem smd_S_frame_0 : decode prog_1_method_19_code 0 = .ok (.aload_n 0, 1) := by decide +kernel
theorem smd_S_frame_1 : decode prog_1_method_19_code 1 = .ok (.iload_n 1, 1) := by decide +kernel
theorem smd_S_frame_2 : decode prog_1_method_19_code 2 = .ok (.invokevirtual 120, 3) := by decide +kernel
theorem smd_S_frame_5 : decode prog_1_method_19_code 5 = .ok (.ifCond .eq 21, 3) := by decide +kernel
theorem smd_S_frame_8 : decode prog_1_method_19_code 8 = .ok (.iload_n 2, 1) := by decide +kernel
theorem smd_S_frame_9 : decode prog_1_method_19_code 9 = .ok (.aload_n 0, 1) := by decide +kernel
theorem smd_S_frame_10 : decode prog_1_method_19_code 10 = .ok (.getfield 39, 3) := by decide +kernel
theorem smd_S_frame_13 : decode prog_1_method_19_code 13 = .ok (.iload_n 1, 1) := by decide +kernel
theorem smd_S_frame_14 : decode prog_1_method_19_code 14 = .ok (.iconst 1, 1) := by decide +kernel
theorem smd_S_frame_15 : decode prog_1_method_19_code 15 = .ok (.isub, 1) := by decide +kernel
theorem smd_S_frame_16 : decode prog_1_method_19_code 16 = .ok (.aaload, 1) := by decide +kernel
theorem smd_S_frame_17 : decode prog_1_method_19_code 17 = .ok (.getfield 139, 3) := by decide +kernel
theorem smd_S_frame_20 : decode prog_1_method_19_code 20 = .ok (.invokestatic 44, 3) := by decide +kernel
theorem smd_S_frame_23 : decode prog_1_method_19_code 23 = .ok (.ifCond .ne 5, 3) := by decide +kernel
theorem smd_S_frame_26 : decode prog_1_method_19_code 26 = .ok (.iconst (-1), 1) := by decide +kernel
theorem smd_S_frame_27 : decode prog_1_method_19_code 27 = .ok (.ireturn, 1) := by decide +kernel
theorem smd_S_frame_28 : decode prog_1_method_19_code 28 = .ok (.aload_n 0, 1) := by decide +kernel
theorem smd_S_frame_29 : decode prog_1_method_19_code 29 = .ok (.getfield 39, 3) := by decide +kernel
theorem smd_S_frame_32 : decode prog_1_method_19_code 32 = .ok (.iload_n 1, 1) := by decide +kernel
theorem smd_S_frame_33 : decode prog_1_method_19_code 33 = .ok (.iconst 1, 1) := by decide +kernel
theorem smd_S_frame_34 : decode prog_1_method_19_code 34 = .ok (.isub, 1) := by decide +kernel
theorem smd_S_frame_35 : decode prog_1_method_19_code 35 = .ok (.aaload, 1) := by decide +kernel
theorem smd_S_frame_36 : decode prog_1_method_19_code 36 = .ok (.astore 4, 2) := by decide +kernel
theorem smd_S_frame_38 : decode prog_1_method_19_code 38 = .ok (.iload_n 3, 1) := by decide +kernel
theorem smd_S_frame_39 : decode prog_1_method_19_code 39 = .ok (.tableswitch 63 0 4 #[33, 41, 49, 49, 49], 33) := by decide +kernel
theorem smd_S_frame_72 : decode prog_1_method_19_code 72 = .ok (.aload 4, 2) := by decide +kernel
theorem smd_S_frame_74 : decode prog_1_method_19_code 74 = .ok (.getfield 142, 3) := by decide +kernel
theorem smd_S_frame_77 : decode prog_1_method_19_code 77 = .ok (.iload_n 2, 1) := by decide +kernel
theorem smd_S_frame_78 : decode prog_1_method_19_code 78 = .ok (.iaload, 1) := by decide +kernel
theorem smd_S_frame_79 : decode prog_1_method_19_code 79 = .ok (.ireturn, 1) := by decide +kernel
theorem smd_S_frame_80 : decode prog_1_method_19_code 80 = .ok (.aload 4, 2) := by decide +kernel
theorem smd_S_frame_82 : decode prog_1_method_19_code 82 = .ok (.getfield 145, 3) := by decide +kernel
theorem smd_S_frame_85 : decode prog_1_method_19_code 85 = .ok (.iload_n 2, 1) := by decide +kernel
theorem smd_S_frame_86 : decode prog_1_method_19_code 86 = .ok (.iaload, 1) := by decide +kernel
theorem smd_S_frame_87 : decode prog_1_method_19_code 87 = .ok (.ireturn, 1) := by decide +kernel
theorem smd_S_frame_88 : decode prog_1_method_19_code 88 = .ok (.aload 4, 2) := by decide +kernel
theorem smd_S_frame_90 : decode prog_1_method_19_code 90 = .ok (.getfield 148, 3) := by decide +kernel
theorem smd_S_frame_93 : decode prog_1_method_19_code 93 = .ok (.iload_n 2, 1) := by decide +kernel
theorem smd_S_frame_94 : decode prog_1_method_19_code 94 = .ok (.iconst 3, 1) := by decide +kernel
theorem smd_S_frame_95 : decode prog_1_method_19_code 95 = .ok (.imul, 1) := by decide +kernel
theorem smd_S_frame_96 : decode prog_1_method_19_code 96 = .ok (.iload_n 3, 1) := by decide +kernel
theorem smd_S_frame_97 : decode prog_1_method_19_code 97 = .ok (.iadd, 1) := by decide +kernel
theorem smd_S_frame_98 : decode prog_1_method_19_code 98 = .ok (.iconst 2, 1) := by decide +kernel
theorem smd_S_frame_99 : decode prog_1_method_19_code 99 = .ok (.isub, 1) := by decide +kernel
theorem smd_S_frame_100 : decode prog_1_method_19_code 100 = .ok (.iaload, 1) := by decide +kernel
theorem smd_S_frame_101 : decode prog_1_method_19_code 101 = .ok (.ireturn, 1) := by decide +kernel
theorem smd_S_frame_102 : decode prog_1_method_19_code 102 = .ok (.iconst (-1), 1) := by decide +kernel
theorem smd_S_frame_103 : decode prog_1_method_19_code 103 = .ok (.ireturn, 1) := by decide +kernel
theorem smd_S_global_0 : decode prog_1_method_20_code 0 = .ok (.iload_n 1, 1) := by decide +kernel
theorem smd_S_global_1 : decode prog_1_method_20_code 1 = .ok (.iconst 4, 1) := by decide +kernel
theorem smd_S_global_2 : decode prog_1_method_20_code 2 = .ok (.invokestatic 44, 3) := by decide +kernel
theorem smd_S_global_5 : decode prog_1_method_20_code 5 = .ok (.ifCond .eq 12, 3) := by decide +kernel
theorem smd_S_global_8 : decode prog_1_method_20_code 8 = .ok (.aload_n 0, 1) := by decide +kernel
theorem smd_S_global_9 : decode prog_1_method_20_code 9 = .ok (.getfield 33, 3) := by decide +kernel
theorem smd_S_global_12 : decode prog_1_method_20_code 12 = .ok (.iload_n 1, 1) := by decide +kernel
theorem smd_S_global_13 : decode prog_1_method_20_code 13 = .ok (.iaload, 1) := by decide +kernel
theorem smd_S_global_14 : decode prog_1_method_20_code 14 = .ok (.goto 4, 3) := by decide +kernel
theorem smd_S_global_17 : decode prog_1_method_20_code 17 = .ok (.iconst 0, 1) := by decide +kernel
theorem smd_S_global_18 : decode prog_1_method_20_code 18 = .ok (.ireturn, 1) := by decide +kernel
theorem smd_S_typeOf_0 : decode prog_1_method_21_code 0 = .ok (.aload_n 0, 1) := by decide +kernel
theorem smd_S_typeOf_1 : decode prog_1_method_21_code 1 = .ok (.getfield 29, 3) := by decide +kernel
theorem smd_S_typeOf_4 : decode prog_1_method_21_code 4 = .ok (.iload_n 1, 1) := by decide +kernel
theorem smd_S_typeOf_5 : decode prog_1_method_21_code 5 = .ok (.invokevirtual 151, 3) := by decide +kernel
theorem smd_S_typeOf_8 : decode prog_1_method_21_code 8 = .ok (.ifCond .eq 15, 3) := by decide +kernel
theorem smd_S_typeOf_11 : decode prog_1_method_21_code 11 = .ok (.aload_n 0, 1) := by decide +kernel
theorem smd_S_typeOf_12 : decode prog_1_method_21_code 12 = .ok (.getfield 29, 3) := by decide +kernel
theorem smd_S_typeOf_15 : decode prog_1_method_21_code 15 = .ok (.getfield 154, 3) := by decide +kernel
theorem smd_S_typeOf_18 : decode prog_1_method_21_code 18 = .ok (.iload_n 1, 1) := by decide +kernel
theorem smd_S_typeOf_19 : decode prog_1_method_21_code 19 = .ok (.iaload, 1) := by decide +kernel
theorem smd_S_typeOf_20 : decode prog_1_method_21_code 20 = .ok (.goto 4, 3) := by decide +kernel
theorem smd_S_typeOf_23 : decode prog_1_method_21_code 23 = .ok (.iconst (-1), 1) := by decide +kernel
theorem smd_S_typeOf_24 : decode prog_1_method_21_code 24 = .ok (.ireturn, 1) := by decide +kernel
theorem smd_S_field_0 : decode prog_1_method_22_code 0 = .ok (.aload_n 0, 1) := by decide +kernel
theorem smd_S_field_1 : decode prog_1_method_22_code 1 = .ok (.getfield 29, 3) := by decide +kernel
theorem smd_S_field_4 : decode prog_1_method_22_code 4 = .ok (.iload_n 1, 1) := by decide +kernel
theorem smd_S_field_5 : decode prog_1_method_22_code 5 = .ok (.invokevirtual 151, 3) := by decide +kernel
theorem smd_S_field_8 : decode prog_1_method_22_code 8 = .ok (.ifCond .eq 27, 3) := by decide +kernel
theorem smd_S_field_11 : decode prog_1_method_22_code 11 = .ok (.iload_n 2, 1) := by decide +kernel
theorem smd_S_field_12 : decode prog_1_method_22_code 12 = .ok (.iconst 4, 1) := by decide +kernel
theorem smd_S_field_13 : decode prog_1_method_22_code 13 = .ok (.invokestatic 44, 3) := by decide +kernel
theorem smd_S_field_16 : decode prog_1_method_22_code 16 = .ok (.ifCond .eq 19, 3) := by decide +kernel
theorem smd_S_field_19 : decode prog_1_method_22_code 19 = .ok (.aload_n 0, 1) := by decide +kernel
theorem smd_S_field_20 : decode prog_1_method_22_code 20 = .ok (.getfield 29, 3) := by decide +kernel
theorem smd_S_field_23 : decode prog_1_method_22_code 23 = .ok (.getfield 157, 3) := by decide +kernel
theorem smd_S_field_26 : decode prog_1_method_22_code 26 = .ok (.iload_n 1, 1) := by decide +kernel
theorem smd_S_field_27 : decode prog_1_method_22_code 27 = .ok (.iconst 4, 1) := by decide +kernel
theorem smd_S_field_28 : decode prog_1_method_22_code 28 = .ok (.imul, 1) := by decide +kernel
theorem smd_S_field_29 : decode prog_1_method_22_code 29 = .ok (.iload_n 2, 1) := by decide +kernel
theorem smd_S_field_30 : decode prog_1_method_22_code 30 = .ok (.iadd, 1) := by decide +kernel
theorem smd_S_field_31 : decode prog_1_method_22_code 31 = .ok (.iaload, 1) := by decide +kernel
theorem smd_S_field_32 : decode prog_1_method_22_code 32 = .ok (.goto 4, 3) := by decide +kernel
theorem smd_S_field_35 : decode prog_1_method_22_code 35 = .ok (.iconst 0, 1) := by decide +kernel
theorem smd_S_field_36 : decode prog_1_method_22_code 36 = .ok (.ireturn, 1) := by decide +kernel
theorem smd_S_heap_0 : decode prog_1_method_23_code 0 = .ok (.aload_n 0, 1) := by decide +kernel
theorem smd_S_heap_1 : decode prog_1_method_23_code 1 = .ok (.getfield 29, 3) := by decide +kernel
theorem smd_S_heap_4 : decode prog_1_method_23_code 4 = .ok (.invokevirtual 160, 3) := by decide +kernel
theorem smd_S_heap_7 : decode prog_1_method_23_code 7 = .ok (.ireturn, 1) := by decide +kernel
theorem smd_S_collect_0 : decode prog_1_method_24_code 0 = .ok (.aload_n 0, 1) := by decide +kernel
theorem smd_S_collect_1 : decode prog_1_method_24_code 1 = .ok (.invokevirtual 96, 3) := by decide +kernel
theorem smd_S_collect_4 : decode prog_1_method_24_code 4 = .ok (.ireturn, 1) := by decide +kernel
theorem smd_S_isWithin_0 : decode prog_1_method_25_code 0 = .ok (.iload_n 0, 1) := by decide +kernel
theorem smd_S_isWithin_1 : decode prog_1_method_25_code 1 = .ok (.ifCond .lt 12, 3) := by decide +kernel
theorem smd_S_isWithin_4 : decode prog_1_method_25_code 4 = .ok (.iload_n 0, 1) := by decide +kernel
theorem smd_S_isWithin_5 : decode prog_1_method_25_code 5 = .ok (.iload_n 1, 1) := by decide +kernel
theorem smd_S_isWithin_6 : decode prog_1_method_25_code 6 = .ok (.if_icmp .ge 7, 3) := by decide +kernel
theorem smd_S_isWithin_9 : decode prog_1_method_25_code 9 = .ok (.iconst 1, 1) := by decide +kernel
theorem smd_S_isWithin_10 : decode prog_1_method_25_code 10 = .ok (.goto 4, 3) := by decide +kernel
theorem smd_S_isWithin_13 : decode prog_1_method_25_code 13 = .ok (.iconst 0, 1) := by decide +kernel
theorem smd_S_isWithin_14 : decode prog_1_method_25_code 14 = .ok (.ireturn, 1) := by decide +kernel
theorem smd_S_isTask_0 : decode prog_1_method_26_code 0 = .ok (.iload_n 1, 1) := by decide +kernel
theorem smd_S_isTask_1 : decode prog_1_method_26_code 1 = .ok (.iconst 1, 1) := by decide +kernel
theorem smd_S_isTask_2 : decode prog_1_method_26_code 2 = .ok (.if_icmp .lt 15, 3) := by decide +kernel
theorem smd_S_isTask_5 : decode prog_1_method_26_code 5 = .ok (.iload_n 1, 1) := by decide +kernel
theorem smd_S_isTask_6 : decode prog_1_method_26_code 6 = .ok (.aload_n 0, 1) := by decide +kernel
theorem smd_S_isTask_7 : decode prog_1_method_26_code 7 = .ok (.getfield 113, 3) := by decide +kernel
theorem smd_S_isTask_10 : decode prog_1_method_26_code 10 = .ok (.if_icmp .gt 7, 3) := by decide +kernel
theorem smd_S_isTask_13 : decode prog_1_method_26_code 13 = .ok (.iconst 1, 1) := by decide +kernel
theorem smd_S_isTask_14 : decode prog_1_method_26_code 14 = .ok (.goto 4, 3) := by decide +kernel
theorem smd_S_isTask_17 : decode prog_1_method_26_code 17 = .ok (.iconst 0, 1) := by decide +kernel
theorem smd_S_isTask_18 : decode prog_1_method_26_code 18 = .ok (.ireturn, 1) := by decide +kernel
theorem smd_S_draftChanges_0 : decode prog_1_method_27_code 0 = .ok (.aload_n 0, 1) := by decide +kernel
theorem smd_S_draftChanges_1 : decode prog_1_method_27_code 1 = .ok (.getfield 16, 3) := by decide +kernel
theorem smd_S_draftChanges_4 : decode prog_1_method_27_code 4 = .ok (.aload_n 0, 1) := by decide +kernel
theorem smd_S_draftChanges_5 : decode prog_1_method_27_code 5 = .ok (.getfield 10, 3) := by decide +kernel
theorem smd_S_draftChanges_8 : decode prog_1_method_27_code 8 = .ok (.iload_n 1, 1) := by decide +kernel
theorem smd_S_draftChanges_9 : decode prog_1_method_27_code 9 = .ok (.invokevirtual 163, 3) := by decide +kernel
theorem smd_S_draftChanges_12 : decode prog_1_method_27_code 12 = .ok (.ifCond .eq 21, 3) := by decide +kernel
theorem smd_S_draftChanges_15 : decode prog_1_method_27_code 15 = .ok (.aload_n 0, 1) := by decide +kernel
theorem smd_S_draftChanges_16 : decode prog_1_method_27_code 16 = .ok (.getfield 10, 3) := by decide +kernel
theorem smd_S_draftChanges_19 : decode prog_1_method_27_code 19 = .ok (.iload_n 1, 1) := by decide +kernel
theorem smd_S_draftChanges_20 : decode prog_1_method_27_code 20 = .ok (.aload_n 0, 1) := by decide +kernel
theorem smd_S_draftChanges_21 : decode prog_1_method_27_code 21 = .ok (.getfield 22, 3) := by decide +kernel
theorem smd_S_draftChanges_24 : decode prog_1_method_27_code 24 = .ok (.getfield 66, 3) := by decide +kernel
theorem smd_S_draftChanges_27 : decode prog_1_method_27_code 27 = .ok (.invokevirtual 167, 3) := by decide +kernel
theorem smd_S_draftChanges_30 : decode prog_1_method_27_code 30 = .ok (.ifCond .eq 7, 3) := by decide +kernel
theorem smd_S_draftChanges_33 : decode prog_1_method_27_code 33 = .ok (.iconst 1, 1) := by decide +kernel
theorem smd_S_draftChanges_34 : decode prog_1_method_27_code 34 = .ok (.goto 4, 3) := by decide +kernel
theorem smd_S_draftChanges_37 : decode prog_1_method_27_code 37 = .ok (.iconst 0, 1) := by decide +kernel
theorem smd_S_draftChanges_38 : decode prog_1_method_27_code 38 = .ok (.ireturn, 1) := by decide +kernel
theorem smd_S_firstTaskInTheWay_0 : decode prog_1_method_28_code 0 = .ok (.iload_n 1, 1) := by decide +kernel
theorem smd_S_firstTaskInTheWay_1 : decode prog_1_method_28_code 1 = .ok (.iconst 1, 1) := by decide +kernel
theorem smd_S_firstTaskInTheWay_2 : decode prog_1_method_28_code 2 = .ok (.invokestatic 171, 3) := by decide +kernel
theorem smd_S_firstTaskInTheWay_5 : decode prog_1_method_28_code 5 = .ok (.istore_n 2, 1) := by decide +kernel
theorem smd_S_firstTaskInTheWay_6 : decode prog_1_method_28_code 6 = .ok (.iload_n 2, 1) := by decide +kernel
theorem smd_S_firstTaskInTheWay_7 : decode prog_1_method_28_code 7 = .ok (.aload_n 0, 1) := by decide +kernel
theorem smd_S_firstTaskInTheWay_8 : decode prog_1_method_28_code 8 = .ok (.getfield 113, 3) := by decide +kernel
theorem smd_S_firstTaskInTheWay_11 : decode prog_1_method_28_code 11 = .ok (.if_icmp .gt 26, 3) := by decide +kernel
theorem smd_S_firstTaskInTheWay_14 : decode prog_1_method_28_code 14 = .ok (.aload_n 0, 1) := by decide +kernel
theorem smd_S_firstTaskInTheWay_15 : decode prog_1_method_28_code 15 = .ok (.aload_n 0, 1) := by decide +kernel
theorem smd_S_firstTaskInTheWay_16 : decode prog_1_method_28_code 16 = .ok (.getfield 39, 3) := by decide +kernel
theorem smd_S_firstTaskInTheWay_19 : decode prog_1_method_28_code 19 = .ok (.iload_n 2, 1) := by decide +kernel
theorem smd_S_firstTaskInTheWay_20 : decode prog_1_method_28_code 20 = .ok (.iconst 1, 1) := by decide +kernel
theorem smd_S_firstTaskInTheWay_21 : decode prog_1_method_28_code 21 = .ok (.isub, 1) := by decide +kernel
theorem smd_S_firstTaskInTheWay_22 : decode prog_1_method_28_code 22 = .ok (.aaload, 1) := by decide +kernel
theorem smd_S_firstTaskInTheWay_23 : decode prog_1_method_28_code 23 = .ok (.invokevirtual 177, 3) := by decide +kernel
theorem smd_S_firstTaskInTheWay_26 : decode prog_1_method_28_code 26 = .ok (.ifCond .eq 5, 3) := by decide +kernel
theorem smd_S_firstTaskInTheWay_29 : decode prog_1_method_28_code 29 = .ok (.iload_n 2, 1) := by decide +kernel
theorem smd_S_firstTaskInTheWay_30 : decode prog_1_method_28_code 30 = .ok (.ireturn, 1) := by decide +kernel
theorem smd_S_firstTaskInTheWay_31 : decode prog_1_method_28_code 31 = .ok (.iinc 2 1, 3) := by decide +kernel
theorem smd_S_firstTaskInTheWay_34 : decode prog_1_method_28_code 34 = .ok (.goto (-28), 3) := by decide +kernel
theorem smd_S_firstTaskInTheWay_37 : decode prog_1_method_28_code 37 = .ok (.iconst 0, 1) := by decide +kernel
theorem smd_S_firstTaskInTheWay_38 : decode prog_1_method_28_code 38 = .ok (.ireturn, 1) := by decide +kernel
theorem smd_S_isInTheWay_0 : decode prog_1_method_29_code 0 = .ok (.iconst 0, 1) := by decide +kernel
theorem smd_S_isInTheWay_1 : decode prog_1_method_29_code 1 = .ok (.istore_n 2, 1) := by decide +kernel
theorem smd_S_isInTheWay_2 : decode prog_1_method_29_code 2 = .ok (.iload_n 2, 1) := by decide +kernel
theorem smd_S_isInTheWay_3 : decode prog_1_method_29_code 3 = .ok (.aload_n 1, 1) := by decide +kernel
theorem smd_S_isInTheWay_4 : decode prog_1_method_29_code 4 = .ok (.getfield 139, 3) := by decide +kernel
theorem smd_S_isInTheWay_7 : decode prog_1_method_29_code 7 = .ok (.if_icmp .ge 53, 3) := by decide +kernel
theorem smd_S_isInTheWay_10 : decode prog_1_method_29_code 10 = .ok (.iload_n 2, 1) := by decide +kernel
theorem smd_S_isInTheWay_11 : decode prog_1_method_29_code 11 = .ok (.aload_n 1, 1) := by decide +kernel
theorem smd_S_isInTheWay_12 : decode prog_1_method_29_code 12 = .ok (.getfield 139, 3) := by decide +kernel
theorem smd_S_isInTheWay_15 : decode prog_1_method_29_code 15 = .ok (.iconst 1, 1) := by decide +kernel
theorem smd_S_isInTheWay_16 : decode prog_1_method_29_code 16 = .ok (.isub, 1) := by decide +kernel
theorem smd_S_isInTheWay_17 : decode prog_1_method_29_code 17 = .ok (.if_icmp .ne 16, 3) := by decide +kernel
theorem smd_S_isInTheWay_20 : decode prog_1_method_29_code 20 = .ok (.aload_n 0, 1) := by decide +kernel
theorem smd_S_isInTheWay_21 : decode prog_1_method_29_code 21 = .ok (.aload_n 1, 1) := by decide +kernel
theorem smd_S_isInTheWay_22 : decode prog_1_method_29_code 22 = .ok (.invokevirtual 181, 3) := by decide +kernel
theorem smd_S_isInTheWay_25 : decode prog_1_method_29_code 25 = .ok (.iconst (-1), 1) := by decide +kernel
theorem smd_S_isInTheWay_26 : decode prog_1_method_29_code 26 = .ok (.if_icmp .eq 7, 3) := by decide +kernel
theorem smd_S_isInTheWay_29 : decode prog_1_method_29_code 29 = .ok (.iconst 1, 1) := by decide +kernel
theorem smd_S_isInTheWay_30 : decode prog_1_method_29_code 30 = .ok (.goto 4, 3) := by decide +kernel
theorem smd_S_isInTheWay_33 : decode prog_1_method_29_code 33 = .ok (.iconst 0, 1) := by decide +kernel
theorem smd_S_isInTheWay_34 : decode prog_1_method_29_code 34 = .ok (.istore_n 3, 1) := by decide +kernel
theorem smd_S_isInTheWay_35 : decode prog_1_method_29_code 35 = .ok (.aload_n 0, 1) := by decide +kernel
theorem smd_S_isInTheWay_36 : decode prog_1_method_29_code 36 = .ok (.aload_n 1, 1) := by decide +kernel
theorem smd_S_isInTheWay_37 : decode prog_1_method_29_code 37 = .ok (.getfield 142, 3) := by decide +kernel
theorem smd_S_isInTheWay_40 : decode prog_1_method_29_code 40 = .ok (.iload_n 2, 1) := by decide +kernel
theorem smd_S_isInTheWay_41 : decode prog_1_method_29_code 41 = .ok (.iaload, 1) := by decide +kernel
theorem smd_S_isInTheWay_42 : decode prog_1_method_29_code 42 = .ok (.invokevirtual 88, 3) := by decide +kernel
theorem smd_S_isInTheWay_45 : decode prog_1_method_29_code 45 = .ok (.ifCond .eq 9, 3) := by decide +kernel
theorem smd_S_isInTheWay_48 : decode prog_1_method_29_code 48 = .ok (.iload_n 3, 1) := by decide +kernel
theorem smd_S_isInTheWay_49 : decode prog_1_method_29_code 49 = .ok (.ifCond .ne 5, 3) := by decide +kernel
theorem smd_S_isInTheWay_52 : decode prog_1_method_29_code 52 = .ok (.iconst 1, 1) := by decide +kernel
theorem smd_S_isInTheWay_53 : decode prog_1_method_29_code 53 = .ok (.ireturn, 1) := by decide +kernel
theorem smd_S_isInTheWay_54 : decode prog_1_method_29_code 54 = .ok (.iinc 2 1, 3) := by decide +kernel
theorem smd_S_isInTheWay_57 : decode prog_1_method_29_code 57 = .ok (.goto (-55), 3) := by decide +kernel
theorem smd_S_isInTheWay_60 : decode prog_1_method_29_code 60 = .ok (.iconst 0, 1) := by decide +kernel
theorem smd_S_isInTheWay_61 : decode prog_1_method_29_code 61 = .ok (.ireturn, 1) := by decide +kernel
theorem smd_S_placeInDraft_0 : decode prog_1_method_30_code 0 = .ok (.aload_n 1, 1) := by decide +kernel
theorem smd_S_placeInDraft_1 : decode prog_1_method_30_code 1 = .ok (.getfield 142, 3) := by decide +kernel
theorem smd_S_placeInDraft_4 : decode prog_1_method_30_code 4 = .ok (.aload_n 1, 1) := by decide +kernel
theorem smd_S_placeInDraft_5 : decode prog_1_method_30_code 5 = .ok (.getfield 139, 3) := by decide +kernel
theorem smd_S_placeInDraft_8 : decode prog_1_method_30_code 8 = .ok (.iconst 1, 1) := by decide +kernel
theorem smd_S_placeInDraft_9 : decode prog_1_method_30_code 9 = .ok (.isub, 1) := by decide +kernel
theorem smd_S_placeInDraft_10 : decode prog_1_method_30_code 10 = .ok (.iaload, 1) := by decide +kernel
theorem smd_S_placeInDraft_11 : decode prog_1_method_30_code 11 = .ok (.istore_n 2, 1) := by decide +kernel
theorem smd_S_placeInDraft_12 : decode prog_1_method_30_code 12 = .ok (.iload_n 2, 1) := by decide +kernel
theorem smd_S_placeInDraft_13 : decode prog_1_method_30_code 13 = .ok (.aload_n 1, 1) := by decide +kernel
theorem smd_S_placeInDraft_14 : decode prog_1_method_30_code 14 = .ok (.getfield 145, 3) := by decide +kernel
theorem smd_S_placeInDraft_17 : decode prog_1_method_30_code 17 = .ok (.aload_n 1, 1) := by decide +kernel
theorem smd_S_placeInDraft_18 : decode prog_1_method_30_code 18 = .ok (.getfield 139, 3) := by decide +kernel
theorem smd_S_placeInDraft_21 : decode prog_1_method_30_code 21 = .ok (.iconst 1, 1) := by decide +kernel
theorem smd_S_placeInDraft_22 : decode prog_1_method_30_code 22 = .ok (.isub, 1) := by decide +kernel
theorem smd_S_placeInDraft_23 : decode prog_1_method_30_code 23 = .ok (.iaload, 1) := by decide +kernel
theorem smd_S_placeInDraft_24 : decode prog_1_method_30_code 24 = .ok (.invokestatic 185, 3) := by decide +kernel
theorem smd_S_placeInDraft_27 : decode prog_1_method_30_code 27 = .ok (.istore_n 3, 1) := by decide +kernel
theorem smd_S_placeInDraft_28 : decode prog_1_method_30_code 28 = .ok (.aload_n 0, 1) := by decide +kernel
theorem smd_S_placeInDraft_29 : decode prog_1_method_30_code 29 = .ok (.getfield 10, 3) := by decide +kernel
theorem smd_S_placeInDraft_32 : decode prog_1_method_30_code 32 = .ok (.getfield 188, 3) := by decide +kernel
theorem smd_S_placeInDraft_35 : decode prog_1_method_30_code 35 = .ok (.iload_n 3, 1) := by decide +kernel
theorem smd_S_placeInDraft_36 : decode prog_1_method_30_code 36 = .ok (.iaload, 1) := by decide +kernel
theorem smd_S_placeInDraft_37 : decode prog_1_method_30_code 37 = .ok (.bipush 12, 2) := by decide +kernel
theorem smd_S_placeInDraft_39 : decode prog_1_method_30_code 39 = .ok (.if_icmp .ne 23, 3) := by decide +kernel
theorem smd_S_placeInDraft_42 : decode prog_1_method_30_code 42 = .ok (.aload_n 0, 1) := by decide +kernel
theorem smd_S_placeInDraft_43 : decode prog_1_method_30_code 43 = .ok (.getfield 16, 3) := by decide +kernel
theorem smd_S_placeInDraft_46 : decode prog_1_method_30_code 46 = .ok (.iload_n 2, 1) := by decide +kernel
theorem smd_S_placeInDraft_47 : decode prog_1_method_30_code 47 = .ok (.aload_n 0, 1) := by decide +kernel
theorem smd_S_placeInDraft_48 : decode prog_1_method_30_code 48 = .ok (.getfield 10, 3) := by decide +kernel
theorem smd_S_placeInDraft_51 : decode prog_1_method_30_code 51 = .ok (.getfield 191, 3) := by decide +kernel
theorem smd_S_placeInDraft_54 : decode prog_1_method_30_code 54 = .ok (.iload_n 3, 1) := by decide +kernel
theorem smd_S_placeInDraft_55 : decode prog_1_method_30_code 55 = .ok (.iaload, 1) := by decide +kernel
theorem smd_S_placeInDraft_56 : decode prog_1_method_30_code 56 = .ok (.invokevirtual 194, 3) := by decide +kernel
theorem smd_S_placeInDraft_59 : decode prog_1_method_30_code 59 = .ok (.goto 4, 3) := by decide +kernel
theorem smd_S_placeInDraft_62 : decode prog_1_method_30_code 62 = .ok (.iconst (-1), 1) := by decide +kernel
theorem smd_S_placeInDraft_63 : decode prog_1_method_30_code 63 = .ok (.ireturn, 1) := by decide +kernel
theorem smd_S_takeThePlace_0 : decode prog_1_method_31_code 0 = .ok (.aload_n 0, 1) := by decide +kernel
theorem smd_S_takeThePlace_1 : decode prog_1_method_31_code 1 = .ok (.invokevirtual 197, 3) := by decide +kernel
theorem smd_S_takeThePlace_4 : decode prog_1_method_31_code 4 = .ok (.aload_n 0, 1) := by decide +kernel
theorem smd_S_takeThePlace_5 : decode prog_1_method_31_code 5 = .ok (.getfield 10, 3) := by decide +kernel
theorem smd_S_takeThePlace_8 : decode prog_1_method_31_code 8 = .ok (.aload_n 0, 1) := by decide +kernel
theorem smd_S_takeThePlace_9 : decode prog_1_method_31_code 9 = .ok (.getfield 16, 3) := by decide +kernel
theorem smd_S_takeThePlace_12 : decode prog_1_method_31_code 12 = .ok (.invokevirtual 73, 3) := by decide +kernel
theorem smd_S_takeThePlace_15 : decode prog_1_method_31_code 15 = .ok (.aload_n 0, 1) := by decide +kernel
theorem smd_S_takeThePlace_16 : decode prog_1_method_31_code 16 = .ok (.getfield 22, 3) := by decide +kernel
theorem smd_S_takeThePlace_19 : decode prog_1_method_31_code 19 = .ok (.invokevirtual 77, 3) := by decide +kernel
theorem smd_S_takeThePlace_22 : decode prog_1_method_31_code 22 = .ok (.aload_n 0, 1) := by decide +kernel
theorem smd_S_takeThePlace_23 : decode prog_1_method_31_code 23 = .ok (.dup, 1) := by decide +kernel
theorem smd_S_takeThePlace_24 : decode prog_1_method_31_code 24 = .ok (.getfield 106, 3) := by decide +kernel
theorem smd_S_takeThePlace_27 : decode prog_1_method_31_code 27 = .ok (.iconst 1, 1) := by decide +kernel
theorem smd_S_takeThePlace_28 : decode prog_1_method_31_code 28 = .ok (.iadd, 1) := by decide +kernel
theorem smd_S_takeThePlace_29 : decode prog_1_method_31_code 29 = .ok (.putfield 106, 3) := by decide +kernel
theorem smd_S_takeThePlace_32 : decode prog_1_method_31_code 32 = .ok (.aload_n 0, 1) := by decide +kernel
theorem smd_S_takeThePlace_33 : decode prog_1_method_31_code 33 = .ok (.iconst 0, 1) := by decide +kernel
theorem smd_S_takeThePlace_34 : decode prog_1_method_31_code 34 = .ok (.putfield 51, 3) := by decide +kernel
theorem smd_S_takeThePlace_37 : decode prog_1_method_31_code 37 = .ok (.return_, 1) := by decide +kernel
theorem smd_S_moveFrames_0 : decode prog_1_method_32_code 0 = .ok (.iconst 0, 1) := by decide +kernel
theorem smd_S_moveFrames_1 : decode prog_1_method_32_code 1 = .ok (.istore_n 1, 1) := by decide +kernel
theorem smd_S_moveFrames_2 : decode prog_1_method_32_code 2 = .ok (.iload_n 1, 1) := by decide +kernel
theorem smd_S_moveFrames_3 : decode prog_1_method_32_code 3 = .ok (.aload_n 0, 1) := by decide +kernel
theorem smd_S_moveFrames_4 : decode prog_1_method_32_code 4 = .ok (.getfield 113, 3) := by decide +kernel
theorem smd_S_moveFrames_7 : decode prog_1_method_32_code 7 = .ok (.if_icmp .ge 57, 3) := by decide +kernel
theorem smd_S_moveFrames_10 : decode prog_1_method_32_code 10 = .ok (.aload_n 0, 1) := by decide +kernel
theorem smd_S_moveFrames_11 : decode prog_1_method_32_code 11 = .ok (.getfield 39, 3) := by decide +kernel
theorem smd_S_moveFrames_14 : decode prog_1_method_32_code 14 = .ok (.iload_n 1, 1) := by decide +kernel
theorem smd_S_moveFrames_15 : decode prog_1_method_32_code 15 = .ok (.aaload, 1) := by decide +kernel
theorem smd_S_moveFrames_16 : decode prog_1_method_32_code 16 = .ok (.astore_n 2, 1) := by decide +kernel
theorem smd_S_moveFrames_17 : decode prog_1_method_32_code 17 = .ok (.aload_n 2, 1) := by decide +kernel
theorem smd_S_moveFrames_18 : decode prog_1_method_32_code 18 = .ok (.getfield 139, 3) := by decide +kernel
theorem smd_S_moveFrames_21 : decode prog_1_method_32_code 21 = .ok (.ifCond .le 37, 3) := by decide +kernel
theorem smd_S_moveFrames_24 : decode prog_1_method_32_code 24 = .ok (.aload_n 0, 1) := by decide +kernel
theorem smd_S_moveFrames_25 : decode prog_1_method_32_code 25 = .ok (.aload_n 2, 1) := by decide +kernel
theorem smd_S_moveFrames_26 : decode prog_1_method_32_code 26 = .ok (.getfield 142, 3) := by decide +kernel
theorem smd_S_moveFrames_29 : decode prog_1_method_32_code 29 = .ok (.aload_n 2, 1) := by decide +kernel
theorem smd_S_moveFrames_30 : decode prog_1_method_32_code 30 = .ok (.getfield 139, 3) := by decide +kernel
theorem smd_S_moveFrames_33 : decode prog_1_method_32_code 33 = .ok (.iconst 1, 1) := by decide +kernel
theorem smd_S_moveFrames_34 : decode prog_1_method_32_code 34 = .ok (.isub, 1) := by decide +kernel
theorem smd_S_moveFrames_35 : decode prog_1_method_32_code 35 = .ok (.iaload, 1) := by decide +kernel
theorem smd_S_moveFrames_36 : decode prog_1_method_32_code 36 = .ok (.invokevirtual 88, 3) := by decide +kernel
theorem smd_S_moveFrames_39 : decode prog_1_method_32_code 39 = .ok (.ifCond .eq 19, 3) := by decide +kernel
theorem smd_S_moveFrames_42 : decode prog_1_method_32_code 42 = .ok (.aload_n 2, 1) := by decide +kernel
theorem smd_S_moveFrames_43 : decode prog_1_method_32_code 43 = .ok (.getfield 145, 3) := by decide +kernel
theorem smd_S_moveFrames_46 : decode prog_1_method_32_code 46 = .ok (.aload_n 2, 1) := by decide +kernel
theorem smd_S_moveFrames_47 : decode prog_1_method_32_code 47 = .ok (.getfield 139, 3) := by decide +kernel
theorem smd_S_moveFrames_50 : decode prog_1_method_32_code 50 = .ok (.iconst 1, 1) := by decide +kernel
theorem smd_S_moveFrames_51 : decode prog_1_method_32_code 51 = .ok (.isub, 1) := by decide +kernel
theorem smd_S_moveFrames_52 : decode prog_1_method_32_code 52 = .ok (.aload_n 0, 1) := by decide +kernel
theorem smd_S_moveFrames_53 : decode prog_1_method_32_code 53 = .ok (.aload_n 2, 1) := by decide +kernel
theorem smd_S_moveFrames_54 : decode prog_1_method_32_code 54 = .ok (.invokevirtual 181, 3) := by decide +kernel
theorem smd_S_moveFrames_57 : decode prog_1_method_32_code 57 = .ok (.iastore, 1) := by decide +kernel
theorem smd_S_moveFrames_58 : decode prog_1_method_32_code 58 = .ok (.iinc 1 1, 3) := by decide +kernel
theorem smd_S_moveFrames_61 : decode prog_1_method_32_code 61 = .ok (.goto (-59), 3) := by decide +kernel
theorem smd_S_moveFrames_64 : decode prog_1_method_32_code 64 = .ok (.return_, 1) := by decide +kernel
theorem smd_S_dropUnreachable_0 : decode prog_1_method_33_code 0 = .ok (.aload_n 0, 1) := by decide +kernel
theorem smd_S_dropUnreachable_1 : decode prog_1_method_33_code 1 = .ok (.getfield 29, 3) := by decide +kernel
theorem smd_S_dropUnreachable_4 : decode prog_1_method_33_code 4 = .ok (.invokevirtual 200, 3) := by decide +kernel
theorem smd_S_dropUnreachable_7 : decode prog_1_method_33_code 7 = .ok (.iconst 0, 1) := by decide +kernel
theorem smd_S_dropUnreachable_8 : decode prog_1_method_33_code 8 = .ok (.istore_n 1, 1) := by decide +kernel
theorem smd_S_dropUnreachable_9 : decode prog_1_method_33_code 9 = .ok (.iload_n 1, 1) := by decide +kernel
theorem smd_S_dropUnreachable_10 : decode prog_1_method_33_code 10 = .ok (.iconst 4, 1) := by decide +kernel
theorem smd_S_dropUnreachable_11 : decode prog_1_method_33_code 11 = .ok (.if_icmp .ge 22, 3) := by decide +kernel
theorem smd_S_dropUnreachable_14 : decode prog_1_method_33_code 14 = .ok (.aload_n 0, 1) := by decide +kernel
theorem smd_S_dropUnreachable_15 : decode prog_1_method_33_code 15 = .ok (.getfield 29, 3) := by decide +kernel
theorem smd_S_dropUnreachable_18 : decode prog_1_method_33_code 18 = .ok (.aload_n 0, 1) := by decide +kernel
theorem smd_S_dropUnreachable_19 : decode prog_1_method_33_code 19 = .ok (.getfield 33, 3) := by decide +kernel
theorem smd_S_dropUnreachable_22 : decode prog_1_method_33_code 22 = .ok (.iload_n 1, 1) := by decide +kernel
theorem smd_S_dropUnreachable_23 : decode prog_1_method_33_code 23 = .ok (.iaload, 1) := by decide +kernel
theorem smd_S_dropUnreachable_24 : decode prog_1_method_33_code 24 = .ok (.invokevirtual 203, 3) := by decide +kernel
theorem smd_S_dropUnreachable_27 : decode prog_1_method_33_code 27 = .ok (.iinc 1 1, 3) := by decide +kernel
theorem smd_S_dropUnreachable_30 : decode prog_1_method_33_code 30 = .ok (.goto (-21), 3) := by decide +kernel
theorem smd_S_dropUnreachable_33 : decode prog_1_method_33_code 33 = .ok (.iconst 0, 1) := by decide +kernel
theorem smd_S_dropUnreachable_34 : decode prog_1_method_33_code 34 = .ok (.istore_n 1, 1) := by decide +kernel
theorem smd_S_dropUnreachable_35 : decode prog_1_method_33_code 35 = .ok (.iload_n 1, 1) := by decide +kernel
theorem smd_S_dropUnreachable_36 : decode prog_1_method_33_code 36 = .ok (.aload_n 0, 1) := by decide +kernel
theorem smd_S_dropUnreachable_37 : decode prog_1_method_33_code 37 = .ok (.getfield 113, 3) := by decide +kernel
theorem smd_S_dropUnreachable_40 : decode prog_1_method_33_code 40 = .ok (.if_icmp .ge 47, 3) := by decide +kernel
theorem smd_S_dropUnreachable_43 : decode prog_1_method_33_code 43 = .ok (.aload_n 0, 1) := by decide +kernel
theorem smd_S_dropUnreachable_44 : decode prog_1_method_33_code 44 = .ok (.getfield 39, 3) := by decide +kernel
theorem smd_S_dropUnreachable_47 : decode prog_1_method_33_code 47 = .ok (.iload_n 1, 1) := by decide +kernel
theorem smd_S_dropUnreachable_48 : decode prog_1_method_33_code 48 = .ok (.aaload, 1) := by decide +kernel
theorem smd_S_dropUnreachable_49 : decode prog_1_method_33_code 49 = .ok (.astore_n 2, 1) := by decide +kernel
theorem smd_S_dropUnreachable_50 : decode prog_1_method_33_code 50 = .ok (.iconst 0, 1) := by decide +kernel
theorem smd_S_dropUnreachable_51 : decode prog_1_method_33_code 51 = .ok (.istore_n 3, 1) := by decide +kernel
theorem smd_S_dropUnreachable_52 : decode prog_1_method_33_code 52 = .ok (.iload_n 3, 1) := by decide +kernel
theorem smd_S_dropUnreachable_53 : decode prog_1_method_33_code 53 = .ok (.aload_n 2, 1) := by decide +kernel
theorem smd_S_dropUnreachable_54 : decode prog_1_method_33_code 54 = .ok (.getfield 139, 3) := by decide +kernel
theorem smd_S_dropUnreachable_57 : decode prog_1_method_33_code 57 = .ok (.iconst 3, 1) := by decide +kernel
theorem smd_S_dropUnreachable_58 : decode prog_1_method_33_code 58 = .ok (.imul, 1) := by decide +kernel
theorem smd_S_dropUnreachable_59 : decode prog_1_method_33_code 59 = .ok (.if_icmp .ge 22, 3) := by decide +kernel
theorem smd_S_dropUnreachable_62 : decode prog_1_method_33_code 62 = .ok (.aload_n 0, 1) := by decide +kernel
theorem smd_S_dropUnreachable_63 : decode prog_1_method_33_code 63 = .ok (.getfield 29, 3) := by decide +kernel
theorem smd_S_dropUnreachable_66 : decode prog_1_method_33_code 66 = .ok (.aload_n 2, 1) := by decide +kernel
theorem smd_S_dropUnreachable_67 : decode prog_1_method_33_code 67 = .ok (.getfield 148, 3) := by decide +kernel
theorem smd_S_dropUnreachable_70 : decode prog_1_method_33_code 70 = .ok (.iload_n 3, 1) := by decide +kernel
theorem smd_S_dropUnreachable_71 : decode prog_1_method_33_code 71 = .ok (.iaload, 1) := by decide +kernel
theorem smd_S_dropUnreachable_72 : decode prog_1_method_33_code 72 = .ok (.invokevirtual 203, 3) := by decide +kernel
theorem smd_S_dropUnreachable_75 : decode prog_1_method_33_code 75 = .ok (.iinc 3 1, 3) := by decide +kernel
theorem smd_S_dropUnreachable_78 : decode prog_1_method_33_code 78 = .ok (.goto (-26), 3) := by decide +kernel
theorem smd_S_dropUnreachable_81 : decode prog_1_method_33_code 81 = .ok (.iinc 1 1, 3) := by decide +kernel
theorem smd_S_dropUnreachable_84 : decode prog_1_method_33_code 84 = .ok (.goto (-49), 3) := by decide +kernel
theorem smd_S_dropUnreachable_87 : decode prog_1_method_33_code 87 = .ok (.aload_n 0, 1) := by decide +kernel
theorem smd_S_dropUnreachable_88 : decode prog_1_method_33_code 88 = .ok (.getfield 29, 3) := by decide +kernel
theorem smd_S_dropUnreachable_91 : decode prog_1_method_33_code 91 = .ok (.invokevirtual 206, 3) := by decide +kernel
theorem smd_S_dropUnreachable_94 : decode prog_1_method_33_code 94 = .ok (.aload_n 0, 1) := by decide +kernel
theorem smd_S_dropUnreachable_95 : decode prog_1_method_33_code 95 = .ok (.getfield 29, 3) := by decide +kernel
theorem smd_S_dropUnreachable_98 : decode prog_1_method_33_code 98 = .ok (.invokevirtual 209, 3) := by decide +kernel
theorem smd_S_dropUnreachable_101 : decode prog_1_method_33_code 101 = .ok (.ireturn, 1) := by decide +kernel
end
section
theorem smd_S_perform_0 : decode prog_1_method_34_code 0 = .ok (.aload_n 1, 1) := by decide +kernel
theorem smd_S_perform_1 : decode prog_1_method_34_code 1 = .ok (.getfield 139, 3) := by decide +kernel
theorem smd_S_perform_4 : decode prog_1_method_34_code 4 = .ok (.iconst 1, 1) := by decide +kernel
theorem smd_S_perform_5 : decode prog_1_method_34_code 5 = .ok (.isub, 1) := by decide +kernel
theorem smd_S_perform_6 : decode prog_1_method_34_code 6 = .ok (.istore_n 2, 1) := by decide +kernel
theorem smd_S_perform_7 : decode prog_1_method_34_code 7 = .ok (.aload_n 1, 1) := by decide +kernel
theorem smd_S_perform_8 : decode prog_1_method_34_code 8 = .ok (.getfield 142, 3) := by decide +kernel
theorem smd_S_perform_11 : decode prog_1_method_34_code 11 = .ok (.iload_n 2, 1) := by decide +kernel
theorem smd_S_perform_12 : decode prog_1_method_34_code 12 = .ok (.iaload, 1) := by decide +kernel
theorem smd_S_perform_13 : decode prog_1_method_34_code 13 = .ok (.aload_n 1, 1) := by decide +kernel
theorem smd_S_perform_14 : decode prog_1_method_34_code 14 = .ok (.getfield 145, 3) := by decide +kernel
theorem smd_S_perform_17 : decode prog_1_method_34_code 17 = .ok (.iload_n 2, 1) := by decide +kernel
theorem smd_S_perform_18 : decode prog_1_method_34_code 18 = .ok (.iaload, 1) := by decide +kernel
theorem smd_S_perform_19 : decode prog_1_method_34_code 19 = .ok (.invokestatic 185, 3) := by decide +kernel
theorem smd_S_perform_22 : decode prog_1_method_34_code 22 = .ok (.istore_n 3, 1) := by decide +kernel
theorem smd_S_perform_23 : decode prog_1_method_34_code 23 = .ok (.aload_n 0, 1) := by decide +kernel
theorem smd_S_perform_24 : decode prog_1_method_34_code 24 = .ok (.getfield 10, 3) := by decide +kernel
theorem smd_S_perform_27 : decode prog_1_method_34_code 27 = .ok (.getfield 188, 3) := by decide +kernel
theorem smd_S_perform_30 : decode prog_1_method_34_code 30 = .ok (.iload_n 3, 1) := by decide +kernel
theorem smd_S_perform_31 : decode prog_1_method_34_code 31 = .ok (.iaload, 1) := by decide +kernel
theorem smd_S_perform_32 : decode prog_1_method_34_code 32 = .ok (.bipush 11, 2) := by decide +kernel
theorem smd_S_perform_34 : decode prog_1_method_34_code 34 = .ok (.if_icmp .ne 16, 3) := by decide +kernel
theorem smd_S_perform_37 : decode prog_1_method_34_code 37 = .ok (.aload_n 1, 1) := by decide +kernel
theorem smd_S_perform_38 : decode prog_1_method_34_code 38 = .ok (.getfield 130, 3) := by decide +kernel
theorem smd_S_perform_41 : decode prog_1_method_34_code 41 = .ok (.ifCond .ne 9, 3) := by decide +kernel
theorem smd_S_perform_44 : decode prog_1_method_34_code 44 = .ok (.aload_n 1, 1) := by decide +kernel
theorem smd_S_perform_45 : decode prog_1_method_34_code 45 = .ok (.iconst 1, 1) := by decide +kernel
theorem smd_S_perform_46 : decode prog_1_method_34_code 46 = .ok (.putfield 123, 3) := by decide +kernel
theorem smd_S_perform_49 : decode prog_1_method_34_code 49 = .ok (.return_, 1) := by decide +kernel
theorem smd_S_perform_50 : decode prog_1_method_34_code 50 = .ok (.aload_n 1, 1) := by decide +kernel
theorem smd_S_perform_51 : decode prog_1_method_34_code 51 = .ok (.getfield 145, 3) := by decide +kernel
theorem smd_S_perform_54 : decode prog_1_method_34_code 54 = .ok (.iload_n 2, 1) := by decide +kernel
theorem smd_S_perform_55 : decode prog_1_method_34_code 55 = .ok (.dup2, 1) := by decide +kernel
theorem smd_S_perform_56 : decode prog_1_method_34_code 56 = .ok (.iaload, 1) := by decide +kernel
theorem smd_S_perform_57 : decode prog_1_method_34_code 57 = .ok (.iconst 1, 1) := by decide +kernel
theorem smd_S_perform_58 : decode prog_1_method_34_code 58 = .ok (.iadd, 1) := by decide +kernel
theorem smd_S_perform_59 : decode prog_1_method_34_code 59 = .ok (.iastore, 1) := by decide +kernel
theorem smd_S_perform_60 : decode prog_1_method_34_code 60 = .ok (.aload_n 0, 1) := by decide +kernel
theorem smd_S_perform_61 : decode prog_1_method_34_code 61 = .ok (.getfield 10, 3) := by decide +kernel
theorem smd_S_perform_64 : decode prog_1_method_34_code 64 = .ok (.getfield 191, 3) := by decide +kernel
theorem smd_S_perform_67 : decode prog_1_method_34_code 67 = .ok (.iload_n 3, 1) := by decide +kernel
theorem smd_S_perform_68 : decode prog_1_method_34_code 68 = .ok (.iaload, 1) := by decide +kernel
theorem smd_S_perform_69 : decode prog_1_method_34_code 69 = .ok (.istore 4, 2) := by decide +kernel
theorem smd_S_perform_71 : decode prog_1_method_34_code 71 = .ok (.aload_n 0, 1) := by decide +kernel
theorem smd_S_perform_72 : decode prog_1_method_34_code 72 = .ok (.getfield 10, 3) := by decide +kernel
theorem smd_S_perform_75 : decode prog_1_method_34_code 75 = .ok (.getfield 212, 3) := by decide +kernel
theorem smd_S_perform_78 : decode prog_1_method_34_code 78 = .ok (.iload_n 3, 1) := by decide +kernel
theorem smd_S_perform_79 : decode prog_1_method_34_code 79 = .ok (.iaload, 1) := by decide +kernel
theorem smd_S_perform_80 : decode prog_1_method_34_code 80 = .ok (.istore 5, 2) := by decide +kernel
theorem smd_S_perform_82 : decode prog_1_method_34_code 82 = .ok (.aload_n 0, 1) := by decide +kernel
theorem smd_S_perform_83 : decode prog_1_method_34_code 83 = .ok (.getfield 10, 3) := by decide +kernel
theorem smd_S_perform_86 : decode prog_1_method_34_code 86 = .ok (.getfield 215, 3) := by decide +kernel
theorem smd_S_perform_89 : decode prog_1_method_34_code 89 = .ok (.iload_n 3, 1) := by decide +kernel
theorem smd_S_perform_90 : decode prog_1_method_34_code 90 = .ok (.iaload, 1) := by decide +kernel
theorem smd_S_perform_91 : decode prog_1_method_34_code 91 = .ok (.istore 6, 2) := by decide +kernel
theorem smd_S_perform_93 : decode prog_1_method_34_code 93 = .ok (.aload_n 0, 1) := by decide +kernel
theorem smd_S_perform_94 : decode prog_1_method_34_code 94 = .ok (.getfield 10, 3) := by decide +kernel
theorem smd_S_perform_97 : decode prog_1_method_34_code 97 = .ok (.getfield 188, 3) := by decide +kernel
theorem smd_S_perform_100 : decode prog_1_method_34_code 100 = .ok (.iload_n 3, 1) := by decide +kernel
theorem smd_S_perform_101 : decode prog_1_method_34_code 101 = .ok (.iaload, 1) := by decide +kernel
theorem smd_S_perform_102 : decode prog_1_method_34_code 102 = .ok (.tableswitch 257 0 11 #[62, 75, 86, 108, 130, 159, 172, 184, 198, 212, 228, 244], 62) := by decide +kernel
theorem smd_S_perform_164 : decode prog_1_method_34_code 164 = .ok (.aload_n 1, 1) := by decide +kernel
theorem smd_S_perform_165 : decode prog_1_method_34_code 165 = .ok (.aload_n 1, 1) := by decide +kernel
theorem smd_S_perform_166 : decode prog_1_method_34_code 166 = .ok (.iload 4, 2) := by decide +kernel
theorem smd_S_perform_168 : decode prog_1_method_34_code 168 = .ok (.invokevirtual 218, 3) := by decide +kernel
theorem smd_S_perform_171 : decode prog_1_method_34_code 171 = .ok (.invokevirtual 221, 3) := by decide +kernel
theorem smd_S_perform_174 : decode prog_1_method_34_code 174 = .ok (.goto 185, 3) := by decide +kernel
theorem smd_S_perform_177 : decode prog_1_method_34_code 177 = .ok (.aload_n 1, 1) := by decide +kernel
theorem smd_S_perform_178 : decode prog_1_method_34_code 178 = .ok (.iload 4, 2) := by decide +kernel
theorem smd_S_perform_180 : decode prog_1_method_34_code 180 = .ok (.iload 5, 2) := by decide +kernel
theorem smd_S_perform_182 : decode prog_1_method_34_code 182 = .ok (.invokevirtual 224, 3) := by decide +kernel
theorem smd_S_perform_185 : decode prog_1_method_34_code 185 = .ok (.goto 174, 3) := by decide +kernel
theorem smd_S_perform_188 : decode prog_1_method_34_code 188 = .ok (.aload_n 1, 1) := by decide +kernel
theorem smd_S_perform_189 : decode prog_1_method_34_code 189 = .ok (.iload 4, 2) := by decide +kernel
theorem smd_S_perform_191 : decode prog_1_method_34_code 191 = .ok (.aload_n 1, 1) := by decide +kernel
theorem smd_S_perform_192 : decode prog_1_method_34_code 192 = .ok (.iload 5, 2) := by decide +kernel
theorem smd_S_perform_194 : decode prog_1_method_34_code 194 = .ok (.invokevirtual 218, 3) := by decide +kernel
theorem smd_S_perform_197 : decode prog_1_method_34_code 197 = .ok (.aload_n 1, 1) := by decide +kernel
theorem smd_S_perform_198 : decode prog_1_method_34_code 198 = .ok (.iload 6, 2) := by decide +kernel
theorem smd_S_perform_200 : decode prog_1_method_34_code 200 = .ok (.invokevirtual 218, 3) := by decide +kernel
theorem smd_S_perform_203 : decode prog_1_method_34_code 203 = .ok (.iadd, 1) := by decide +kernel
theorem smd_S_perform_204 : decode prog_1_method_34_code 204 = .ok (.invokevirtual 224, 3) := by decide +kernel
theorem smd_S_perform_207 : decode prog_1_method_34_code 207 = .ok (.goto 152, 3) := by decide +kernel
theorem smd_S_perform_210 : decode prog_1_method_34_code 210 = .ok (.aload_n 1, 1) := by decide +kernel
theorem smd_S_perform_211 : decode prog_1_method_34_code 211 = .ok (.iload 4, 2) := by decide +kernel
theorem smd_S_perform_213 : decode prog_1_method_34_code 213 = .ok (.aload_n 1, 1) := by decide +kernel
theorem smd_S_perform_214 : decode prog_1_method_34_code 214 = .ok (.iload 5, 2) := by decide +kernel
theorem smd_S_perform_216 : decode prog_1_method_34_code 216 = .ok (.invokevirtual 218, 3) := by decide +kernel
theorem smd_S_perform_219 : decode prog_1_method_34_code 219 = .ok (.aload_n 1, 1) := by decide +kernel
theorem smd_S_perform_220 : decode prog_1_method_34_code 220 = .ok (.iload 6, 2) := by decide +kernel
theorem smd_S_perform_222 : decode prog_1_method_34_code 222 = .ok (.invokevirtual 218, 3) := by decide +kernel
theorem smd_S_perform_225 : decode prog_1_method_34_code 225 = .ok (.isub, 1) := by decide +kernel
theorem smd_S_perform_226 : decode prog_1_method_34_code 226 = .ok (.invokevirtual 224, 3) := by decide +kernel
theorem smd_S_perform_229 : decode prog_1_method_34_code 229 = .ok (.goto 130, 3) := by decide +kernel
theorem smd_S_perform_232 : decode prog_1_method_34_code 232 = .ok (.aload_n 1, 1) := by decide +kernel
theorem smd_S_perform_233 : decode prog_1_method_34_code 233 = .ok (.getfield 145, 3) := by decide +kernel
theorem smd_S_perform_236 : decode prog_1_method_34_code 236 = .ok (.iload_n 2, 1) := by decide +kernel
theorem smd_S_perform_237 : decode prog_1_method_34_code 237 = .ok (.aload_n 1, 1) := by decide +kernel
theorem smd_S_perform_238 : decode prog_1_method_34_code 238 = .ok (.iload 4, 2) := by decide +kernel
theorem smd_S_perform_240 : decode prog_1_method_34_code 240 = .ok (.invokevirtual 218, 3) := by decide +kernel
theorem smd_S_perform_243 : decode prog_1_method_34_code 243 = .ok (.ifCond .ne 8, 3) := by decide +kernel
theorem smd_S_perform_246 : decode prog_1_method_34_code 246 = .ok (.iload 5, 2) := by decide +kernel
theorem smd_S_perform_248 : decode prog_1_method_34_code 248 = .ok (.goto 9, 3) := by decide +kernel
theorem smd_S_perform_251 : decode prog_1_method_34_code 251 = .ok (.aload_n 1, 1) := by decide +kernel
theorem smd_S_perform_252 : decode prog_1_method_34_code 252 = .ok (.getfield 145, 3) := by decide +kernel
theorem smd_S_perform_255 : decode prog_1_method_34_code 255 = .ok (.iload_n 2, 1) := by decide +kernel
theorem smd_S_perform_256 : decode prog_1_method_34_code 256 = .ok (.iaload, 1) := by decide +kernel
theorem smd_S_perform_257 : decode prog_1_method_34_code 257 = .ok (.iastore, 1) := by decide +kernel
theorem smd_S_perform_258 : decode prog_1_method_34_code 258 = .ok (.goto 101, 3) := by decide +kernel
theorem smd_S_perform_261 : decode prog_1_method_34_code 261 = .ok (.aload_n 1, 1) := by decide +kernel
theorem smd_S_perform_262 : decode prog_1_method_34_code 262 = .ok (.iload 4, 2) := by decide +kernel
theorem smd_S_perform_264 : decode prog_1_method_34_code 264 = .ok (.iload 5, 2) := by decide +kernel
theorem smd_S_perform_266 : decode prog_1_method_34_code 266 = .ok (.iload 6, 2) := by decide +kernel
theorem smd_S_perform_268 : decode prog_1_method_34_code 268 = .ok (.invokestatic 228, 3) := by decide +kernel
theorem smd_S_perform_271 : decode prog_1_method_34_code 271 = .ok (.goto 88, 3) := by decide +kernel
theorem smd_S_perform_274 : decode prog_1_method_34_code 274 = .ok (.aload_n 0, 1) := by decide +kernel
theorem smd_S_perform_275 : decode prog_1_method_34_code 275 = .ok (.aload_n 1, 1) := by decide +kernel
theorem smd_S_perform_276 : decode prog_1_method_34_code 276 = .ok (.iload 4, 2) := by decide +kernel
theorem smd_S_perform_278 : decode prog_1_method_34_code 278 = .ok (.iload 5, 2) := by decide +kernel
theorem smd_S_perform_280 : decode prog_1_method_34_code 280 = .ok (.invokevirtual 232, 3) := by decide +kernel
theorem smd_S_perform_283 : decode prog_1_method_34_code 283 = .ok (.goto 76, 3) := by decide +kernel
theorem smd_S_perform_286 : decode prog_1_method_34_code 286 = .ok (.aload_n 0, 1) := by decide +kernel
theorem smd_S_perform_287 : decode prog_1_method_34_code 287 = .ok (.aload_n 1, 1) := by decide +kernel
theorem smd_S_perform_288 : decode prog_1_method_34_code 288 = .ok (.iload 4, 2) := by decide +kernel
theorem smd_S_perform_290 : decode prog_1_method_34_code 290 = .ok (.iload 5, 2) := by decide +kernel
theorem smd_S_perform_292 : decode prog_1_method_34_code 292 = .ok (.iload 6, 2) := by decide +kernel
theorem smd_S_perform_294 : decode prog_1_method_34_code 294 = .ok (.invokevirtual 236, 3) := by decide +kernel
theorem smd_S_perform_297 : decode prog_1_method_34_code 297 = .ok (.goto 62, 3) := by decide +kernel
theorem smd_S_perform_300 : decode prog_1_method_34_code 300 = .ok (.aload_n 0, 1) := by decide +kernel
theorem smd_S_perform_301 : decode prog_1_method_34_code 301 = .ok (.aload_n 1, 1) := by decide +kernel
theorem smd_S_perform_302 : decode prog_1_method_34_code 302 = .ok (.iload 4, 2) := by decide +kernel
theorem smd_S_perform_304 : decode prog_1_method_34_code 304 = .ok (.iload 5, 2) := by decide +kernel
theorem smd_S_perform_306 : decode prog_1_method_34_code 306 = .ok (.iload 6, 2) := by decide +kernel
theorem smd_S_perform_308 : decode prog_1_method_34_code 308 = .ok (.invokevirtual 239, 3) := by decide +kernel
theorem smd_S_perform_311 : decode prog_1_method_34_code 311 = .ok (.goto 48, 3) := by decide +kernel
theorem smd_S_perform_314 : decode prog_1_method_34_code 314 = .ok (.aload_n 1, 1) := by decide +kernel
theorem smd_S_perform_315 : decode prog_1_method_34_code 315 = .ok (.iload 4, 2) := by decide +kernel
theorem smd_S_perform_317 : decode prog_1_method_34_code 317 = .ok (.aload_n 0, 1) := by decide +kernel
theorem smd_S_perform_318 : decode prog_1_method_34_code 318 = .ok (.getfield 33, 3) := by decide +kernel
theorem smd_S_perform_321 : decode prog_1_method_34_code 321 = .ok (.iload 5, 2) := by decide +kernel
theorem smd_S_perform_323 : decode prog_1_method_34_code 323 = .ok (.iaload, 1) := by decide +kernel
theorem smd_S_perform_324 : decode prog_1_method_34_code 324 = .ok (.invokevirtual 224, 3) := by decide +kernel
theorem smd_S_perform_327 : decode prog_1_method_34_code 327 = .ok (.goto 32, 3) := by decide +kernel
theorem smd_S_perform_330 : decode prog_1_method_34_code 330 = .ok (.aload_n 0, 1) := by decide +kernel
theorem smd_S_perform_331 : decode prog_1_method_34_code 331 = .ok (.getfield 33, 3) := by decide +kernel
theorem smd_S_perform_334 : decode prog_1_method_34_code 334 = .ok (.iload 5, 2) := by decide +kernel
theorem smd_S_perform_336 : decode prog_1_method_34_code 336 = .ok (.aload_n 1, 1) := by decide +kernel
theorem smd_S_perform_337 : decode prog_1_method_34_code 337 = .ok (.iload 4, 2) := by decide +kernel
theorem smd_S_perform_339 : decode prog_1_method_34_code 339 = .ok (.invokevirtual 218, 3) := by decide +kernel
theorem smd_S_perform_342 : decode prog_1_method_34_code 342 = .ok (.iastore, 1) := by decide +kernel
theorem smd_S_perform_343 : decode prog_1_method_34_code 343 = .ok (.goto 16, 3) := by decide +kernel
theorem smd_S_perform_346 : decode prog_1_method_34_code 346 = .ok (.aload_n 1, 1) := by decide +kernel
theorem smd_S_perform_347 : decode prog_1_method_34_code 347 = .ok (.iload 4, 2) := by decide +kernel
theorem smd_S_perform_349 : decode prog_1_method_34_code 349 = .ok (.aload_n 1, 1) := by decide +kernel
theorem smd_S_perform_350 : decode prog_1_method_34_code 350 = .ok (.invokevirtual 242, 3) := by decide +kernel
theorem smd_S_perform_353 : decode prog_1_method_34_code 353 = .ok (.invokevirtual 224, 3) := by decide +kernel
theorem smd_S_perform_356 : decode prog_1_method_34_code 356 = .ok (.goto 3, 3) := by decide +kernel
theorem smd_S_perform_359 : decode prog_1_method_34_code 359 = .ok (.return_, 1) := by decide +kernel
theorem smd_S_call_0 : decode prog_1_method_35_code 0 = .ok (.aload_n 0, 1) := by decide +kernel
theorem smd_S_call_1 : decode prog_1_method_35_code 1 = .ok (.getfield 139, 3) := by decide +kernel
theorem smd_S_call_4 : decode prog_1_method_35_code 4 = .ok (.bipush 6, 2) := by decide +kernel
theorem smd_S_call_6 : decode prog_1_method_35_code 6 = .ok (.if_icmp .lt 10, 3) := by decide +kernel
theorem smd_S_call_9 : decode prog_1_method_35_code 9 = .ok (.aload_n 0, 1) := by decide +kernel
theorem smd_S_call_10 : decode prog_1_method_35_code 10 = .ok (.invokevirtual 245, 3) := by decide +kernel
theorem smd_S_call_13 : decode prog_1_method_35_code 13 = .ok (.goto 14, 3) := by decide +kernel
theorem smd_S_call_16 : decode prog_1_method_35_code 16 = .ok (.aload_n 0, 1) := by decide +kernel
theorem smd_S_call_17 : decode prog_1_method_35_code 17 = .ok (.iload_n 2, 1) := by decide +kernel
theorem smd_S_call_18 : decode prog_1_method_35_code 18 = .ok (.aload_n 0, 1) := by decide +kernel
theorem smd_S_call_19 : decode prog_1_method_35_code 19 = .ok (.iload_n 3, 1) := by decide +kernel
theorem smd_S_call_20 : decode prog_1_method_35_code 20 = .ok (.invokevirtual 218, 3) := by decide +kernel
theorem smd_S_call_23 : decode prog_1_method_35_code 23 = .ok (.iload_n 1, 1) := by decide +kernel
theorem smd_S_call_24 : decode prog_1_method_35_code 24 = .ok (.invokevirtual 116, 3) := by decide +kernel
theorem smd_S_call_27 : decode prog_1_method_35_code 27 = .ok (.return_, 1) := by decide +kernel
theorem smd_S_makeObject_0 : decode prog_1_method_36_code 0 = .ok (.aload_n 0, 1) := by decide +kernel
theorem smd_S_makeObject_1 : decode prog_1_method_36_code 1 = .ok (.getfield 29, 3) := by decide +kernel
theorem smd_S_makeObject_4 : decode prog_1_method_36_code 4 = .ok (.invokevirtual 248, 3) := by decide +kernel
theorem smd_S_makeObject_7 : decode prog_1_method_36_code 7 = .ok (.iconst (-1), 1) := by decide +kernel
theorem smd_S_makeObject_8 : decode prog_1_method_36_code 8 = .ok (.if_icmp .ne 8, 3) := by decide +kernel
theorem smd_S_makeObject_11 : decode prog_1_method_36_code 11 = .ok (.aload_n 0, 1) := by decide +kernel
theorem smd_S_makeObject_12 : decode prog_1_method_36_code 12 = .ok (.invokevirtual 96, 3) := by decide +kernel
theorem smd_S_makeObject_15 : decode prog_1_method_36_code 15 = .ok (.pop, 1) := by decide +kernel
theorem smd_S_makeObject_16 : decode prog_1_method_36_code 16 = .ok (.aload_n 0, 1) := by decide +kernel
theorem smd_S_makeObject_17 : decode prog_1_method_36_code 17 = .ok (.getfield 29, 3) := by decide +kernel
theorem smd_S_makeObject_20 : decode prog_1_method_36_code 20 = .ok (.invokevirtual 248, 3) := by decide +kernel
theorem smd_S_makeObject_23 : decode prog_1_method_36_code 23 = .ok (.istore 4, 2) := by decide +kernel
theorem smd_S_makeObject_25 : decode prog_1_method_36_code 25 = .ok (.iload 4, 2) := by decide +kernel
theorem smd_S_makeObject_27 : decode prog_1_method_36_code 27 = .ok (.iconst (-1), 1) := by decide +kernel
theorem smd_S_makeObject_28 : decode prog_1_method_36_code 28 = .ok (.if_icmp .ne 10, 3) := by decide +kernel
theorem smd_S_makeObject_31 : decode prog_1_method_36_code 31 = .ok (.aload_n 1, 1) := by decide +kernel
theorem smd_S_makeObject_32 : decode prog_1_method_36_code 32 = .ok (.invokevirtual 245, 3) := by decide +kernel
theorem smd_S_makeObject_35 : decode prog_1_method_36_code 35 = .ok (.goto 20, 3) := by decide +kernel
theorem smd_S_makeObject_38 : decode prog_1_method_36_code 38 = .ok (.aload_n 0, 1) := by decide +kernel
theorem smd_S_makeObject_39 : decode prog_1_method_36_code 39 = .ok (.getfield 29, 3) := by decide +kernel
theorem smd_S_makeObject_42 : decode prog_1_method_36_code 42 = .ok (.iload 4, 2) := by decide +kernel
theorem smd_S_makeObject_44 : decode prog_1_method_36_code 44 = .ok (.iload_n 3, 1) := by decide +kernel
theorem smd_S_makeObject_45 : decode prog_1_method_36_code 45 = .ok (.invokevirtual 251, 3) := by decide +kernel
theorem smd_S_makeObject_48 : decode prog_1_method_36_code 48 = .ok (.aload_n 1, 1) := by decide +kernel
theorem smd_S_makeObject_49 : decode prog_1_method_36_code 49 = .ok (.iload_n 2, 1) := by decide +kernel
theorem smd_S_makeObject_50 : decode prog_1_method_36_code 50 = .ok (.iload 4, 2) := by decide +kernel
theorem smd_S_makeObject_52 : decode prog_1_method_36_code 52 = .ok (.invokevirtual 224, 3) := by decide +kernel
theorem smd_S_makeObject_55 : decode prog_1_method_36_code 55 = .ok (.return_, 1) := by decide +kernel
theorem smd_S_get_0 : decode prog_1_method_37_code 0 = .ok (.aload_n 0, 1) := by decide +kernel
theorem smd_S_get_1 : decode prog_1_method_37_code 1 = .ok (.getfield 29, 3) := by decide +kernel
theorem smd_S_get_4 : decode prog_1_method_37_code 4 = .ok (.aload_n 1, 1) := by decide +kernel
theorem smd_S_get_5 : decode prog_1_method_37_code 5 = .ok (.iload_n 3, 1) := by decide +kernel
theorem smd_S_get_6 : decode prog_1_method_37_code 6 = .ok (.invokevirtual 218, 3) := by decide +kernel
theorem smd_S_get_9 : decode prog_1_method_37_code 9 = .ok (.iload 4, 2) := by decide +kernel
theorem smd_S_get_11 : decode prog_1_method_37_code 11 = .ok (.invokevirtual 254, 3) := by decide +kernel
theorem smd_S_get_14 : decode prog_1_method_37_code 14 = .ok (.istore 5, 2) := by decide +kernel
theorem smd_S_get_16 : decode prog_1_method_37_code 16 = .ok (.iload 5, 2) := by decide +kernel
theorem smd_S_get_18 : decode prog_1_method_37_code 18 = .ok (.iconst (-1), 1) := by decide +kernel
theorem smd_S_get_19 : decode prog_1_method_37_code 19 = .ok (.if_icmp .ne 10, 3) := by decide +kernel
theorem smd_S_get_22 : decode prog_1_method_37_code 22 = .ok (.aload_n 1, 1) := by decide +kernel
theorem smd_S_get_23 : decode prog_1_method_37_code 23 = .ok (.invokevirtual 245, 3) := by decide +kernel
theorem smd_S_get_26 : decode prog_1_method_37_code 26 = .ok (.goto 18, 3) := by decide +kernel
theorem smd_S_get_29 : decode prog_1_method_37_code 29 = .ok (.aload_n 1, 1) := by decide +kernel
theorem smd_S_get_30 : decode prog_1_method_37_code 30 = .ok (.iload_n 2, 1) := by decide +kernel
theorem smd_S_get_31 : decode prog_1_method_37_code 31 = .ok (.aload_n 0, 1) := by decide +kernel
theorem smd_S_get_32 : decode prog_1_method_37_code 32 = .ok (.getfield 29, 3) := by decide +kernel
theorem smd_S_get_35 : decode prog_1_method_37_code 35 = .ok (.getfield 157, 3) := by decide +kernel
theorem smd_S_get_38 : decode prog_1_method_37_code 38 = .ok (.iload 5, 2) := by decide +kernel
theorem smd_S_get_40 : decode prog_1_method_37_code 40 = .ok (.iaload, 1) := by decide +kernel
theorem smd_S_get_41 : decode prog_1_method_37_code 41 = .ok (.invokevirtual 224, 3) := by decide +kernel
theorem smd_S_get_44 : decode prog_1_method_37_code 44 = .ok (.return_, 1) := by decide +kernel
theorem smd_S_put_0 : decode prog_1_method_38_code 0 = .ok (.aload_n 0, 1) := by decide +kernel
theorem smd_S_put_1 : decode prog_1_method_38_code 1 = .ok (.getfield 29, 3) := by decide +kernel
theorem smd_S_put_4 : decode prog_1_method_38_code 4 = .ok (.aload_n 1, 1) := by decide +kernel
theorem smd_S_put_5 : decode prog_1_method_38_code 5 = .ok (.iload_n 2, 1) := by decide +kernel
theorem smd_S_put_6 : decode prog_1_method_38_code 6 = .ok (.invokevirtual 218, 3) := by decide +kernel
theorem smd_S_put_9 : decode prog_1_method_38_code 9 = .ok (.iload 4, 2) := by decide +kernel
theorem smd_S_put_11 : decode prog_1_method_38_code 11 = .ok (.invokevirtual 254, 3) := by decide +kernel
theorem smd_S_put_14 : decode prog_1_method_38_code 14 = .ok (.istore 5, 2) := by decide +kernel
theorem smd_S_put_16 : decode prog_1_method_38_code 16 = .ok (.iload 5, 2) := by decide +kernel
theorem smd_S_put_18 : decode prog_1_method_38_code 18 = .ok (.iconst (-1), 1) := by decide +kernel
theorem smd_S_put_19 : decode prog_1_method_38_code 19 = .ok (.if_icmp .ne 10, 3) := by decide +kernel
theorem smd_S_put_22 : decode prog_1_method_38_code 22 = .ok (.aload_n 1, 1) := by decide +kernel
theorem smd_S_put_23 : decode prog_1_method_38_code 23 = .ok (.invokevirtual 245, 3) := by decide +kernel
theorem smd_S_put_26 : decode prog_1_method_38_code 26 = .ok (.goto 18, 3) := by decide +kernel
theorem smd_S_put_29 : decode prog_1_method_38_code 29 = .ok (.aload_n 0, 1) := by decide +kernel
theorem smd_S_put_30 : decode prog_1_method_38_code 30 = .ok (.getfield 29, 3) := by decide +kernel
theorem smd_S_put_33 : decode prog_1_method_38_code 33 = .ok (.getfield 157, 3) := by decide +kernel
theorem smd_S_put_36 : decode prog_1_method_38_code 36 = .ok (.iload 5, 2) := by decide +kernel
theorem smd_S_put_38 : decode prog_1_method_38_code 38 = .ok (.aload_n 1, 1) := by decide +kernel
theorem smd_S_put_39 : decode prog_1_method_38_code 39 = .ok (.iload_n 3, 1) := by decide +kernel
theorem smd_S_put_40 : decode prog_1_method_38_code 40 = .ok (.invokevirtual 218, 3) := by decide +kernel
theorem smd_S_put_43 : decode prog_1_method_38_code 43 = .ok (.iastore, 1) := by decide +kernel
theorem smd_S_put_44 : decode prog_1_method_38_code 44 = .ok (.return_, 1) := by decide +kernel
theorem smd_M_init_0 : decode prog_7_method_1_code 0 = .ok (.aload_n 0, 1) := by decide +kernel
theorem smd_M_init_1 : decode prog_7_method_1_code 1 = .ok (.invokespecial 1, 3) := by decide +kernel
theorem smd_M_init_4 : decode prog_7_method_1_code 4 = .ok (.aload_n 0, 1) := by decide +kernel
theorem smd_M_init_5 : decode prog_7_method_1_code 5 = .ok (.sipush 576, 3) := by decide +kernel
theorem smd_M_init_8 : decode prog_7_method_1_code 8 = .ok (.newarray .int, 2) := by decide +kernel
theorem smd_M_init_10 : decode prog_7_method_1_code 10 = .ok (.putfield 7, 3) := by decide +kernel
theorem smd_M_init_13 : decode prog_7_method_1_code 13 = .ok (.aload_n 0, 1) := by decide +kernel
theorem smd_M_init_14 : decode prog_7_method_1_code 14 = .ok (.bipush 12, 2) := by decide +kernel
theorem smd_M_init_16 : decode prog_7_method_1_code 16 = .ok (.newarray .int, 2) := by decide +kernel
theorem smd_M_init_18 : decode prog_7_method_1_code 18 = .ok (.putfield 13, 3) := by decide +kernel
theorem smd_M_init_21 : decode prog_7_method_1_code 21 = .ok (.aload_n 0, 1) := by decide +kernel
theorem smd_M_init_22 : decode prog_7_method_1_code 22 = .ok (.bipush 6, 2) := by decide +kernel
theorem smd_M_init_24 : decode prog_7_method_1_code 24 = .ok (.newarray .int, 2) := by decide +kernel
theorem smd_M_init_26 : decode prog_7_method_1_code 26 = .ok (.putfield 16, 3) := by decide +kernel
theorem smd_M_init_29 : decode prog_7_method_1_code 29 = .ok (.aload_n 0, 1) := by decide +kernel
theorem smd_M_init_30 : decode prog_7_method_1_code 30 = .ok (.bipush 36, 2) := by decide +kernel
theorem smd_M_init_32 : decode prog_7_method_1_code 32 = .ok (.newarray .int, 2) := by decide +kernel
theorem smd_M_init_34 : decode prog_7_method_1_code 34 = .ok (.putfield 19, 3) := by decide +kernel
theorem smd_M_init_37 : decode prog_7_method_1_code 37 = .ok (.aload_n 0, 1) := by decide +kernel
theorem smd_M_init_38 : decode prog_7_method_1_code 38 = .ok (.iconst 3, 1) := by decide +kernel
theorem smd_M_init_39 : decode prog_7_method_1_code 39 = .ok (.newarray .boolean, 2) := by decide +kernel
theorem smd_M_init_41 : decode prog_7_method_1_code 41 = .ok (.putfield 22, 3) := by decide +kernel
theorem smd_M_init_44 : decode prog_7_method_1_code 44 = .ok (.aload_n 0, 1) := by decide +kernel
theorem smd_M_init_45 : decode prog_7_method_1_code 45 = .ok (.iconst 4, 1) := by decide +kernel
theorem smd_M_init_46 : decode prog_7_method_1_code 46 = .ok (.newarray .int, 2) := by decide +kernel
theorem smd_M_init_48 : decode prog_7_method_1_code 48 = .ok (.putfield 26, 3) := by decide +kernel
theorem smd_M_init_51 : decode prog_7_method_1_code 51 = .ok (.aload_n 0, 1) := by decide +kernel
theorem smd_M_init_52 : decode prog_7_method_1_code 52 = .ok (.bipush 17, 2) := by decide +kernel
theorem smd_M_init_54 : decode prog_7_method_1_code 54 = .ok (.newarray .int, 2) := by decide +kernel
theorem smd_M_init_56 : decode prog_7_method_1_code 56 = .ok (.putfield 29, 3) := by decide +kernel
theorem smd_M_init_59 : decode prog_7_method_1_code 59 = .ok (.aload_n 0, 1) := by decide +kernel
theorem smd_M_init_60 : decode prog_7_method_1_code 60 = .ok (.bipush 68, 2) := by decide +kernel
theorem smd_M_init_62 : decode prog_7_method_1_code 62 = .ok (.newarray .int, 2) := by decide +kernel
theorem smd_M_init_64 : decode prog_7_method_1_code 64 = .ok (.putfield 32, 3) := by decide +kernel
theorem smd_M_init_67 : decode prog_7_method_1_code 67 = .ok (.aload_n 0, 1) := by decide +kernel
theorem smd_M_init_68 : decode prog_7_method_1_code 68 = .ok (.bipush 68, 2) := by decide +kernel
theorem smd_M_init_70 : decode prog_7_method_1_code 70 = .ok (.newarray .int, 2) := by decide +kernel
theorem smd_M_init_72 : decode prog_7_method_1_code 72 = .ok (.putfield 35, 3) := by decide +kernel
theorem smd_M_init_75 : decode prog_7_method_1_code 75 = .ok (.aload_n 0, 1) := by decide +kernel
theorem smd_M_init_76 : decode prog_7_method_1_code 76 = .ok (.bipush 17, 2) := by decide +kernel
theorem smd_M_init_78 : decode prog_7_method_1_code 78 = .ok (.newarray .boolean, 2) := by decide +kernel
theorem smd_M_init_80 : decode prog_7_method_1_code 80 = .ok (.putfield 38, 3) := by decide +kernel
theorem smd_M_init_83 : decode prog_7_method_1_code 83 = .ok (.aload_n 0, 1) := by decide +kernel
theorem smd_M_init_84 : decode prog_7_method_1_code 84 = .ok (.bipush 7, 2) := by decide +kernel
theorem smd_M_init_86 : decode prog_7_method_1_code 86 = .ok (.newarray .int, 2) := by decide +kernel
theorem smd_M_init_88 : decode prog_7_method_1_code 88 = .ok (.putfield 41, 3) := by decide +kernel
theorem smd_M_init_91 : decode prog_7_method_1_code 91 = .ok (.aload_n 0, 1) := by decide +kernel
theorem smd_M_init_92 : decode prog_7_method_1_code 92 = .ok (.bipush 7, 2) := by decide +kernel
theorem smd_M_init_94 : decode prog_7_method_1_code 94 = .ok (.newarray .int, 2) := by decide +kernel
theorem smd_M_init_96 : decode prog_7_method_1_code 96 = .ok (.putfield 44, 3) := by decide +kernel
theorem smd_M_init_99 : decode prog_7_method_1_code 99 = .ok (.aload_n 0, 1) := by decide +kernel
theorem smd_M_init_100 : decode prog_7_method_1_code 100 = .ok (.bipush 7, 2) := by decide +kernel
theorem smd_M_init_102 : decode prog_7_method_1_code 102 = .ok (.newarray .int, 2) := by decide +kernel
theorem smd_M_init_104 : decode prog_7_method_1_code 104 = .ok (.putfield 47, 3) := by decide +kernel
theorem smd_M_init_107 : decode prog_7_method_1_code 107 = .ok (.aload_n 0, 1) := by decide +kernel
theorem smd_M_init_108 : decode prog_7_method_1_code 108 = .ok (.sipush 252, 3) := by decide +kernel
theorem smd_M_init_111 : decode prog_7_method_1_code 111 = .ok (.newarray .int, 2) := by decide +kernel
theorem smd_M_init_113 : decode prog_7_method_1_code 113 = .ok (.putfield 50, 3) := by decide +kernel
theorem smd_M_init_116 : decode prog_7_method_1_code 116 = .ok (.aload_n 0, 1) := by decide +kernel
theorem smd_M_init_117 : decode prog_7_method_1_code 117 = .ok (.bipush 7, 2) := by decide +kernel
theorem smd_M_init_119 : decode prog_7_method_1_code 119 = .ok (.newarray .int, 2) := by decide +kernel
theorem smd_M_init_121 : decode prog_7_method_1_code 121 = .ok (.putfield 53, 3) := by decide +kernel
theorem smd_M_init_124 : decode prog_7_method_1_code 124 = .ok (.aload_n 0, 1) := by decide +kernel
theorem smd_M_init_125 : decode prog_7_method_1_code 125 = .ok (.bipush 56, 2) := by decide +kernel
theorem smd_M_init_127 : decode prog_7_method_1_code 127 = .ok (.newarray .int, 2) := by decide +kernel
theorem smd_M_init_129 : decode prog_7_method_1_code 129 = .ok (.putfield 56, 3) := by decide +kernel
theorem smd_M_init_132 : decode prog_7_method_1_code 132 = .ok (.iconst 0, 1) := by decide +kernel
theorem smd_M_init_133 : decode prog_7_method_1_code 133 = .ok (.istore_n 1, 1) := by decide +kernel
theorem smd_M_init_134 : decode prog_7_method_1_code 134 = .ok (.iload_n 1, 1) := by decide +kernel
theorem smd_M_init_135 : decode prog_7_method_1_code 135 = .ok (.bipush 17, 2) := by decide +kernel
theorem smd_M_init_137 : decode prog_7_method_1_code 137 = .ok (.if_icmp .ge 16, 3) := by decide +kernel
theorem smd_M_init_140 : decode prog_7_method_1_code 140 = .ok (.aload_n 0, 1) := by decide +kernel
theorem smd_M_init_141 : decode prog_7_method_1_code 141 = .ok (.getfield 29, 3) := by decide +kernel
theorem smd_M_init_144 : decode prog_7_method_1_code 144 = .ok (.iload_n 1, 1) := by decide +kernel
theorem smd_M_init_145 : decode prog_7_method_1_code 145 = .ok (.iconst (-1), 1) := by decide +kernel
theorem smd_M_init_146 : decode prog_7_method_1_code 146 = .ok (.iastore, 1) := by decide +kernel
theorem smd_M_init_147 : decode prog_7_method_1_code 147 = .ok (.iinc 1 1, 3) := by decide +kernel
theorem smd_M_init_150 : decode prog_7_method_1_code 150 = .ok (.goto (-16), 3) := by decide +kernel
theorem smd_M_init_153 : decode prog_7_method_1_code 153 = .ok (.return_, 1) := by decide +kernel
theorem smd_M_isProcedure_0 : decode prog_7_method_2_code 0 = .ok (.iload_n 0, 1) := by decide +kernel
theorem smd_M_isProcedure_1 : decode prog_7_method_2_code 1 = .ok (.ifCond .lt 13, 3) := by decide +kernel
theorem smd_M_isProcedure_4 : decode prog_7_method_2_code 4 = .ok (.iload_n 0, 1) := by decide +kernel
theorem smd_M_isProcedure_5 : decode prog_7_method_2_code 5 = .ok (.bipush 6, 2) := by decide +kernel
theorem smd_M_isProcedure_7 : decode prog_7_method_2_code 7 = .ok (.if_icmp .ge 7, 3) := by decide +kernel
theorem smd_M_isProcedure_10 : decode prog_7_method_2_code 10 = .ok (.iconst 1, 1) := by decide +kernel
theorem smd_M_isProcedure_11 : decode prog_7_method_2_code 11 = .ok (.goto 4, 3) := by decide +kernel
theorem smd_M_isProcedure_14 : decode prog_7_method_2_code 14 = .ok (.iconst 0, 1) := by decide +kernel
theorem smd_M_isProcedure_15 : decode prog_7_method_2_code 15 = .ok (.ireturn, 1) := by decide +kernel
theorem smd_M_isType_0 : decode prog_7_method_3_code 0 = .ok (.iload_n 0, 1) := by decide +kernel
theorem smd_M_isType_1 : decode prog_7_method_3_code 1 = .ok (.ifCond .lt 12, 3) := by decide +kernel
theorem smd_M_isType_4 : decode prog_7_method_3_code 4 = .ok (.iload_n 0, 1) := by decide +kernel
theorem smd_M_isType_5 : decode prog_7_method_3_code 5 = .ok (.iconst 3, 1) := by decide +kernel
theorem smd_M_isType_6 : decode prog_7_method_3_code 6 = .ok (.if_icmp .ge 7, 3) := by decide +kernel
theorem smd_M_isType_9 : decode prog_7_method_3_code 9 = .ok (.iconst 1, 1) := by decide +kernel
theorem smd_M_isType_10 : decode prog_7_method_3_code 10 = .ok (.goto 4, 3) := by decide +kernel
theorem smd_M_isType_13 : decode prog_7_method_3_code 13 = .ok (.iconst 0, 1) := by decide +kernel
theorem smd_M_isType_14 : decode prog_7_method_3_code 14 = .ok (.ireturn, 1) := by decide +kernel
theorem smd_M_isLocal_0 : decode prog_7_method_4_code 0 = .ok (.iload_n 0, 1) := by decide +kernel
theorem smd_M_isLocal_1 : decode prog_7_method_4_code 1 = .ok (.ifCond .lt 12, 3) := by decide +kernel
theorem smd_M_isLocal_4 : decode prog_7_method_4_code 4 = .ok (.iload_n 0, 1) := by decide +kernel
theorem smd_M_isLocal_5 : decode prog_7_method_4_code 5 = .ok (.iconst 3, 1) := by decide +kernel
theorem smd_M_isLocal_6 : decode prog_7_method_4_code 6 = .ok (.if_icmp .ge 7, 3) := by decide +kernel
theorem smd_M_isLocal_9 : decode prog_7_method_4_code 9 = .ok (.iconst 1, 1) := by decide +kernel
theorem smd_M_isLocal_10 : decode prog_7_method_4_code 10 = .ok (.goto 4, 3) := by decide +kernel
theorem smd_M_isLocal_13 : decode prog_7_method_4_code 13 = .ok (.iconst 0, 1) := by decide +kernel
theorem smd_M_isLocal_14 : decode prog_7_method_4_code 14 = .ok (.ireturn, 1) := by decide +kernel
theorem smd_M_word_0 : decode prog_7_method_5_code 0 = .ok (.iload_n 1, 1) := by decide +kernel
theorem smd_M_word_1 : decode prog_7_method_5_code 1 = .ok (.invokestatic 59, 3) := by decide +kernel
theorem smd_M_word_4 : decode prog_7_method_5_code 4 = .ok (.ifCond .eq 26, 3) := by decide +kernel
theorem smd_M_word_7 : decode prog_7_method_5_code 7 = .ok (.iload_n 2, 1) := by decide +kernel
theorem smd_M_word_8 : decode prog_7_method_5_code 8 = .ok (.ifCond .lt 22, 3) := by decide +kernel
theorem smd_M_word_11 : decode prog_7_method_5_code 11 = .ok (.iload_n 2, 1) := by decide +kernel
theorem smd_M_word_12 : decode prog_7_method_5_code 12 = .ok (.aload_n 0, 1) := by decide +kernel
theorem smd_M_word_13 : decode prog_7_method_5_code 13 = .ok (.getfield 13, 3) := by decide +kernel
theorem smd_M_word_16 : decode prog_7_method_5_code 16 = .ok (.bipush 6, 2) := by decide +kernel
theorem smd_M_word_18 : decode prog_7_method_5_code 18 = .ok (.iload_n 1, 1) := by decide +kernel
theorem smd_M_word_19 : decode prog_7_method_5_code 19 = .ok (.iadd, 1) := by decide +kernel
theorem smd_M_word_20 : decode prog_7_method_5_code 20 = .ok (.iaload, 1) := by decide +kernel
theorem smd_M_word_21 : decode prog_7_method_5_code 21 = .ok (.if_icmp .gt 9, 3) := by decide +kernel
theorem smd_M_word_24 : decode prog_7_method_5_code 24 = .ok (.iload_n 2, 1) := by decide +kernel
theorem smd_M_word_25 : decode prog_7_method_5_code 25 = .ok (.bipush 12, 2) := by decide +kernel
theorem smd_M_word_27 : decode prog_7_method_5_code 27 = .ok (.if_icmp .ne 5, 3) := by decide +kernel
theorem smd_M_word_30 : decode prog_7_method_5_code 30 = .ok (.iconst (-1), 1) := by decide +kernel
theorem smd_M_word_31 : decode prog_7_method_5_code 31 = .ok (.ireturn, 1) := by decide +kernel
theorem smd_M_word_32 : decode prog_7_method_5_code 32 = .ok (.aload_n 0, 1) := by decide +kernel
theorem smd_M_word_33 : decode prog_7_method_5_code 33 = .ok (.getfield 63, 3) := by decide +kernel
theorem smd_M_word_36 : decode prog_7_method_5_code 36 = .ok (.ifCond .eq 6, 3) := by decide +kernel
theorem smd_M_word_39 : decode prog_7_method_5_code 39 = .ok (.bipush (-2), 2) := by decide +kernel
theorem smd_M_word_41 : decode prog_7_method_5_code 41 = .ok (.ireturn, 1) := by decide +kernel
theorem smd_M_word_42 : decode prog_7_method_5_code 42 = .ok (.sipush 288, 3) := by decide +kernel
theorem smd_M_word_45 : decode prog_7_method_5_code 45 = .ok (.bipush 48, 2) := by decide +kernel
theorem smd_M_word_47 : decode prog_7_method_5_code 47 = .ok (.iload_n 1, 1) := by decide +kernel
theorem smd_M_word_48 : decode prog_7_method_5_code 48 = .ok (.imul, 1) := by decide +kernel
theorem smd_M_word_49 : decode prog_7_method_5_code 49 = .ok (.iadd, 1) := by decide +kernel
theorem smd_M_word_50 : decode prog_7_method_5_code 50 = .ok (.iconst 4, 1) := by decide +kernel
theorem smd_M_word_51 : decode prog_7_method_5_code 51 = .ok (.iload_n 2, 1) := by decide +kernel
theorem smd_M_word_52 : decode prog_7_method_5_code 52 = .ok (.imul, 1) := by decide +kernel
theorem smd_M_word_53 : decode prog_7_method_5_code 53 = .ok (.iadd, 1) := by decide +kernel
theorem smd_M_word_54 : decode prog_7_method_5_code 54 = .ok (.istore 7, 2) := by decide +kernel
theorem smd_M_word_56 : decode prog_7_method_5_code 56 = .ok (.aload_n 0, 1) := by decide +kernel
theorem smd_M_word_57 : decode prog_7_method_5_code 57 = .ok (.getfield 7, 3) := by decide +kernel
theorem smd_M_word_60 : decode prog_7_method_5_code 60 = .ok (.iload 7, 2) := by decide +kernel
theorem smd_M_word_62 : decode prog_7_method_5_code 62 = .ok (.iload_n 3, 1) := by decide +kernel
theorem smd_M_word_63 : decode prog_7_method_5_code 63 = .ok (.iastore, 1) := by decide +kernel
theorem smd_M_word_64 : decode prog_7_method_5_code 64 = .ok (.aload_n 0, 1) := by decide +kernel
theorem smd_M_word_65 : decode prog_7_method_5_code 65 = .ok (.getfield 7, 3) := by decide +kernel
theorem smd_M_word_68 : decode prog_7_method_5_code 68 = .ok (.iload 7, 2) := by decide +kernel
theorem smd_M_word_70 : decode prog_7_method_5_code 70 = .ok (.iconst 1, 1) := by decide +kernel
theorem smd_M_word_71 : decode prog_7_method_5_code 71 = .ok (.iadd, 1) := by decide +kernel
theorem smd_M_word_72 : decode prog_7_method_5_code 72 = .ok (.iload 4, 2) := by decide +kernel
theorem smd_M_word_74 : decode prog_7_method_5_code 74 = .ok (.iastore, 1) := by decide +kernel
theorem smd_M_word_75 : decode prog_7_method_5_code 75 = .ok (.aload_n 0, 1) := by decide +kernel
theorem smd_M_word_76 : decode prog_7_method_5_code 76 = .ok (.getfield 7, 3) := by decide +kernel
theorem smd_M_word_79 : decode prog_7_method_5_code 79 = .ok (.iload 7, 2) := by decide +kernel
theorem smd_M_word_81 : decode prog_7_method_5_code 81 = .ok (.iconst 2, 1) := by decide +kernel
theorem smd_M_word_82 : decode prog_7_method_5_code 82 = .ok (.iadd, 1) := by decide +kernel
theorem smd_M_word_83 : decode prog_7_method_5_code 83 = .ok (.iload 5, 2) := by decide +kernel
theorem smd_M_word_85 : decode prog_7_method_5_code 85 = .ok (.iastore, 1) := by decide +kernel
theorem smd_M_word_86 : decode prog_7_method_5_code 86 = .ok (.aload_n 0, 1) := by decide +kernel
theorem smd_M_word_87 : decode prog_7_method_5_code 87 = .ok (.getfield 7, 3) := by decide +kernel
theorem smd_M_word_90 : decode prog_7_method_5_code 90 = .ok (.iload 7, 2) := by decide +kernel
theorem smd_M_word_92 : decode prog_7_method_5_code 92 = .ok (.iconst 3, 1) := by decide +kernel
theorem smd_M_word_93 : decode prog_7_method_5_code 93 = .ok (.iadd, 1) := by decide +kernel
theorem smd_M_word_94 : decode prog_7_method_5_code 94 = .ok (.iload 6, 2) := by decide +kernel
theorem smd_M_word_96 : decode prog_7_method_5_code 96 = .ok (.iastore, 1) := by decide +kernel
theorem smd_M_word_97 : decode prog_7_method_5_code 97 = .ok (.aload_n 0, 1) := by decide +kernel
theorem smd_M_word_98 : decode prog_7_method_5_code 98 = .ok (.getfield 13, 3) := by decide +kernel
theorem smd_M_word_101 : decode prog_7_method_5_code 101 = .ok (.bipush 6, 2) := by decide +kernel
theorem smd_M_word_103 : decode prog_7_method_5_code 103 = .ok (.iload_n 1, 1) := by decide +kernel
theorem smd_M_word_104 : decode prog_7_method_5_code 104 = .ok (.iadd, 1) := by decide +kernel
theorem smd_M_word_105 : decode prog_7_method_5_code 105 = .ok (.iload_n 2, 1) := by decide +kernel
theorem smd_M_word_106 : decode prog_7_method_5_code 106 = .ok (.aload_n 0, 1) := by decide +kernel
theorem smd_M_word_107 : decode prog_7_method_5_code 107 = .ok (.getfield 13, 3) := by decide +kernel
theorem smd_M_word_110 : decode prog_7_method_5_code 110 = .ok (.bipush 6, 2) := by decide +kernel
theorem smd_M_word_112 : decode prog_7_method_5_code 112 = .ok (.iload_n 1, 1) := by decide +kernel
theorem smd_M_word_113 : decode prog_7_method_5_code 113 = .ok (.iadd, 1) := by decide +kernel
theorem smd_M_word_114 : decode prog_7_method_5_code 114 = .ok (.iaload, 1) := by decide +kernel
theorem smd_M_word_115 : decode prog_7_method_5_code 115 = .ok (.if_icmp .ne 9, 3) := by decide +kernel
theorem smd_M_word_118 : decode prog_7_method_5_code 118 = .ok (.iload_n 2, 1) := by decide +kernel
theorem smd_M_word_119 : decode prog_7_method_5_code 119 = .ok (.iconst 1, 1) := by decide +kernel
theorem smd_M_word_120 : decode prog_7_method_5_code 120 = .ok (.iadd, 1) := by decide +kernel
theorem smd_M_word_121 : decode prog_7_method_5_code 121 = .ok (.goto 12, 3) := by decide +kernel
theorem smd_M_word_124 : decode prog_7_method_5_code 124 = .ok (.aload_n 0, 1) := by decide +kernel
theorem smd_M_word_125 : decode prog_7_method_5_code 125 = .ok (.getfield 13, 3) := by decide +kernel
theorem smd_M_word_128 : decode prog_7_method_5_code 128 = .ok (.bipush 6, 2) := by decide +kernel
theorem smd_M_word_130 : decode prog_7_method_5_code 130 = .ok (.iload_n 1, 1) := by decide +kernel
theorem smd_M_word_131 : decode prog_7_method_5_code 131 = .ok (.iadd, 1) := by decide +kernel
theorem smd_M_word_132 : decode prog_7_method_5_code 132 = .ok (.iaload, 1) := by decide +kernel
theorem smd_M_word_133 : decode prog_7_method_5_code 133 = .ok (.iastore, 1) := by decide +kernel
theorem smd_M_word_134 : decode prog_7_method_5_code 134 = .ok (.aload_n 0, 1) := by decide +kernel
theorem smd_M_word_135 : decode prog_7_method_5_code 135 = .ok (.getfield 13, 3) := by decide +kernel
theorem smd_M_word_138 : decode prog_7_method_5_code 138 = .ok (.bipush 6, 2) := by decide +kernel
theorem smd_M_word_140 : decode prog_7_method_5_code 140 = .ok (.iload_n 1, 1) := by decide +kernel
theorem smd_M_word_141 : decode prog_7_method_5_code 141 = .ok (.iadd, 1) := by decide +kernel
theorem smd_M_word_142 : decode prog_7_method_5_code 142 = .ok (.iaload, 1) := by decide +kernel
theorem smd_M_word_143 : decode prog_7_method_5_code 143 = .ok (.ireturn, 1) := by decide +kernel
theorem smd_M_cut_0 : decode prog_7_method_6_code 0 = .ok (.iload_n 1, 1) := by decide +kernel
theorem smd_M_cut_1 : decode prog_7_method_6_code 1 = .ok (.invokestatic 59, 3) := by decide +kernel
theorem smd_M_cut_4 : decode prog_7_method_6_code 4 = .ok (.ifCond .eq 27, 3) := by decide +kernel
theorem smd_M_cut_7 : decode prog_7_method_6_code 7 = .ok (.iload_n 2, 1) := by decide +kernel
theorem smd_M_cut_8 : decode prog_7_method_6_code 8 = .ok (.ifCond .lt 23, 3) := by decide +kernel
theorem smd_M_cut_11 : decode prog_7_method_6_code 11 = .ok (.iload_n 2, 1) := by decide +kernel
theorem smd_M_cut_12 : decode prog_7_method_6_code 12 = .ok (.aload_n 0, 1) := by decide +kernel
theorem smd_M_cut_13 : decode prog_7_method_6_code 13 = .ok (.getfield 13, 3) := by decide +kernel
theorem smd_M_cut_16 : decode prog_7_method_6_code 16 = .ok (.bipush 6, 2) := by decide +kernel
theorem smd_M_cut_18 : decode prog_7_method_6_code 18 = .ok (.iload_n 1, 1) := by decide +kernel
theorem smd_M_cut_19 : decode prog_7_method_6_code 19 = .ok (.iadd, 1) := by decide +kernel
theorem smd_M_cut_20 : decode prog_7_method_6_code 20 = .ok (.iaload, 1) := by decide +kernel
theorem smd_M_cut_21 : decode prog_7_method_6_code 21 = .ok (.if_icmp .gt 10, 3) := by decide +kernel
theorem smd_M_cut_24 : decode prog_7_method_6_code 24 = .ok (.aload_n 0, 1) := by decide +kernel
theorem smd_M_cut_25 : decode prog_7_method_6_code 25 = .ok (.getfield 63, 3) := by decide +kernel
theorem smd_M_cut_28 : decode prog_7_method_6_code 28 = .ok (.ifCond .eq 5, 3) := by decide +kernel
theorem smd_M_cut_31 : decode prog_7_method_6_code 31 = .ok (.iconst 0, 1) := by decide +kernel
theorem smd_M_cut_32 : decode prog_7_method_6_code 32 = .ok (.ireturn, 1) := by decide +kernel
theorem smd_M_cut_33 : decode prog_7_method_6_code 33 = .ok (.aload_n 0, 1) := by decide +kernel
theorem smd_M_cut_34 : decode prog_7_method_6_code 34 = .ok (.getfield 13, 3) := by decide +kernel
theorem smd_M_cut_37 : decode prog_7_method_6_code 37 = .ok (.bipush 6, 2) := by decide +kernel
theorem smd_M_cut_39 : decode prog_7_method_6_code 39 = .ok (.iload_n 1, 1) := by decide +kernel
theorem smd_M_cut_40 : decode prog_7_method_6_code 40 = .ok (.iadd, 1) := by decide +kernel
theorem smd_M_cut_41 : decode prog_7_method_6_code 41 = .ok (.iload_n 2, 1) := by decide +kernel
theorem smd_M_cut_42 : decode prog_7_method_6_code 42 = .ok (.iastore, 1) := by decide +kernel
theorem smd_M_cut_43 : decode prog_7_method_6_code 43 = .ok (.iconst 1, 1) := by decide +kernel
theorem smd_M_cut_44 : decode prog_7_method_6_code 44 = .ok (.ireturn, 1) := by decide +kernel
theorem smd_M_clearRules_0 : decode prog_7_method_7_code 0 = .ok (.bipush 12, 2) := by decide +kernel
theorem smd_M_clearRules_2 : decode prog_7_method_7_code 2 = .ok (.iload_n 1, 1) := by decide +kernel
theorem smd_M_clearRules_3 : decode prog_7_method_7_code 3 = .ok (.imul, 1) := by decide +kernel
theorem smd_M_clearRules_4 : decode prog_7_method_7_code 4 = .ok (.istore_n 2, 1) := by decide +kernel
theorem smd_M_clearRules_5 : decode prog_7_method_7_code 5 = .ok (.iload_n 2, 1) := by decide +kernel
theorem smd_M_clearRules_6 : decode prog_7_method_7_code 6 = .ok (.bipush 12, 2) := by decide +kernel
theorem smd_M_clearRules_8 : decode prog_7_method_7_code 8 = .ok (.iload_n 1, 1) := by decide +kernel
theorem smd_M_clearRules_9 : decode prog_7_method_7_code 9 = .ok (.imul, 1) := by decide +kernel
theorem smd_M_clearRules_10 : decode prog_7_method_7_code 10 = .ok (.bipush 12, 2) := by decide +kernel
theorem smd_M_clearRules_12 : decode prog_7_method_7_code 12 = .ok (.iadd, 1) := by decide +kernel
theorem smd_M_clearRules_13 : decode prog_7_method_7_code 13 = .ok (.if_icmp .ge 16, 3) := by decide +kernel
theorem smd_M_clearRules_16 : decode prog_7_method_7_code 16 = .ok (.aload_n 0, 1) := by decide +kernel
theorem smd_M_clearRules_17 : decode prog_7_method_7_code 17 = .ok (.getfield 19, 3) := by decide +kernel
theorem smd_M_clearRules_20 : decode prog_7_method_7_code 20 = .ok (.iload_n 2, 1) := by decide +kernel
theorem smd_M_clearRules_21 : decode prog_7_method_7_code 21 = .ok (.iconst 0, 1) := by decide +kernel
theorem smd_M_clearRules_22 : decode prog_7_method_7_code 22 = .ok (.iastore, 1) := by decide +kernel
theorem smd_M_clearRules_23 : decode prog_7_method_7_code 23 = .ok (.iinc 2 1, 3) := by decide +kernel
theorem smd_M_clearRules_26 : decode prog_7_method_7_code 26 = .ok (.goto (-21), 3) := by decide +kernel
theorem smd_M_clearRules_29 : decode prog_7_method_7_code 29 = .ok (.return_, 1) := by decide +kernel
theorem smd_M_fields_0 : decode prog_7_method_8_code 0 = .ok (.iload_n 1, 1) := by decide +kernel
theorem smd_M_fields_1 : decode prog_7_method_8_code 1 = .ok (.invokestatic 67, 3) := by decide +kernel
theorem smd_M_fields_4 : decode prog_7_method_8_code 4 = .ok (.ifCond .eq 19, 3) := by decide +kernel
theorem smd_M_fields_7 : decode prog_7_method_8_code 7 = .ok (.iload_n 2, 1) := by decide +kernel
theorem smd_M_fields_8 : decode prog_7_method_8_code 8 = .ok (.ifCond .lt 15, 3) := by decide +kernel
theorem smd_M_fields_11 : decode prog_7_method_8_code 11 = .ok (.iload_n 2, 1) := by decide +kernel
theorem smd_M_fields_12 : decode prog_7_method_8_code 12 = .ok (.iconst 4, 1) := by decide +kernel
theorem smd_M_fields_13 : decode prog_7_method_8_code 13 = .ok (.if_icmp .gt 10, 3) := by decide +kernel
theorem smd_M_fields_16 : decode prog_7_method_8_code 16 = .ok (.aload_n 0, 1) := by decide +kernel
theorem smd_M_fields_17 : decode prog_7_method_8_code 17 = .ok (.getfield 63, 3) := by decide +kernel
theorem smd_M_fields_20 : decode prog_7_method_8_code 20 = .ok (.ifCond .eq 5, 3) := by decide +kernel
theorem smd_M_fields_23 : decode prog_7_method_8_code 23 = .ok (.iconst 0, 1) := by decide +kernel
theorem smd_M_fields_24 : decode prog_7_method_8_code 24 = .ok (.ireturn, 1) := by decide +kernel
theorem smd_M_fields_25 : decode prog_7_method_8_code 25 = .ok (.aload_n 0, 1) := by decide +kernel
theorem smd_M_fields_26 : decode prog_7_method_8_code 26 = .ok (.getfield 16, 3) := by decide +kernel
theorem smd_M_fields_29 : decode prog_7_method_8_code 29 = .ok (.iconst 3, 1) := by decide +kernel
theorem smd_M_fields_30 : decode prog_7_method_8_code 30 = .ok (.iload_n 1, 1) := by decide +kernel
theorem smd_M_fields_31 : decode prog_7_method_8_code 31 = .ok (.iadd, 1) := by decide +kernel
theorem smd_M_fields_32 : decode prog_7_method_8_code 32 = .ok (.iload_n 2, 1) := by decide +kernel
theorem smd_M_fields_33 : decode prog_7_method_8_code 33 = .ok (.iastore, 1) := by decide +kernel
theorem smd_M_fields_34 : decode prog_7_method_8_code 34 = .ok (.aload_n 0, 1) := by decide +kernel
theorem smd_M_fields_35 : decode prog_7_method_8_code 35 = .ok (.iload_n 1, 1) := by decide +kernel
theorem smd_M_fields_36 : decode prog_7_method_8_code 36 = .ok (.invokevirtual 70, 3) := by decide +kernel
theorem smd_M_fields_39 : decode prog_7_method_8_code 39 = .ok (.aload_n 0, 1) := by decide +kernel
theorem smd_M_fields_40 : decode prog_7_method_8_code 40 = .ok (.getfield 22, 3) := by decide +kernel
theorem smd_M_fields_43 : decode prog_7_method_8_code 43 = .ok (.iload_n 1, 1) := by decide +kernel
theorem smd_M_fields_44 : decode prog_7_method_8_code 44 = .ok (.iconst 1, 1) := by decide +kernel
theorem smd_M_fields_45 : decode prog_7_method_8_code 45 = .ok (.bastore, 1) := by decide +kernel
theorem smd_M_fields_46 : decode prog_7_method_8_code 46 = .ok (.iconst 1, 1) := by decide +kernel
theorem smd_M_fields_47 : decode prog_7_method_8_code 47 = .ok (.ireturn, 1) := by decide +kernel
theorem smd_M_rule_0 : decode prog_7_method_9_code 0 = .ok (.iload_n 1, 1) := by decide +kernel
theorem smd_M_rule_1 : decode prog_7_method_9_code 1 = .ok (.invokestatic 67, 3) := by decide +kernel
theorem smd_M_rule_4 : decode prog_7_method_9_code 4 = .ok (.ifCond .eq 39, 3) := by decide +kernel
theorem smd_M_rule_7 : decode prog_7_method_9_code 7 = .ok (.iload_n 2, 1) := by decide +kernel
theorem smd_M_rule_8 : decode prog_7_method_9_code 8 = .ok (.ifCond .lt 35, 3) := by decide +kernel
theorem smd_M_rule_11 : decode prog_7_method_9_code 11 = .ok (.iload_n 2, 1) := by decide +kernel
theorem smd_M_rule_12 : decode prog_7_method_9_code 12 = .ok (.aload_n 0, 1) := by decide +kernel
theorem smd_M_rule_13 : decode prog_7_method_9_code 13 = .ok (.getfield 16, 3) := by decide +kernel
theorem smd_M_rule_16 : decode prog_7_method_9_code 16 = .ok (.iconst 3, 1) := by decide +kernel
theorem smd_M_rule_17 : decode prog_7_method_9_code 17 = .ok (.iload_n 1, 1) := by decide +kernel
theorem smd_M_rule_18 : decode prog_7_method_9_code 18 = .ok (.iadd, 1) := by decide +kernel
theorem smd_M_rule_19 : decode prog_7_method_9_code 19 = .ok (.iaload, 1) := by decide +kernel
theorem smd_M_rule_20 : decode prog_7_method_9_code 20 = .ok (.if_icmp .ge 23, 3) := by decide +kernel
theorem smd_M_rule_23 : decode prog_7_method_9_code 23 = .ok (.iload_n 3, 1) := by decide +kernel
theorem smd_M_rule_24 : decode prog_7_method_9_code 24 = .ok (.ifCond .lt 19, 3) := by decide +kernel
theorem smd_M_rule_27 : decode prog_7_method_9_code 27 = .ok (.iload_n 3, 1) := by decide +kernel
theorem smd_M_rule_28 : decode prog_7_method_9_code 28 = .ok (.iconst 2, 1) := by decide +kernel
theorem smd_M_rule_29 : decode prog_7_method_9_code 29 = .ok (.if_icmp .gt 14, 3) := by decide +kernel
theorem smd_M_rule_32 : decode prog_7_method_9_code 32 = .ok (.iload 4, 2) := by decide +kernel
theorem smd_M_rule_34 : decode prog_7_method_9_code 34 = .ok (.ifCond .lt 9, 3) := by decide +kernel
theorem smd_M_rule_37 : decode prog_7_method_9_code 37 = .ok (.iload 4, 2) := by decide +kernel
theorem smd_M_rule_39 : decode prog_7_method_9_code 39 = .ok (.iconst 3, 1) := by decide +kernel
theorem smd_M_rule_40 : decode prog_7_method_9_code 40 = .ok (.if_icmp .le 5, 3) := by decide +kernel
theorem smd_M_rule_43 : decode prog_7_method_9_code 43 = .ok (.iconst (-1), 1) := by decide +kernel
theorem smd_M_rule_44 : decode prog_7_method_9_code 44 = .ok (.ireturn, 1) := by decide +kernel
theorem smd_M_rule_45 : decode prog_7_method_9_code 45 = .ok (.aload_n 0, 1) := by decide +kernel
theorem smd_M_rule_46 : decode prog_7_method_9_code 46 = .ok (.getfield 63, 3) := by decide +kernel
theorem smd_M_rule_49 : decode prog_7_method_9_code 49 = .ok (.ifCond .eq 6, 3) := by decide +kernel
theorem smd_M_rule_52 : decode prog_7_method_9_code 52 = .ok (.bipush (-2), 2) := by decide +kernel
theorem smd_M_rule_54 : decode prog_7_method_9_code 54 = .ok (.ireturn, 1) := by decide +kernel
theorem smd_M_rule_55 : decode prog_7_method_9_code 55 = .ok (.aload_n 0, 1) := by decide +kernel
theorem smd_M_rule_56 : decode prog_7_method_9_code 56 = .ok (.getfield 19, 3) := by decide +kernel
theorem smd_M_rule_59 : decode prog_7_method_9_code 59 = .ok (.bipush 12, 2) := by decide +kernel
theorem smd_M_rule_61 : decode prog_7_method_9_code 61 = .ok (.iload_n 1, 1) := by decide +kernel
theorem smd_M_rule_62 : decode prog_7_method_9_code 62 = .ok (.imul, 1) := by decide +kernel
theorem smd_M_rule_63 : decode prog_7_method_9_code 63 = .ok (.iconst 3, 1) := by decide +kernel
theorem smd_M_rule_64 : decode prog_7_method_9_code 64 = .ok (.iload_n 2, 1) := by decide +kernel
theorem smd_M_rule_65 : decode prog_7_method_9_code 65 = .ok (.imul, 1) := by decide +kernel
theorem smd_M_rule_66 : decode prog_7_method_9_code 66 = .ok (.iadd, 1) := by decide +kernel
theorem smd_M_rule_67 : decode prog_7_method_9_code 67 = .ok (.iload_n 3, 1) := by decide +kernel
theorem smd_M_rule_68 : decode prog_7_method_9_code 68 = .ok (.iastore, 1) := by decide +kernel
theorem smd_M_rule_69 : decode prog_7_method_9_code 69 = .ok (.aload_n 0, 1) := by decide +kernel
theorem smd_M_rule_70 : decode prog_7_method_9_code 70 = .ok (.getfield 19, 3) := by decide +kernel
theorem smd_M_rule_73 : decode prog_7_method_9_code 73 = .ok (.bipush 12, 2) := by decide +kernel
theorem smd_M_rule_75 : decode prog_7_method_9_code 75 = .ok (.iload_n 1, 1) := by decide +kernel
theorem smd_M_rule_76 : decode prog_7_method_9_code 76 = .ok (.imul, 1) := by decide +kernel
theorem smd_M_rule_77 : decode prog_7_method_9_code 77 = .ok (.iconst 3, 1) := by decide +kernel
theorem smd_M_rule_78 : decode prog_7_method_9_code 78 = .ok (.iload_n 2, 1) := by decide +kernel
theorem smd_M_rule_79 : decode prog_7_method_9_code 79 = .ok (.imul, 1) := by decide +kernel
theorem smd_M_rule_80 : decode prog_7_method_9_code 80 = .ok (.iadd, 1) := by decide +kernel
theorem smd_M_rule_81 : decode prog_7_method_9_code 81 = .ok (.iconst 1, 1) := by decide +kernel
theorem smd_M_rule_82 : decode prog_7_method_9_code 82 = .ok (.iadd, 1) := by decide +kernel
theorem smd_M_rule_83 : decode prog_7_method_9_code 83 = .ok (.iload 4, 2) := by decide +kernel
theorem smd_M_rule_85 : decode prog_7_method_9_code 85 = .ok (.iastore, 1) := by decide +kernel
theorem smd_M_rule_86 : decode prog_7_method_9_code 86 = .ok (.aload_n 0, 1) := by decide +kernel
theorem smd_M_rule_87 : decode prog_7_method_9_code 87 = .ok (.getfield 19, 3) := by decide +kernel
theorem smd_M_rule_90 : decode prog_7_method_9_code 90 = .ok (.bipush 12, 2) := by decide +kernel
theorem smd_M_rule_92 : decode prog_7_method_9_code 92 = .ok (.iload_n 1, 1) := by decide +kernel
theorem smd_M_rule_93 : decode prog_7_method_9_code 93 = .ok (.imul, 1) := by decide +kernel
theorem smd_M_rule_94 : decode prog_7_method_9_code 94 = .ok (.iconst 3, 1) := by decide +kernel
theorem smd_M_rule_95 : decode prog_7_method_9_code 95 = .ok (.iload_n 2, 1) := by decide +kernel
theorem smd_M_rule_96 : decode prog_7_method_9_code 96 = .ok (.imul, 1) := by decide +kernel
theorem smd_M_rule_97 : decode prog_7_method_9_code 97 = .ok (.iadd, 1) := by decide +kernel
theorem smd_M_rule_98 : decode prog_7_method_9_code 98 = .ok (.iconst 2, 1) := by decide +kernel
theorem smd_M_rule_99 : decode prog_7_method_9_code 99 = .ok (.iadd, 1) := by decide +kernel
theorem smd_M_rule_100 : decode prog_7_method_9_code 100 = .ok (.iload 5, 2) := by decide +kernel
theorem smd_M_rule_102 : decode prog_7_method_9_code 102 = .ok (.iastore, 1) := by decide +kernel
theorem smd_M_rule_103 : decode prog_7_method_9_code 103 = .ok (.aload_n 0, 1) := by decide +kernel
theorem smd_M_rule_104 : decode prog_7_method_9_code 104 = .ok (.getfield 22, 3) := by decide +kernel
theorem smd_M_rule_107 : decode prog_7_method_9_code 107 = .ok (.iload_n 1, 1) := by decide +kernel
theorem smd_M_rule_108 : decode prog_7_method_9_code 108 = .ok (.iconst 1, 1) := by decide +kernel
theorem smd_M_rule_109 : decode prog_7_method_9_code 109 = .ok (.bastore, 1) := by decide +kernel
theorem smd_M_rule_110 : decode prog_7_method_9_code 110 = .ok (.iconst 0, 1) := by decide +kernel
theorem smd_M_rule_111 : decode prog_7_method_9_code 111 = .ok (.ireturn, 1) := by decide +kernel
theorem smd_M_settle_0 : decode prog_7_method_10_code 0 = .ok (.iconst 0, 1) := by decide +kernel
theorem smd_M_settle_1 : decode prog_7_method_10_code 1 = .ok (.istore_n 1, 1) := by decide +kernel
theorem smd_M_settle_2 : decode prog_7_method_10_code 2 = .ok (.iload_n 1, 1) := by decide +kernel
theorem smd_M_settle_3 : decode prog_7_method_10_code 3 = .ok (.iconst 3, 1) := by decide +kernel
theorem smd_M_settle_4 : decode prog_7_method_10_code 4 = .ok (.if_icmp .ge 21, 3) := by decide +kernel
theorem smd_M_settle_7 : decode prog_7_method_10_code 7 = .ok (.aload_n 0, 1) := by decide +kernel
theorem smd_M_settle_8 : decode prog_7_method_10_code 8 = .ok (.iload_n 1, 1) := by decide +kernel
theorem smd_M_settle_9 : decode prog_7_method_10_code 9 = .ok (.invokevirtual 70, 3) := by decide +kernel
theorem smd_M_settle_12 : decode prog_7_method_10_code 12 = .ok (.aload_n 0, 1) := by decide +kernel
theorem smd_M_settle_13 : decode prog_7_method_10_code 13 = .ok (.getfield 22, 3) := by decide +kernel
theorem smd_M_settle_16 : decode prog_7_method_10_code 16 = .ok (.iload_n 1, 1) := by decide +kernel
theorem smd_M_settle_17 : decode prog_7_method_10_code 17 = .ok (.iconst 0, 1) := by decide +kernel
theorem smd_M_settle_18 : decode prog_7_method_10_code 18 = .ok (.bastore, 1) := by decide +kernel
theorem smd_M_settle_19 : decode prog_7_method_10_code 19 = .ok (.iinc 1 1, 3) := by decide +kernel
theorem smd_M_settle_22 : decode prog_7_method_10_code 22 = .ok (.goto (-20), 3) := by decide +kernel
theorem smd_M_settle_25 : decode prog_7_method_10_code 25 = .ok (.return_, 1) := by decide +kernel
theorem smd_M_reset_0 : decode prog_7_method_11_code 0 = .ok (.aload_n 0, 1) := by decide +kernel
theorem smd_M_reset_1 : decode prog_7_method_11_code 1 = .ok (.getfield 63, 3) := by decide +kernel
theorem smd_M_reset_4 : decode prog_7_method_11_code 4 = .ok (.ifCond .eq 5, 3) := by decide +kernel
theorem smd_M_reset_7 : decode prog_7_method_11_code 7 = .ok (.iconst 0, 1) := by decide +kernel
theorem smd_M_reset_8 : decode prog_7_method_11_code 8 = .ok (.ireturn, 1) := by decide +kernel
theorem smd_M_reset_9 : decode prog_7_method_11_code 9 = .ok (.iconst 0, 1) := by decide +kernel
theorem smd_M_reset_10 : decode prog_7_method_11_code 10 = .ok (.istore_n 1, 1) := by decide +kernel
theorem smd_M_reset_11 : decode prog_7_method_11_code 11 = .ok (.iload_n 1, 1) := by decide +kernel
theorem smd_M_reset_12 : decode prog_7_method_11_code 12 = .ok (.sipush 288, 3) := by decide +kernel
theorem smd_M_reset_15 : decode prog_7_method_11_code 15 = .ok (.if_icmp .ge 25, 3) := by decide +kernel
theorem smd_M_reset_18 : decode prog_7_method_11_code 18 = .ok (.aload_n 0, 1) := by decide +kernel
theorem smd_M_reset_19 : decode prog_7_method_11_code 19 = .ok (.getfield 7, 3) := by decide +kernel
theorem smd_M_reset_22 : decode prog_7_method_11_code 22 = .ok (.sipush 288, 3) := by decide +kernel
theorem smd_M_reset_25 : decode prog_7_method_11_code 25 = .ok (.iload_n 1, 1) := by decide +kernel
theorem smd_M_reset_26 : decode prog_7_method_11_code 26 = .ok (.iadd, 1) := by decide +kernel
theorem smd_M_reset_27 : decode prog_7_method_11_code 27 = .ok (.aload_n 0, 1) := by decide +kernel
theorem smd_M_reset_28 : decode prog_7_method_11_code 28 = .ok (.getfield 7, 3) := by decide +kernel
theorem smd_M_reset_31 : decode prog_7_method_11_code 31 = .ok (.iload_n 1, 1) := by decide +kernel
theorem smd_M_reset_32 : decode prog_7_method_11_code 32 = .ok (.iaload, 1) := by decide +kernel
theorem smd_M_reset_33 : decode prog_7_method_11_code 33 = .ok (.iastore, 1) := by decide +kernel
theorem smd_M_reset_34 : decode prog_7_method_11_code 34 = .ok (.iinc 1 1, 3) := by decide +kernel
theorem smd_M_reset_37 : decode prog_7_method_11_code 37 = .ok (.goto (-26), 3) := by decide +kernel
theorem smd_M_reset_40 : decode prog_7_method_11_code 40 = .ok (.iconst 0, 1) := by decide +kernel
theorem smd_M_reset_41 : decode prog_7_method_11_code 41 = .ok (.istore_n 1, 1) := by decide +kernel
theorem smd_M_reset_42 : decode prog_7_method_11_code 42 = .ok (.iload_n 1, 1) := by decide +kernel
theorem smd_M_reset_43 : decode prog_7_method_11_code 43 = .ok (.bipush 6, 2) := by decide +kernel
theorem smd_M_reset_45 : decode prog_7_method_11_code 45 = .ok (.if_icmp .ge 24, 3) := by decide +kernel
theorem smd_M_reset_48 : decode prog_7_method_11_code 48 = .ok (.aload_n 0, 1) := by decide +kernel
theorem smd_M_reset_49 : decode prog_7_method_11_code 49 = .ok (.getfield 13, 3) := by decide +kernel
theorem smd_M_reset_52 : decode prog_7_method_11_code 52 = .ok (.bipush 6, 2) := by decide +kernel
theorem smd_M_reset_54 : decode prog_7_method_11_code 54 = .ok (.iload_n 1, 1) := by decide +kernel
theorem smd_M_reset_55 : decode prog_7_method_11_code 55 = .ok (.iadd, 1) := by decide +kernel
theorem smd_M_reset_56 : decode prog_7_method_11_code 56 = .ok (.aload_n 0, 1) := by decide +kernel
theorem smd_M_reset_57 : decode prog_7_method_11_code 57 = .ok (.getfield 13, 3) := by decide +kernel
theorem smd_M_reset_60 : decode prog_7_method_11_code 60 = .ok (.iload_n 1, 1) := by decide +kernel
theorem smd_M_reset_61 : decode prog_7_method_11_code 61 = .ok (.iaload, 1) := by decide +kernel
theorem smd_M_reset_62 : decode prog_7_method_11_code 62 = .ok (.iastore, 1) := by decide +kernel
theorem smd_M_reset_63 : decode prog_7_method_11_code 63 = .ok (.iinc 1 1, 3) := by decide +kernel
theorem smd_M_reset_66 : decode prog_7_method_11_code 66 = .ok (.goto (-24), 3) := by decide +kernel
theorem smd_M_reset_69 : decode prog_7_method_11_code 69 = .ok (.iconst 0, 1) := by decide +kernel
theorem smd_M_reset_70 : decode prog_7_method_11_code 70 = .ok (.istore_n 1, 1) := by decide +kernel
theorem smd_M_reset_71 : decode prog_7_method_11_code 71 = .ok (.iload_n 1, 1) := by decide +kernel
theorem smd_M_reset_72 : decode prog_7_method_11_code 72 = .ok (.iconst 3, 1) := by decide +kernel
theorem smd_M_reset_73 : decode prog_7_method_11_code 73 = .ok (.if_icmp .ge 23, 3) := by decide +kernel
theorem smd_M_reset_76 : decode prog_7_method_11_code 76 = .ok (.aload_n 0, 1) := by decide +kernel
theorem smd_M_reset_77 : decode prog_7_method_11_code 77 = .ok (.getfield 16, 3) := by decide +kernel
theorem smd_M_reset_80 : decode prog_7_method_11_code 80 = .ok (.iconst 3, 1) := by decide +kernel
theorem smd_M_reset_81 : decode prog_7_method_11_code 81 = .ok (.iload_n 1, 1) := by decide +kernel
theorem smd_M_reset_82 : decode prog_7_method_11_code 82 = .ok (.iadd, 1) := by decide +kernel
theorem smd_M_reset_83 : decode prog_7_method_11_code 83 = .ok (.aload_n 0, 1) := by decide +kernel
theorem smd_M_reset_84 : decode prog_7_method_11_code 84 = .ok (.getfield 16, 3) := by decide +kernel
theorem smd_M_reset_87 : decode prog_7_method_11_code 87 = .ok (.iload_n 1, 1) := by decide +kernel
theorem smd_M_reset_88 : decode prog_7_method_11_code 88 = .ok (.iaload, 1) := by decide +kernel
theorem smd_M_reset_89 : decode prog_7_method_11_code 89 = .ok (.iastore, 1) := by decide +kernel
theorem smd_M_reset_90 : decode prog_7_method_11_code 90 = .ok (.iinc 1 1, 3) := by decide +kernel
theorem smd_M_reset_93 : decode prog_7_method_11_code 93 = .ok (.goto (-22), 3) := by decide +kernel
theorem smd_M_reset_96 : decode prog_7_method_11_code 96 = .ok (.aload_n 0, 1) := by decide +kernel
theorem smd_M_reset_97 : decode prog_7_method_11_code 97 = .ok (.invokevirtual 74, 3) := by decide +kernel
theorem smd_M_reset_100 : decode prog_7_method_11_code 100 = .ok (.iconst 1, 1) := by decide +kernel
theorem smd_M_reset_101 : decode prog_7_method_11_code 101 = .ok (.ireturn, 1) := by decide +kernel
theorem smd_M_isField_0 : decode prog_7_method_12_code 0 = .ok (.iload_n 1, 1) := by decide +kernel
theorem smd_M_isField_1 : decode prog_7_method_12_code 1 = .ok (.ifCond .lt 29, 3) := by decide +kernel
theorem smd_M_isField_4 : decode prog_7_method_12_code 4 = .ok (.iload_n 1, 1) := by decide +kernel
theorem smd_M_isField_5 : decode prog_7_method_12_code 5 = .ok (.bipush 12, 2) := by decide +kernel
theorem smd_M_isField_7 : decode prog_7_method_12_code 7 = .ok (.if_icmp .ge 23, 3) := by decide +kernel
theorem smd_M_isField_10 : decode prog_7_method_12_code 10 = .ok (.iload_n 1, 1) := by decide +kernel
theorem smd_M_isField_11 : decode prog_7_method_12_code 11 = .ok (.iconst 4, 1) := by decide +kernel
theorem smd_M_isField_12 : decode prog_7_method_12_code 12 = .ok (.irem, 1) := by decide +kernel
theorem smd_M_isField_13 : decode prog_7_method_12_code 13 = .ok (.aload_n 0, 1) := by decide +kernel
theorem smd_M_isField_14 : decode prog_7_method_12_code 14 = .ok (.getfield 16, 3) := by decide +kernel
theorem smd_M_isField_17 : decode prog_7_method_12_code 17 = .ok (.iconst 3, 1) := by decide +kernel
theorem smd_M_isField_18 : decode prog_7_method_12_code 18 = .ok (.iload_n 1, 1) := by decide +kernel
theorem smd_M_isField_19 : decode prog_7_method_12_code 19 = .ok (.iconst 4, 1) := by decide +kernel
theorem smd_M_isField_20 : decode prog_7_method_12_code 20 = .ok (.idiv, 1) := by decide +kernel
theorem smd_M_isField_21 : decode prog_7_method_12_code 21 = .ok (.iadd, 1) := by decide +kernel
theorem smd_M_isField_22 : decode prog_7_method_12_code 22 = .ok (.iaload, 1) := by decide +kernel
theorem smd_M_isField_23 : decode prog_7_method_12_code 23 = .ok (.if_icmp .ge 7, 3) := by decide +kernel
theorem smd_M_isField_26 : decode prog_7_method_12_code 26 = .ok (.iconst 1, 1) := by decide +kernel
theorem smd_M_isField_27 : decode prog_7_method_12_code 27 = .ok (.goto 4, 3) := by decide +kernel
theorem smd_M_isField_30 : decode prog_7_method_12_code 30 = .ok (.iconst 0, 1) := by decide +kernel
theorem smd_M_isField_31 : decode prog_7_method_12_code 31 = .ok (.ireturn, 1) := by decide +kernel
theorem smd_M_isRight_0 : decode prog_7_method_13_code 0 = .ok (.sipush 288, 3) := by decide +kernel
theorem smd_M_isRight_3 : decode prog_7_method_13_code 3 = .ok (.bipush 48, 2) := by decide +kernel
theorem smd_M_isRight_5 : decode prog_7_method_13_code 5 = .ok (.iload_n 1, 1) := by decide +kernel
theorem smd_M_isRight_6 : decode prog_7_method_13_code 6 = .ok (.imul, 1) := by decide +kernel
theorem smd_M_isRight_7 : decode prog_7_method_13_code 7 = .ok (.iadd, 1) := by decide +kernel
theorem smd_M_isRight_8 : decode prog_7_method_13_code 8 = .ok (.iconst 4, 1) := by decide +kernel
theorem smd_M_isRight_9 : decode prog_7_method_13_code 9 = .ok (.iload_n 2, 1) := by decide +kernel
theorem smd_M_isRight_10 : decode prog_7_method_13_code 10 = .ok (.imul, 1) := by decide +kernel
theorem smd_M_isRight_11 : decode prog_7_method_13_code 11 = .ok (.iadd, 1) := by decide +kernel
theorem smd_M_isRight_12 : decode prog_7_method_13_code 12 = .ok (.istore_n 3, 1) := by decide +kernel
theorem smd_M_isRight_13 : decode prog_7_method_13_code 13 = .ok (.aload_n 0, 1) := by decide +kernel
theorem smd_M_isRight_14 : decode prog_7_method_13_code 14 = .ok (.getfield 7, 3) := by decide +kernel
theorem smd_M_isRight_17 : decode prog_7_method_13_code 17 = .ok (.iload_n 3, 1) := by decide +kernel
theorem smd_M_isRight_18 : decode prog_7_method_13_code 18 = .ok (.iaload, 1) := by decide +kernel
theorem smd_M_isRight_19 : decode prog_7_method_13_code 19 = .ok (.istore 4, 2) := by decide +kernel
theorem smd_M_isRight_21 : decode prog_7_method_13_code 21 = .ok (.aload_n 0, 1) := by decide +kernel
theorem smd_M_isRight_22 : decode prog_7_method_13_code 22 = .ok (.getfield 7, 3) := by decide +kernel
theorem smd_M_isRight_25 : decode prog_7_method_13_code 25 = .ok (.iload_n 3, 1) := by decide +kernel
theorem smd_M_isRight_26 : decode prog_7_method_13_code 26 = .ok (.iconst 1, 1) := by decide +kernel
theorem smd_M_isRight_27 : decode prog_7_method_13_code 27 = .ok (.iadd, 1) := by decide +kernel
theorem smd_M_isRight_28 : decode prog_7_method_13_code 28 = .ok (.iaload, 1) := by decide +kernel
theorem smd_M_isRight_29 : decode prog_7_method_13_code 29 = .ok (.istore 5, 2) := by decide +kernel
theorem smd_M_isRight_31 : decode prog_7_method_13_code 31 = .ok (.aload_n 0, 1) := by decide +kernel
theorem smd_M_isRight_32 : decode prog_7_method_13_code 32 = .ok (.getfield 7, 3) := by decide +kernel
theorem smd_M_isRight_35 : decode prog_7_method_13_code 35 = .ok (.iload_n 3, 1) := by decide +kernel
theorem smd_M_isRight_36 : decode prog_7_method_13_code 36 = .ok (.iconst 2, 1) := by decide +kernel
theorem smd_M_isRight_37 : decode prog_7_method_13_code 37 = .ok (.iadd, 1) := by decide +kernel
theorem smd_M_isRight_38 : decode prog_7_method_13_code 38 = .ok (.iaload, 1) := by decide +kernel
theorem smd_M_isRight_39 : decode prog_7_method_13_code 39 = .ok (.istore 6, 2) := by decide +kernel
theorem smd_M_isRight_41 : decode prog_7_method_13_code 41 = .ok (.aload_n 0, 1) := by decide +kernel
theorem smd_M_isRight_42 : decode prog_7_method_13_code 42 = .ok (.getfield 7, 3) := by decide +kernel
theorem smd_M_isRight_45 : decode prog_7_method_13_code 45 = .ok (.iload_n 3, 1) := by decide +kernel
theorem smd_M_isRight_46 : decode prog_7_method_13_code 46 = .ok (.iconst 3, 1) := by decide +kernel
theorem smd_M_isRight_47 : decode prog_7_method_13_code 47 = .ok (.iadd, 1) := by decide +kernel
theorem smd_M_isRight_48 : decode prog_7_method_13_code 48 = .ok (.iaload, 1) := by decide +kernel
theorem smd_M_isRight_49 : decode prog_7_method_13_code 49 = .ok (.istore 7, 2) := by decide +kernel
theorem smd_M_isRight_51 : decode prog_7_method_13_code 51 = .ok (.iload 4, 2) := by decide +kernel
theorem smd_M_isRight_53 : decode prog_7_method_13_code 53 = .ok (.tableswitch 286 0 12 #[67, 67, 73, 73, 103, 136, 179, 213, 213, 244, 244, 67, 269], 67) := by decide +kernel
theorem smd_M_isRight_120 : decode prog_7_method_13_code 120 = .ok (.iload 5, 2) := by decide +kernel
theorem smd_M_isRight_122 : decode prog_7_method_13_code 122 = .ok (.invokestatic 77, 3) := by decide +kernel
theorem smd_M_isRight_125 : decode prog_7_method_13_code 125 = .ok (.ireturn, 1) := by decide +kernel
theorem smd_M_isRight_126 : decode prog_7_method_13_code 126 = .ok (.iload 5, 2) := by decide +kernel
theorem smd_M_isRight_128 : decode prog_7_method_13_code 128 = .ok (.invokestatic 77, 3) := by decide +kernel
theorem smd_M_isRight_131 : decode prog_7_method_13_code 131 = .ok (.ifCond .eq 23, 3) := by decide +kernel
theorem smd_M_isRight_134 : decode prog_7_method_13_code 134 = .ok (.iload 6, 2) := by decide +kernel
theorem smd_M_isRight_136 : decode prog_7_method_13_code 136 = .ok (.invokestatic 77, 3) := by decide +kernel
theorem smd_M_isRight_139 : decode prog_7_method_13_code 139 = .ok (.ifCond .eq 15, 3) := by decide +kernel
theorem smd_M_isRight_142 : decode prog_7_method_13_code 142 = .ok (.iload 7, 2) := by decide +kernel
theorem smd_M_isRight_144 : decode prog_7_method_13_code 144 = .ok (.invokestatic 77, 3) := by decide +kernel
theorem smd_M_isRight_147 : decode prog_7_method_13_code 147 = .ok (.ifCond .eq 7, 3) := by decide +kernel
theorem smd_M_isRight_150 : decode prog_7_method_13_code 150 = .ok (.iconst 1, 1) := by decide +kernel
theorem smd_M_isRight_151 : decode prog_7_method_13_code 151 = .ok (.goto 4, 3) := by decide +kernel
theorem smd_M_isRight_154 : decode prog_7_method_13_code 154 = .ok (.iconst 0, 1) := by decide +kernel
theorem smd_M_isRight_155 : decode prog_7_method_13_code 155 = .ok (.ireturn, 1) := by decide +kernel
theorem smd_M_isRight_156 : decode prog_7_method_13_code 156 = .ok (.iload 5, 2) := by decide +kernel
theorem smd_M_isRight_158 : decode prog_7_method_13_code 158 = .ok (.invokestatic 77, 3) := by decide +kernel
theorem smd_M_isRight_161 : decode prog_7_method_13_code 161 = .ok (.ifCond .eq 26, 3) := by decide +kernel
theorem smd_M_isRight_164 : decode prog_7_method_13_code 164 = .ok (.iload 6, 2) := by decide +kernel
theorem smd_M_isRight_166 : decode prog_7_method_13_code 166 = .ok (.ifCond .lt 21, 3) := by decide +kernel
theorem smd_M_isRight_169 : decode prog_7_method_13_code 169 = .ok (.iload 6, 2) := by decide +kernel
theorem smd_M_isRight_171 : decode prog_7_method_13_code 171 = .ok (.aload_n 0, 1) := by decide +kernel
theorem smd_M_isRight_172 : decode prog_7_method_13_code 172 = .ok (.getfield 13, 3) := by decide +kernel
theorem smd_M_isRight_175 : decode prog_7_method_13_code 175 = .ok (.bipush 6, 2) := by decide +kernel
theorem smd_M_isRight_177 : decode prog_7_method_13_code 177 = .ok (.iload_n 1, 1) := by decide +kernel
theorem smd_M_isRight_178 : decode prog_7_method_13_code 178 = .ok (.iadd, 1) := by decide +kernel
theorem smd_M_isRight_179 : decode prog_7_method_13_code 179 = .ok (.iaload, 1) := by decide +kernel
theorem smd_M_isRight_180 : decode prog_7_method_13_code 180 = .ok (.if_icmp .ge 7, 3) := by decide +kernel
theorem smd_M_isRight_183 : decode prog_7_method_13_code 183 = .ok (.iconst 1, 1) := by decide +kernel
theorem smd_M_isRight_184 : decode prog_7_method_13_code 184 = .ok (.goto 4, 3) := by decide +kernel
theorem smd_M_isRight_187 : decode prog_7_method_13_code 187 = .ok (.iconst 0, 1) := by decide +kernel
theorem smd_M_isRight_188 : decode prog_7_method_13_code 188 = .ok (.ireturn, 1) := by decide +kernel
theorem smd_M_isRight_189 : decode prog_7_method_13_code 189 = .ok (.iload 5, 2) := by decide +kernel
theorem smd_M_isRight_191 : decode prog_7_method_13_code 191 = .ok (.invokestatic 77, 3) := by decide +kernel
theorem smd_M_isRight_194 : decode prog_7_method_13_code 194 = .ok (.ifCond .eq 36, 3) := by decide +kernel
theorem smd_M_isRight_197 : decode prog_7_method_13_code 197 = .ok (.iload 7, 2) := by decide +kernel
theorem smd_M_isRight_199 : decode prog_7_method_13_code 199 = .ok (.invokestatic 77, 3) := by decide +kernel
theorem smd_M_isRight_202 : decode prog_7_method_13_code 202 = .ok (.ifCond .eq 28, 3) := by decide +kernel
theorem smd_M_isRight_205 : decode prog_7_method_13_code 205 = .ok (.iload 6, 2) := by decide +kernel
theorem smd_M_isRight_207 : decode prog_7_method_13_code 207 = .ok (.invokestatic 59, 3) := by decide +kernel
theorem smd_M_isRight_210 : decode prog_7_method_13_code 210 = .ok (.ifCond .eq 20, 3) := by decide +kernel
theorem smd_M_isRight_213 : decode prog_7_method_13_code 213 = .ok (.aload_n 0, 1) := by decide +kernel
theorem smd_M_isRight_214 : decode prog_7_method_13_code 214 = .ok (.getfield 13, 3) := by decide +kernel
theorem smd_M_isRight_217 : decode prog_7_method_13_code 217 = .ok (.bipush 6, 2) := by decide +kernel
theorem smd_M_isRight_219 : decode prog_7_method_13_code 219 = .ok (.iload 6, 2) := by decide +kernel
theorem smd_M_isRight_221 : decode prog_7_method_13_code 221 = .ok (.iadd, 1) := by decide +kernel
theorem smd_M_isRight_222 : decode prog_7_method_13_code 222 = .ok (.iaload, 1) := by decide +kernel
theorem smd_M_isRight_223 : decode prog_7_method_13_code 223 = .ok (.ifCond .le 7, 3) := by decide +kernel
theorem smd_M_isRight_226 : decode prog_7_method_13_code 226 = .ok (.iconst 1, 1) := by decide +kernel
theorem smd_M_isRight_227 : decode prog_7_method_13_code 227 = .ok (.goto 4, 3) := by decide +kernel
theorem smd_M_isRight_230 : decode prog_7_method_13_code 230 = .ok (.iconst 0, 1) := by decide +kernel
theorem smd_M_isRight_231 : decode prog_7_method_13_code 231 = .ok (.ireturn, 1) := by decide +kernel
theorem smd_M_isRight_232 : decode prog_7_method_13_code 232 = .ok (.iload 5, 2) := by decide +kernel
theorem smd_M_isRight_234 : decode prog_7_method_13_code 234 = .ok (.invokestatic 77, 3) := by decide +kernel
theorem smd_M_isRight_237 : decode prog_7_method_13_code 237 = .ok (.ifCond .eq 27, 3) := by decide +kernel
theorem smd_M_isRight_240 : decode prog_7_method_13_code 240 = .ok (.iload 6, 2) := by decide +kernel
theorem smd_M_isRight_242 : decode prog_7_method_13_code 242 = .ok (.invokestatic 67, 3) := by decide +kernel
theorem smd_M_isRight_245 : decode prog_7_method_13_code 245 = .ok (.ifCond .eq 19, 3) := by decide +kernel
theorem smd_M_isRight_248 : decode prog_7_method_13_code 248 = .ok (.aload_n 0, 1) := by decide +kernel
theorem smd_M_isRight_249 : decode prog_7_method_13_code 249 = .ok (.getfield 16, 3) := by decide +kernel
theorem smd_M_isRight_252 : decode prog_7_method_13_code 252 = .ok (.iconst 3, 1) := by decide +kernel
theorem smd_M_isRight_253 : decode prog_7_method_13_code 253 = .ok (.iload 6, 2) := by decide +kernel
theorem smd_M_isRight_255 : decode prog_7_method_13_code 255 = .ok (.iadd, 1) := by decide +kernel
theorem smd_M_isRight_256 : decode prog_7_method_13_code 256 = .ok (.iaload, 1) := by decide +kernel
theorem smd_M_isRight_257 : decode prog_7_method_13_code 257 = .ok (.ifCond .le 7, 3) := by decide +kernel
theorem smd_M_isRight_260 : decode prog_7_method_13_code 260 = .ok (.iconst 1, 1) := by decide +kernel
theorem smd_M_isRight_261 : decode prog_7_method_13_code 261 = .ok (.goto 4, 3) := by decide +kernel
theorem smd_M_isRight_264 : decode prog_7_method_13_code 264 = .ok (.iconst 0, 1) := by decide +kernel
theorem smd_M_isRight_265 : decode prog_7_method_13_code 265 = .ok (.ireturn, 1) := by decide +kernel
theorem smd_M_isRight_266 : decode prog_7_method_13_code 266 = .ok (.iload 5, 2) := by decide +kernel
theorem smd_M_isRight_268 : decode prog_7_method_13_code 268 = .ok (.invokestatic 77, 3) := by decide +kernel
theorem smd_M_isRight_271 : decode prog_7_method_13_code 271 = .ok (.ifCond .eq 24, 3) := by decide +kernel
theorem smd_M_isRight_274 : decode prog_7_method_13_code 274 = .ok (.iload 6, 2) := by decide +kernel
theorem smd_M_isRight_276 : decode prog_7_method_13_code 276 = .ok (.invokestatic 77, 3) := by decide +kernel
theorem smd_M_isRight_279 : decode prog_7_method_13_code 279 = .ok (.ifCond .eq 16, 3) := by decide +kernel
theorem smd_M_isRight_282 : decode prog_7_method_13_code 282 = .ok (.aload_n 0, 1) := by decide +kernel
theorem smd_M_isRight_283 : decode prog_7_method_13_code 283 = .ok (.iload 7, 2) := by decide +kernel
theorem smd_M_isRight_285 : decode prog_7_method_13_code 285 = .ok (.invokevirtual 80, 3) := by decide +kernel
theorem smd_M_isRight_288 : decode prog_7_method_13_code 288 = .ok (.ifCond .eq 7, 3) := by decide +kernel
theorem smd_M_isRight_291 : decode prog_7_method_13_code 291 = .ok (.iconst 1, 1) := by decide +kernel
theorem smd_M_isRight_292 : decode prog_7_method_13_code 292 = .ok (.goto 4, 3) := by decide +kernel
theorem smd_M_isRight_295 : decode prog_7_method_13_code 295 = .ok (.iconst 0, 1) := by decide +kernel
theorem smd_M_isRight_296 : decode prog_7_method_13_code 296 = .ok (.ireturn, 1) := by decide +kernel
theorem smd_M_isRight_297 : decode prog_7_method_13_code 297 = .ok (.iload 5, 2) := by decide +kernel
theorem smd_M_isRight_299 : decode prog_7_method_13_code 299 = .ok (.invokestatic 77, 3) := by decide +kernel
theorem smd_M_isRight_302 : decode prog_7_method_13_code 302 = .ok (.ifCond .eq 18, 3) := by decide +kernel
theorem smd_M_isRight_305 : decode prog_7_method_13_code 305 = .ok (.iload 6, 2) := by decide +kernel
theorem smd_M_isRight_307 : decode prog_7_method_13_code 307 = .ok (.ifCond .lt 13, 3) := by decide +kernel
theorem smd_M_isRight_310 : decode prog_7_method_13_code 310 = .ok (.iload 6, 2) := by decide +kernel
theorem smd_M_isRight_312 : decode prog_7_method_13_code 312 = .ok (.iconst 4, 1) := by decide +kernel
theorem smd_M_isRight_313 : decode prog_7_method_13_code 313 = .ok (.if_icmp .ge 7, 3) := by decide +kernel
theorem smd_M_isRight_316 : decode prog_7_method_13_code 316 = .ok (.iconst 1, 1) := by decide +kernel
theorem smd_M_isRight_317 : decode prog_7_method_13_code 317 = .ok (.goto 4, 3) := by decide +kernel
theorem smd_M_isRight_320 : decode prog_7_method_13_code 320 = .ok (.iconst 0, 1) := by decide +kernel
theorem smd_M_isRight_321 : decode prog_7_method_13_code 321 = .ok (.ireturn, 1) := by decide +kernel
theorem smd_M_isRight_322 : decode prog_7_method_13_code 322 = .ok (.iload 5, 2) := by decide +kernel
theorem smd_M_isRight_324 : decode prog_7_method_13_code 324 = .ok (.ifCond .lt 13, 3) := by decide +kernel
theorem smd_M_isRight_327 : decode prog_7_method_13_code 327 = .ok (.iload 5, 2) := by decide +kernel
theorem smd_M_isRight_329 : decode prog_7_method_13_code 329 = .ok (.iconst 4, 1) := by decide +kernel
theorem smd_M_isRight_330 : decode prog_7_method_13_code 330 = .ok (.if_icmp .ge 7, 3) := by decide +kernel
theorem smd_M_isRight_333 : decode prog_7_method_13_code 333 = .ok (.iconst 1, 1) := by decide +kernel
theorem smd_M_isRight_334 : decode prog_7_method_13_code 334 = .ok (.goto 4, 3) := by decide +kernel
theorem smd_M_isRight_337 : decode prog_7_method_13_code 337 = .ok (.iconst 0, 1) := by decide +kernel
theorem smd_M_isRight_338 : decode prog_7_method_13_code 338 = .ok (.ireturn, 1) := by decide +kernel
theorem smd_M_isRight_339 : decode prog_7_method_13_code 339 = .ok (.iconst 0, 1) := by decide +kernel
theorem smd_M_isRight_340 : decode prog_7_method_13_code 340 = .ok (.ireturn, 1) := by decide +kernel
end
section
theorem smd_M_stage_0 : decode prog_7_method_14_code 0 = .ok (.aload_n 0, 1) := by decide +kernel
theorem smd_M_stage_1 : decode prog_7_method_14_code 1 = .ok (.getfield 63, 3) := by decide +kernel
theorem smd_M_stage_4 : decode prog_7_method_14_code 4 = .ok (.ifCond .eq 6, 3) := by decide +kernel
theorem smd_M_stage_7 : decode prog_7_method_14_code 7 = .ok (.bipush (-2), 2) := by decide +kernel
theorem smd_M_stage_9 : decode prog_7_method_14_code 9 = .ok (.ireturn, 1) := by decide +kernel
theorem smd_M_stage_10 : decode prog_7_method_14_code 10 = .ok (.iconst 0, 1) := by decide +kernel
theorem smd_M_stage_11 : decode prog_7_method_14_code 11 = .ok (.istore_n 1, 1) := by decide +kernel
theorem smd_M_stage_12 : decode prog_7_method_14_code 12 = .ok (.iload_n 1, 1) := by decide +kernel
theorem smd_M_stage_13 : decode prog_7_method_14_code 13 = .ok (.bipush 6, 2) := by decide +kernel
theorem smd_M_stage_15 : decode prog_7_method_14_code 15 = .ok (.if_icmp .ge 94, 3) := by decide +kernel
theorem smd_M_stage_18 : decode prog_7_method_14_code 18 = .ok (.iconst 0, 1) := by decide +kernel
theorem smd_M_stage_19 : decode prog_7_method_14_code 19 = .ok (.istore_n 2, 1) := by decide +kernel
theorem smd_M_stage_20 : decode prog_7_method_14_code 20 = .ok (.iload_n 2, 1) := by decide +kernel
theorem smd_M_stage_21 : decode prog_7_method_14_code 21 = .ok (.aload_n 0, 1) := by decide +kernel
theorem smd_M_stage_22 : decode prog_7_method_14_code 22 = .ok (.getfield 13, 3) := by decide +kernel
theorem smd_M_stage_25 : decode prog_7_method_14_code 25 = .ok (.bipush 6, 2) := by decide +kernel
theorem smd_M_stage_27 : decode prog_7_method_14_code 27 = .ok (.iload_n 1, 1) := by decide +kernel
theorem smd_M_stage_28 : decode prog_7_method_14_code 28 = .ok (.iadd, 1) := by decide +kernel
theorem smd_M_stage_29 : decode prog_7_method_14_code 29 = .ok (.iaload, 1) := by decide +kernel
theorem smd_M_stage_30 : decode prog_7_method_14_code 30 = .ok (.if_icmp .ge 73, 3) := by decide +kernel
theorem smd_M_stage_33 : decode prog_7_method_14_code 33 = .ok (.iload_n 2, 1) := by decide +kernel
theorem smd_M_stage_34 : decode prog_7_method_14_code 34 = .ok (.iconst 1, 1) := by decide +kernel
theorem smd_M_stage_35 : decode prog_7_method_14_code 35 = .ok (.iadd, 1) := by decide +kernel
theorem smd_M_stage_36 : decode prog_7_method_14_code 36 = .ok (.aload_n 0, 1) := by decide +kernel
theorem smd_M_stage_37 : decode prog_7_method_14_code 37 = .ok (.getfield 13, 3) := by decide +kernel
theorem smd_M_stage_40 : decode prog_7_method_14_code 40 = .ok (.bipush 6, 2) := by decide +kernel
theorem smd_M_stage_42 : decode prog_7_method_14_code 42 = .ok (.iload_n 1, 1) := by decide +kernel
theorem smd_M_stage_43 : decode prog_7_method_14_code 43 = .ok (.iadd, 1) := by decide +kernel
theorem smd_M_stage_44 : decode prog_7_method_14_code 44 = .ok (.iaload, 1) := by decide +kernel
theorem smd_M_stage_45 : decode prog_7_method_14_code 45 = .ok (.if_icmp .lt 23, 3) := by decide +kernel
theorem smd_M_stage_48 : decode prog_7_method_14_code 48 = .ok (.aload_n 0, 1) := by decide +kernel
theorem smd_M_stage_49 : decode prog_7_method_14_code 49 = .ok (.getfield 7, 3) := by decide +kernel
theorem smd_M_stage_52 : decode prog_7_method_14_code 52 = .ok (.sipush 288, 3) := by decide +kernel
theorem smd_M_stage_55 : decode prog_7_method_14_code 55 = .ok (.bipush 48, 2) := by decide +kernel
theorem smd_M_stage_57 : decode prog_7_method_14_code 57 = .ok (.iload_n 1, 1) := by decide +kernel
theorem smd_M_stage_58 : decode prog_7_method_14_code 58 = .ok (.imul, 1) := by decide +kernel
theorem smd_M_stage_59 : decode prog_7_method_14_code 59 = .ok (.iadd, 1) := by decide +kernel
theorem smd_M_stage_60 : decode prog_7_method_14_code 60 = .ok (.iconst 4, 1) := by decide +kernel
theorem smd_M_stage_61 : decode prog_7_method_14_code 61 = .ok (.iload_n 2, 1) := by decide +kernel
theorem smd_M_stage_62 : decode prog_7_method_14_code 62 = .ok (.imul, 1) := by decide +kernel
theorem smd_M_stage_63 : decode prog_7_method_14_code 63 = .ok (.iadd, 1) := by decide +kernel
theorem smd_M_stage_64 : decode prog_7_method_14_code 64 = .ok (.iaload, 1) := by decide +kernel
theorem smd_M_stage_65 : decode prog_7_method_14_code 65 = .ok (.ifCond .ne 7, 3) := by decide +kernel
theorem smd_M_stage_68 : decode prog_7_method_14_code 68 = .ok (.iconst 1, 1) := by decide +kernel
theorem smd_M_stage_69 : decode prog_7_method_14_code 69 = .ok (.goto 4, 3) := by decide +kernel
theorem smd_M_stage_72 : decode prog_7_method_14_code 72 = .ok (.iconst 0, 1) := by decide +kernel
theorem smd_M_stage_73 : decode prog_7_method_14_code 73 = .ok (.istore_n 3, 1) := by decide +kernel
theorem smd_M_stage_74 : decode prog_7_method_14_code 74 = .ok (.aload_n 0, 1) := by decide +kernel
theorem smd_M_stage_75 : decode prog_7_method_14_code 75 = .ok (.iload_n 1, 1) := by decide +kernel
theorem smd_M_stage_76 : decode prog_7_method_14_code 76 = .ok (.iload_n 2, 1) := by decide +kernel
theorem smd_M_stage_77 : decode prog_7_method_14_code 77 = .ok (.invokevirtual 83, 3) := by decide +kernel
theorem smd_M_stage_80 : decode prog_7_method_14_code 80 = .ok (.ifCond .eq 7, 3) := by decide +kernel
theorem smd_M_stage_83 : decode prog_7_method_14_code 83 = .ok (.iload_n 3, 1) := by decide +kernel
theorem smd_M_stage_84 : decode prog_7_method_14_code 84 = .ok (.ifCond .ne 13, 3) := by decide +kernel
theorem smd_M_stage_87 : decode prog_7_method_14_code 87 = .ok (.bipush (-100), 2) := by decide +kernel
theorem smd_M_stage_89 : decode prog_7_method_14_code 89 = .ok (.bipush 12, 2) := by decide +kernel
theorem smd_M_stage_91 : decode prog_7_method_14_code 91 = .ok (.iload_n 1, 1) := by decide +kernel
theorem smd_M_stage_92 : decode prog_7_method_14_code 92 = .ok (.imul, 1) := by decide +kernel
theorem smd_M_stage_93 : decode prog_7_method_14_code 93 = .ok (.iload_n 2, 1) := by decide +kernel
theorem smd_M_stage_94 : decode prog_7_method_14_code 94 = .ok (.iadd, 1) := by decide +kernel
theorem smd_M_stage_95 : decode prog_7_method_14_code 95 = .ok (.isub, 1) := by decide +kernel
theorem smd_M_stage_96 : decode prog_7_method_14_code 96 = .ok (.ireturn, 1) := by decide +kernel
theorem smd_M_stage_97 : decode prog_7_method_14_code 97 = .ok (.iinc 2 1, 3) := by decide +kernel
theorem smd_M_stage_100 : decode prog_7_method_14_code 100 = .ok (.goto (-80), 3) := by decide +kernel
theorem smd_M_stage_103 : decode prog_7_method_14_code 103 = .ok (.iinc 1 1, 3) := by decide +kernel
theorem smd_M_stage_106 : decode prog_7_method_14_code 106 = .ok (.goto (-94), 3) := by decide +kernel
theorem smd_M_stage_109 : decode prog_7_method_14_code 109 = .ok (.iconst 0, 1) := by decide +kernel
theorem smd_M_stage_110 : decode prog_7_method_14_code 110 = .ok (.istore_n 1, 1) := by decide +kernel
theorem smd_M_stage_111 : decode prog_7_method_14_code 111 = .ok (.iload_n 1, 1) := by decide +kernel
theorem smd_M_stage_112 : decode prog_7_method_14_code 112 = .ok (.iconst 3, 1) := by decide +kernel
theorem smd_M_stage_113 : decode prog_7_method_14_code 113 = .ok (.if_icmp .ge 88, 3) := by decide +kernel
theorem smd_M_stage_116 : decode prog_7_method_14_code 116 = .ok (.iconst 0, 1) := by decide +kernel
theorem smd_M_stage_117 : decode prog_7_method_14_code 117 = .ok (.istore_n 2, 1) := by decide +kernel
theorem smd_M_stage_118 : decode prog_7_method_14_code 118 = .ok (.iload_n 2, 1) := by decide +kernel
theorem smd_M_stage_119 : decode prog_7_method_14_code 119 = .ok (.aload_n 0, 1) := by decide +kernel
theorem smd_M_stage_120 : decode prog_7_method_14_code 120 = .ok (.getfield 16, 3) := by decide +kernel
theorem smd_M_stage_123 : decode prog_7_method_14_code 123 = .ok (.iconst 3, 1) := by decide +kernel
theorem smd_M_stage_124 : decode prog_7_method_14_code 124 = .ok (.iload_n 1, 1) := by decide +kernel
theorem smd_M_stage_125 : decode prog_7_method_14_code 125 = .ok (.iadd, 1) := by decide +kernel
theorem smd_M_stage_126 : decode prog_7_method_14_code 126 = .ok (.iaload, 1) := by decide +kernel
theorem smd_M_stage_127 : decode prog_7_method_14_code 127 = .ok (.if_icmp .ge 68, 3) := by decide +kernel
theorem smd_M_stage_130 : decode prog_7_method_14_code 130 = .ok (.aload_n 0, 1) := by decide +kernel
theorem smd_M_stage_131 : decode prog_7_method_14_code 131 = .ok (.getfield 22, 3) := by decide +kernel
theorem smd_M_stage_134 : decode prog_7_method_14_code 134 = .ok (.iload_n 1, 1) := by decide +kernel
theorem smd_M_stage_135 : decode prog_7_method_14_code 135 = .ok (.baload, 1) := by decide +kernel
theorem smd_M_stage_136 : decode prog_7_method_14_code 136 = .ok (.ifCond .eq 59, 3) := by decide +kernel
theorem smd_M_stage_139 : decode prog_7_method_14_code 139 = .ok (.aload_n 0, 1) := by decide +kernel
theorem smd_M_stage_140 : decode prog_7_method_14_code 140 = .ok (.getfield 19, 3) := by decide +kernel
theorem smd_M_stage_143 : decode prog_7_method_14_code 143 = .ok (.bipush 12, 2) := by decide +kernel
theorem smd_M_stage_145 : decode prog_7_method_14_code 145 = .ok (.iload_n 1, 1) := by decide +kernel
theorem smd_M_stage_146 : decode prog_7_method_14_code 146 = .ok (.imul, 1) := by decide +kernel
theorem smd_M_stage_147 : decode prog_7_method_14_code 147 = .ok (.iconst 3, 1) := by decide +kernel
theorem smd_M_stage_148 : decode prog_7_method_14_code 148 = .ok (.iload_n 2, 1) := by decide +kernel
theorem smd_M_stage_149 : decode prog_7_method_14_code 149 = .ok (.imul, 1) := by decide +kernel
theorem smd_M_stage_150 : decode prog_7_method_14_code 150 = .ok (.iadd, 1) := by decide +kernel
theorem smd_M_stage_151 : decode prog_7_method_14_code 151 = .ok (.iaload, 1) := by decide +kernel
theorem smd_M_stage_152 : decode prog_7_method_14_code 152 = .ok (.ifCond .le 37, 3) := by decide +kernel
theorem smd_M_stage_155 : decode prog_7_method_14_code 155 = .ok (.aload_n 0, 1) := by decide +kernel
theorem smd_M_stage_156 : decode prog_7_method_14_code 156 = .ok (.getfield 19, 3) := by decide +kernel
theorem smd_M_stage_159 : decode prog_7_method_14_code 159 = .ok (.bipush 12, 2) := by decide +kernel
theorem smd_M_stage_161 : decode prog_7_method_14_code 161 = .ok (.iload_n 1, 1) := by decide +kernel
theorem smd_M_stage_162 : decode prog_7_method_14_code 162 = .ok (.imul, 1) := by decide +kernel
theorem smd_M_stage_163 : decode prog_7_method_14_code 163 = .ok (.iconst 3, 1) := by decide +kernel
theorem smd_M_stage_164 : decode prog_7_method_14_code 164 = .ok (.iload_n 2, 1) := by decide +kernel
theorem smd_M_stage_165 : decode prog_7_method_14_code 165 = .ok (.imul, 1) := by decide +kernel
theorem smd_M_stage_166 : decode prog_7_method_14_code 166 = .ok (.iadd, 1) := by decide +kernel
theorem smd_M_stage_167 : decode prog_7_method_14_code 167 = .ok (.iconst 1, 1) := by decide +kernel
theorem smd_M_stage_168 : decode prog_7_method_14_code 168 = .ok (.iadd, 1) := by decide +kernel
theorem smd_M_stage_169 : decode prog_7_method_14_code 169 = .ok (.iaload, 1) := by decide +kernel
theorem smd_M_stage_170 : decode prog_7_method_14_code 170 = .ok (.aload_n 0, 1) := by decide +kernel
theorem smd_M_stage_171 : decode prog_7_method_14_code 171 = .ok (.getfield 16, 3) := by decide +kernel
theorem smd_M_stage_174 : decode prog_7_method_14_code 174 = .ok (.iload_n 1, 1) := by decide +kernel
theorem smd_M_stage_175 : decode prog_7_method_14_code 175 = .ok (.iaload, 1) := by decide +kernel
theorem smd_M_stage_176 : decode prog_7_method_14_code 176 = .ok (.if_icmp .lt 13, 3) := by decide +kernel
theorem smd_M_stage_179 : decode prog_7_method_14_code 179 = .ok (.sipush (-200), 3) := by decide +kernel
theorem smd_M_stage_182 : decode prog_7_method_14_code 182 = .ok (.iconst 4, 1) := by decide +kernel
theorem smd_M_stage_183 : decode prog_7_method_14_code 183 = .ok (.iload_n 1, 1) := by decide +kernel
theorem smd_M_stage_184 : decode prog_7_method_14_code 184 = .ok (.imul, 1) := by decide +kernel
theorem smd_M_stage_185 : decode prog_7_method_14_code 185 = .ok (.iload_n 2, 1) := by decide +kernel
theorem smd_M_stage_186 : decode prog_7_method_14_code 186 = .ok (.iadd, 1) := by decide +kernel
theorem smd_M_stage_187 : decode prog_7_method_14_code 187 = .ok (.isub, 1) := by decide +kernel
theorem smd_M_stage_188 : decode prog_7_method_14_code 188 = .ok (.ireturn, 1) := by decide +kernel
theorem smd_M_stage_189 : decode prog_7_method_14_code 189 = .ok (.iinc 2 1, 3) := by decide +kernel
theorem smd_M_stage_192 : decode prog_7_method_14_code 192 = .ok (.goto (-74), 3) := by decide +kernel
theorem smd_M_stage_195 : decode prog_7_method_14_code 195 = .ok (.iinc 1 1, 3) := by decide +kernel
theorem smd_M_stage_198 : decode prog_7_method_14_code 198 = .ok (.goto (-87), 3) := by decide +kernel
theorem smd_M_stage_201 : decode prog_7_method_14_code 201 = .ok (.aload_n 0, 1) := by decide +kernel
theorem smd_M_stage_202 : decode prog_7_method_14_code 202 = .ok (.iconst 1, 1) := by decide +kernel
theorem smd_M_stage_203 : decode prog_7_method_14_code 203 = .ok (.putfield 63, 3) := by decide +kernel
theorem smd_M_stage_206 : decode prog_7_method_14_code 206 = .ok (.iconst 0, 1) := by decide +kernel
theorem smd_M_stage_207 : decode prog_7_method_14_code 207 = .ok (.ireturn, 1) := by decide +kernel
theorem smd_M_withdraw_0 : decode prog_7_method_15_code 0 = .ok (.aload_n 0, 1) := by decide +kernel
theorem smd_M_withdraw_1 : decode prog_7_method_15_code 1 = .ok (.getfield 63, 3) := by decide +kernel
theorem smd_M_withdraw_4 : decode prog_7_method_15_code 4 = .ok (.istore_n 1, 1) := by decide +kernel
theorem smd_M_withdraw_5 : decode prog_7_method_15_code 5 = .ok (.aload_n 0, 1) := by decide +kernel
theorem smd_M_withdraw_6 : decode prog_7_method_15_code 6 = .ok (.iconst 0, 1) := by decide +kernel
theorem smd_M_withdraw_7 : decode prog_7_method_15_code 7 = .ok (.putfield 63, 3) := by decide +kernel
theorem smd_M_withdraw_10 : decode prog_7_method_15_code 10 = .ok (.iload_n 1, 1) := by decide +kernel
theorem smd_M_withdraw_11 : decode prog_7_method_15_code 11 = .ok (.ireturn, 1) := by decide +kernel
theorem smd_M_isOther_0 : decode prog_7_method_16_code 0 = .ok (.aload_n 0, 1) := by decide +kernel
theorem smd_M_isOther_1 : decode prog_7_method_16_code 1 = .ok (.getfield 13, 3) := by decide +kernel
theorem smd_M_isOther_4 : decode prog_7_method_16_code 4 = .ok (.iload_n 1, 1) := by decide +kernel
theorem smd_M_isOther_5 : decode prog_7_method_16_code 5 = .ok (.iaload, 1) := by decide +kernel
theorem smd_M_isOther_6 : decode prog_7_method_16_code 6 = .ok (.aload_n 0, 1) := by decide +kernel
theorem smd_M_isOther_7 : decode prog_7_method_16_code 7 = .ok (.getfield 13, 3) := by decide +kernel
theorem smd_M_isOther_10 : decode prog_7_method_16_code 10 = .ok (.bipush 6, 2) := by decide +kernel
theorem smd_M_isOther_12 : decode prog_7_method_16_code 12 = .ok (.iload_n 1, 1) := by decide +kernel
theorem smd_M_isOther_13 : decode prog_7_method_16_code 13 = .ok (.iadd, 1) := by decide +kernel
theorem smd_M_isOther_14 : decode prog_7_method_16_code 14 = .ok (.iaload, 1) := by decide +kernel
theorem smd_M_isOther_15 : decode prog_7_method_16_code 15 = .ok (.if_icmp .eq 5, 3) := by decide +kernel
theorem smd_M_isOther_18 : decode prog_7_method_16_code 18 = .ok (.iconst 1, 1) := by decide +kernel
theorem smd_M_isOther_19 : decode prog_7_method_16_code 19 = .ok (.ireturn, 1) := by decide +kernel
theorem smd_M_isOther_20 : decode prog_7_method_16_code 20 = .ok (.iconst 0, 1) := by decide +kernel
theorem smd_M_isOther_21 : decode prog_7_method_16_code 21 = .ok (.istore_n 2, 1) := by decide +kernel
theorem smd_M_isOther_22 : decode prog_7_method_16_code 22 = .ok (.bipush 48, 2) := by decide +kernel
theorem smd_M_isOther_24 : decode prog_7_method_16_code 24 = .ok (.iload_n 1, 1) := by decide +kernel
theorem smd_M_isOther_25 : decode prog_7_method_16_code 25 = .ok (.imul, 1) := by decide +kernel
theorem smd_M_isOther_26 : decode prog_7_method_16_code 26 = .ok (.istore_n 3, 1) := by decide +kernel
theorem smd_M_isOther_27 : decode prog_7_method_16_code 27 = .ok (.iload_n 3, 1) := by decide +kernel
theorem smd_M_isOther_28 : decode prog_7_method_16_code 28 = .ok (.bipush 48, 2) := by decide +kernel
theorem smd_M_isOther_30 : decode prog_7_method_16_code 30 = .ok (.iload_n 1, 1) := by decide +kernel
theorem smd_M_isOther_31 : decode prog_7_method_16_code 31 = .ok (.imul, 1) := by decide +kernel
theorem smd_M_isOther_32 : decode prog_7_method_16_code 32 = .ok (.iconst 4, 1) := by decide +kernel
theorem smd_M_isOther_33 : decode prog_7_method_16_code 33 = .ok (.aload_n 0, 1) := by decide +kernel
theorem smd_M_isOther_34 : decode prog_7_method_16_code 34 = .ok (.getfield 13, 3) := by decide +kernel
theorem smd_M_isOther_37 : decode prog_7_method_16_code 37 = .ok (.iload_n 1, 1) := by decide +kernel
theorem smd_M_isOther_38 : decode prog_7_method_16_code 38 = .ok (.iaload, 1) := by decide +kernel
theorem smd_M_isOther_39 : decode prog_7_method_16_code 39 = .ok (.imul, 1) := by decide +kernel
theorem smd_M_isOther_40 : decode prog_7_method_16_code 40 = .ok (.iadd, 1) := by decide +kernel
theorem smd_M_isOther_41 : decode prog_7_method_16_code 41 = .ok (.if_icmp .ge 38, 3) := by decide +kernel
theorem smd_M_isOther_44 : decode prog_7_method_16_code 44 = .ok (.iload_n 2, 1) := by decide +kernel
theorem smd_M_isOther_45 : decode prog_7_method_16_code 45 = .ok (.ifCond .ne 22, 3) := by decide +kernel
theorem smd_M_isOther_48 : decode prog_7_method_16_code 48 = .ok (.aload_n 0, 1) := by decide +kernel
theorem smd_M_isOther_49 : decode prog_7_method_16_code 49 = .ok (.getfield 7, 3) := by decide +kernel
theorem smd_M_isOther_52 : decode prog_7_method_16_code 52 = .ok (.iload_n 3, 1) := by decide +kernel
theorem smd_M_isOther_53 : decode prog_7_method_16_code 53 = .ok (.iaload, 1) := by decide +kernel
theorem smd_M_isOther_54 : decode prog_7_method_16_code 54 = .ok (.aload_n 0, 1) := by decide +kernel
theorem smd_M_isOther_55 : decode prog_7_method_16_code 55 = .ok (.getfield 7, 3) := by decide +kernel
theorem smd_M_isOther_58 : decode prog_7_method_16_code 58 = .ok (.sipush 288, 3) := by decide +kernel
theorem smd_M_isOther_61 : decode prog_7_method_16_code 61 = .ok (.iload_n 3, 1) := by decide +kernel
theorem smd_M_isOther_62 : decode prog_7_method_16_code 62 = .ok (.iadd, 1) := by decide +kernel
theorem smd_M_isOther_63 : decode prog_7_method_16_code 63 = .ok (.iaload, 1) := by decide +kernel
theorem smd_M_isOther_64 : decode prog_7_method_16_code 64 = .ok (.if_icmp .eq 7, 3) := by decide +kernel
theorem smd_M_isOther_67 : decode prog_7_method_16_code 67 = .ok (.iconst 1, 1) := by decide +kernel
theorem smd_M_isOther_68 : decode prog_7_method_16_code 68 = .ok (.goto 4, 3) := by decide +kernel
theorem smd_M_isOther_71 : decode prog_7_method_16_code 71 = .ok (.iconst 0, 1) := by decide +kernel
theorem smd_M_isOther_72 : decode prog_7_method_16_code 72 = .ok (.istore_n 2, 1) := by decide +kernel
theorem smd_M_isOther_73 : decode prog_7_method_16_code 73 = .ok (.iinc 3 1, 3) := by decide +kernel
theorem smd_M_isOther_76 : decode prog_7_method_16_code 76 = .ok (.goto (-49), 3) := by decide +kernel
theorem smd_M_isOther_79 : decode prog_7_method_16_code 79 = .ok (.iload_n 2, 1) := by decide +kernel
theorem smd_M_isOther_80 : decode prog_7_method_16_code 80 = .ok (.ireturn, 1) := by decide +kernel
theorem smd_M_usesTouched_0 : decode prog_7_method_17_code 0 = .ok (.iconst 0, 1) := by decide +kernel
theorem smd_M_usesTouched_1 : decode prog_7_method_17_code 1 = .ok (.istore_n 2, 1) := by decide +kernel
theorem smd_M_usesTouched_2 : decode prog_7_method_17_code 2 = .ok (.iconst 0, 1) := by decide +kernel
theorem smd_M_usesTouched_3 : decode prog_7_method_17_code 3 = .ok (.istore_n 3, 1) := by decide +kernel
theorem smd_M_usesTouched_4 : decode prog_7_method_17_code 4 = .ok (.iload_n 3, 1) := by decide +kernel
theorem smd_M_usesTouched_5 : decode prog_7_method_17_code 5 = .ok (.aload_n 0, 1) := by decide +kernel
theorem smd_M_usesTouched_6 : decode prog_7_method_17_code 6 = .ok (.getfield 13, 3) := by decide +kernel
theorem smd_M_usesTouched_9 : decode prog_7_method_17_code 9 = .ok (.iload_n 1, 1) := by decide +kernel
theorem smd_M_usesTouched_10 : decode prog_7_method_17_code 10 = .ok (.iaload, 1) := by decide +kernel
theorem smd_M_usesTouched_11 : decode prog_7_method_17_code 11 = .ok (.if_icmp .ge 109, 3) := by decide +kernel
theorem smd_M_usesTouched_14 : decode prog_7_method_17_code 14 = .ok (.bipush 48, 2) := by decide +kernel
theorem smd_M_usesTouched_16 : decode prog_7_method_17_code 16 = .ok (.iload_n 1, 1) := by decide +kernel
theorem smd_M_usesTouched_17 : decode prog_7_method_17_code 17 = .ok (.imul, 1) := by decide +kernel
theorem smd_M_usesTouched_18 : decode prog_7_method_17_code 18 = .ok (.iconst 4, 1) := by decide +kernel
theorem smd_M_usesTouched_19 : decode prog_7_method_17_code 19 = .ok (.iload_n 3, 1) := by decide +kernel
theorem smd_M_usesTouched_20 : decode prog_7_method_17_code 20 = .ok (.imul, 1) := by decide +kernel
theorem smd_M_usesTouched_21 : decode prog_7_method_17_code 21 = .ok (.iadd, 1) := by decide +kernel
theorem smd_M_usesTouched_22 : decode prog_7_method_17_code 22 = .ok (.istore 4, 2) := by decide +kernel
theorem smd_M_usesTouched_24 : decode prog_7_method_17_code 24 = .ok (.aload_n 0, 1) := by decide +kernel
theorem smd_M_usesTouched_25 : decode prog_7_method_17_code 25 = .ok (.getfield 7, 3) := by decide +kernel
theorem smd_M_usesTouched_28 : decode prog_7_method_17_code 28 = .ok (.iload 4, 2) := by decide +kernel
theorem smd_M_usesTouched_30 : decode prog_7_method_17_code 30 = .ok (.iaload, 1) := by decide +kernel
theorem smd_M_usesTouched_31 : decode prog_7_method_17_code 31 = .ok (.bipush 6, 2) := by decide +kernel
theorem smd_M_usesTouched_33 : decode prog_7_method_17_code 33 = .ok (.if_icmp .ne 15, 3) := by decide +kernel
theorem smd_M_usesTouched_36 : decode prog_7_method_17_code 36 = .ok (.aload_n 0, 1) := by decide +kernel
theorem smd_M_usesTouched_37 : decode prog_7_method_17_code 37 = .ok (.getfield 7, 3) := by decide +kernel
theorem smd_M_usesTouched_40 : decode prog_7_method_17_code 40 = .ok (.iload 4, 2) := by decide +kernel
theorem smd_M_usesTouched_42 : decode prog_7_method_17_code 42 = .ok (.iconst 2, 1) := by decide +kernel
theorem smd_M_usesTouched_43 : decode prog_7_method_17_code 43 = .ok (.iadd, 1) := by decide +kernel
theorem smd_M_usesTouched_44 : decode prog_7_method_17_code 44 = .ok (.iaload, 1) := by decide +kernel
theorem smd_M_usesTouched_45 : decode prog_7_method_17_code 45 = .ok (.goto 42, 3) := by decide +kernel
theorem smd_M_usesTouched_48 : decode prog_7_method_17_code 48 = .ok (.aload_n 0, 1) := by decide +kernel
theorem smd_M_usesTouched_49 : decode prog_7_method_17_code 49 = .ok (.getfield 7, 3) := by decide +kernel
theorem smd_M_usesTouched_52 : decode prog_7_method_17_code 52 = .ok (.iload 4, 2) := by decide +kernel
theorem smd_M_usesTouched_54 : decode prog_7_method_17_code 54 = .ok (.iaload, 1) := by decide +kernel
theorem smd_M_usesTouched_55 : decode prog_7_method_17_code 55 = .ok (.bipush 7, 2) := by decide +kernel
theorem smd_M_usesTouched_57 : decode prog_7_method_17_code 57 = .ok (.if_icmp .eq 15, 3) := by decide +kernel
theorem smd_M_usesTouched_60 : decode prog_7_method_17_code 60 = .ok (.aload_n 0, 1) := by decide +kernel
theorem smd_M_usesTouched_61 : decode prog_7_method_17_code 61 = .ok (.getfield 7, 3) := by decide +kernel
theorem smd_M_usesTouched_64 : decode prog_7_method_17_code 64 = .ok (.iload 4, 2) := by decide +kernel
theorem smd_M_usesTouched_66 : decode prog_7_method_17_code 66 = .ok (.iaload, 1) := by decide +kernel
theorem smd_M_usesTouched_67 : decode prog_7_method_17_code 67 = .ok (.bipush 8, 2) := by decide +kernel
theorem smd_M_usesTouched_69 : decode prog_7_method_17_code 69 = .ok (.if_icmp .ne 17, 3) := by decide +kernel
theorem smd_M_usesTouched_72 : decode prog_7_method_17_code 72 = .ok (.aload_n 0, 1) := by decide +kernel
theorem smd_M_usesTouched_73 : decode prog_7_method_17_code 73 = .ok (.getfield 7, 3) := by decide +kernel
theorem smd_M_usesTouched_76 : decode prog_7_method_17_code 76 = .ok (.iload 4, 2) := by decide +kernel
theorem smd_M_usesTouched_78 : decode prog_7_method_17_code 78 = .ok (.iconst 3, 1) := by decide +kernel
theorem smd_M_usesTouched_79 : decode prog_7_method_17_code 79 = .ok (.iadd, 1) := by decide +kernel
theorem smd_M_usesTouched_80 : decode prog_7_method_17_code 80 = .ok (.iaload, 1) := by decide +kernel
theorem smd_M_usesTouched_81 : decode prog_7_method_17_code 81 = .ok (.iconst 4, 1) := by decide +kernel
theorem smd_M_usesTouched_82 : decode prog_7_method_17_code 82 = .ok (.idiv, 1) := by decide +kernel
theorem smd_M_usesTouched_83 : decode prog_7_method_17_code 83 = .ok (.goto 4, 3) := by decide +kernel
theorem smd_M_usesTouched_86 : decode prog_7_method_17_code 86 = .ok (.iconst (-1), 1) := by decide +kernel
theorem smd_M_usesTouched_87 : decode prog_7_method_17_code 87 = .ok (.istore 5, 2) := by decide +kernel
theorem smd_M_usesTouched_89 : decode prog_7_method_17_code 89 = .ok (.iload_n 2, 1) := by decide +kernel
theorem smd_M_usesTouched_90 : decode prog_7_method_17_code 90 = .ok (.ifCond .ne 18, 3) := by decide +kernel
theorem smd_M_usesTouched_93 : decode prog_7_method_17_code 93 = .ok (.iload 5, 2) := by decide +kernel
theorem smd_M_usesTouched_95 : decode prog_7_method_17_code 95 = .ok (.ifCond .lt 17, 3) := by decide +kernel
theorem smd_M_usesTouched_98 : decode prog_7_method_17_code 98 = .ok (.aload_n 0, 1) := by decide +kernel
theorem smd_M_usesTouched_99 : decode prog_7_method_17_code 99 = .ok (.getfield 22, 3) := by decide +kernel
theorem smd_M_usesTouched_102 : decode prog_7_method_17_code 102 = .ok (.iload 5, 2) := by decide +kernel
theorem smd_M_usesTouched_104 : decode prog_7_method_17_code 104 = .ok (.baload, 1) := by decide +kernel
theorem smd_M_usesTouched_105 : decode prog_7_method_17_code 105 = .ok (.ifCond .eq 7, 3) := by decide +kernel
theorem smd_M_usesTouched_108 : decode prog_7_method_17_code 108 = .ok (.iconst 1, 1) := by decide +kernel
theorem smd_M_usesTouched_109 : decode prog_7_method_17_code 109 = .ok (.goto 4, 3) := by decide +kernel
theorem smd_M_usesTouched_112 : decode prog_7_method_17_code 112 = .ok (.iconst 0, 1) := by decide +kernel
theorem smd_M_usesTouched_113 : decode prog_7_method_17_code 113 = .ok (.istore_n 2, 1) := by decide +kernel
theorem smd_M_usesTouched_114 : decode prog_7_method_17_code 114 = .ok (.iinc 3 1, 3) := by decide +kernel
theorem smd_M_usesTouched_117 : decode prog_7_method_17_code 117 = .ok (.goto (-113), 3) := by decide +kernel
theorem smd_M_usesTouched_120 : decode prog_7_method_17_code 120 = .ok (.iload_n 2, 1) := by decide +kernel
theorem smd_M_usesTouched_121 : decode prog_7_method_17_code 121 = .ok (.ireturn, 1) := by decide +kernel
theorem smd_M_isChanged_0 : decode prog_7_method_18_code 0 = .ok (.aload_n 0, 1) := by decide +kernel
theorem smd_M_isChanged_1 : decode prog_7_method_18_code 1 = .ok (.iload_n 1, 1) := by decide +kernel
theorem smd_M_isChanged_2 : decode prog_7_method_18_code 2 = .ok (.invokevirtual 87, 3) := by decide +kernel
theorem smd_M_isChanged_5 : decode prog_7_method_18_code 5 = .ok (.ifCond .ne 11, 3) := by decide +kernel
theorem smd_M_isChanged_8 : decode prog_7_method_18_code 8 = .ok (.aload_n 0, 1) := by decide +kernel
theorem smd_M_isChanged_9 : decode prog_7_method_18_code 9 = .ok (.iload_n 1, 1) := by decide +kernel
theorem smd_M_isChanged_10 : decode prog_7_method_18_code 10 = .ok (.invokevirtual 90, 3) := by decide +kernel
theorem smd_M_isChanged_13 : decode prog_7_method_18_code 13 = .ok (.ifCond .eq 7, 3) := by decide +kernel
theorem smd_M_isChanged_16 : decode prog_7_method_18_code 16 = .ok (.iconst 1, 1) := by decide +kernel
theorem smd_M_isChanged_17 : decode prog_7_method_18_code 17 = .ok (.goto 4, 3) := by decide +kernel
theorem smd_M_isChanged_20 : decode prog_7_method_18_code 20 = .ok (.iconst 0, 1) := by decide +kernel
theorem smd_M_isChanged_21 : decode prog_7_method_18_code 21 = .ok (.ireturn, 1) := by decide +kernel
theorem smd_M_changed_0 : decode prog_7_method_19_code 0 = .ok (.aload_n 0, 1) := by decide +kernel
theorem smd_M_changed_1 : decode prog_7_method_19_code 1 = .ok (.getfield 63, 3) := by decide +kernel
theorem smd_M_changed_4 : decode prog_7_method_19_code 4 = .ok (.ifCond .eq 22, 3) := by decide +kernel
theorem smd_M_changed_7 : decode prog_7_method_19_code 7 = .ok (.iload_n 1, 1) := by decide +kernel
theorem smd_M_changed_8 : decode prog_7_method_19_code 8 = .ok (.invokestatic 59, 3) := by decide +kernel
theorem smd_M_changed_11 : decode prog_7_method_19_code 11 = .ok (.ifCond .eq 15, 3) := by decide +kernel
theorem smd_M_changed_14 : decode prog_7_method_19_code 14 = .ok (.aload_n 0, 1) := by decide +kernel
theorem smd_M_changed_15 : decode prog_7_method_19_code 15 = .ok (.iload_n 1, 1) := by decide +kernel
theorem smd_M_changed_16 : decode prog_7_method_19_code 16 = .ok (.invokevirtual 93, 3) := by decide +kernel
theorem smd_M_changed_19 : decode prog_7_method_19_code 19 = .ok (.ifCond .eq 7, 3) := by decide +kernel
theorem smd_M_changed_22 : decode prog_7_method_19_code 22 = .ok (.iconst 1, 1) := by decide +kernel
theorem smd_M_changed_23 : decode prog_7_method_19_code 23 = .ok (.goto 4, 3) := by decide +kernel
theorem smd_M_changed_26 : decode prog_7_method_19_code 26 = .ok (.iconst 0, 1) := by decide +kernel
theorem smd_M_changed_27 : decode prog_7_method_19_code 27 = .ok (.ireturn, 1) := by decide +kernel
theorem smd_M_pointOf_0 : decode prog_7_method_20_code 0 = .ok (.iconst (-1), 1) := by decide +kernel
theorem smd_M_pointOf_1 : decode prog_7_method_20_code 1 = .ok (.istore_n 3, 1) := by decide +kernel
theorem smd_M_pointOf_2 : decode prog_7_method_20_code 2 = .ok (.aload_n 0, 1) := by decide +kernel
theorem smd_M_pointOf_3 : decode prog_7_method_20_code 3 = .ok (.getfield 13, 3) := by decide +kernel
theorem smd_M_pointOf_6 : decode prog_7_method_20_code 6 = .ok (.bipush 6, 2) := by decide +kernel
theorem smd_M_pointOf_8 : decode prog_7_method_20_code 8 = .ok (.iload_n 1, 1) := by decide +kernel
theorem smd_M_pointOf_9 : decode prog_7_method_20_code 9 = .ok (.iadd, 1) := by decide +kernel
theorem smd_M_pointOf_10 : decode prog_7_method_20_code 10 = .ok (.iaload, 1) := by decide +kernel
theorem smd_M_pointOf_11 : decode prog_7_method_20_code 11 = .ok (.iconst 1, 1) := by decide +kernel
theorem smd_M_pointOf_12 : decode prog_7_method_20_code 12 = .ok (.isub, 1) := by decide +kernel
theorem smd_M_pointOf_13 : decode prog_7_method_20_code 13 = .ok (.istore 4, 2) := by decide +kernel
theorem smd_M_pointOf_15 : decode prog_7_method_20_code 15 = .ok (.iload 4, 2) := by decide +kernel
theorem smd_M_pointOf_17 : decode prog_7_method_20_code 17 = .ok (.ifCond .lt 56, 3) := by decide +kernel
theorem smd_M_pointOf_20 : decode prog_7_method_20_code 20 = .ok (.sipush 288, 3) := by decide +kernel
theorem smd_M_pointOf_23 : decode prog_7_method_20_code 23 = .ok (.bipush 48, 2) := by decide +kernel
theorem smd_M_pointOf_25 : decode prog_7_method_20_code 25 = .ok (.iload_n 1, 1) := by decide +kernel
theorem smd_M_pointOf_26 : decode prog_7_method_20_code 26 = .ok (.imul, 1) := by decide +kernel
theorem smd_M_pointOf_27 : decode prog_7_method_20_code 27 = .ok (.iadd, 1) := by decide +kernel
theorem smd_M_pointOf_28 : decode prog_7_method_20_code 28 = .ok (.iconst 4, 1) := by decide +kernel
theorem smd_M_pointOf_29 : decode prog_7_method_20_code 29 = .ok (.iload 4, 2) := by decide +kernel
theorem smd_M_pointOf_31 : decode prog_7_method_20_code 31 = .ok (.imul, 1) := by decide +kernel
theorem smd_M_pointOf_32 : decode prog_7_method_20_code 32 = .ok (.iadd, 1) := by decide +kernel
theorem smd_M_pointOf_33 : decode prog_7_method_20_code 33 = .ok (.istore 5, 2) := by decide +kernel
theorem smd_M_pointOf_35 : decode prog_7_method_20_code 35 = .ok (.aload_n 0, 1) := by decide +kernel
theorem smd_M_pointOf_36 : decode prog_7_method_20_code 36 = .ok (.getfield 7, 3) := by decide +kernel
theorem smd_M_pointOf_39 : decode prog_7_method_20_code 39 = .ok (.iload 5, 2) := by decide +kernel
theorem smd_M_pointOf_41 : decode prog_7_method_20_code 41 = .ok (.iaload, 1) := by decide +kernel
theorem smd_M_pointOf_42 : decode prog_7_method_20_code 42 = .ok (.bipush 12, 2) := by decide +kernel
theorem smd_M_pointOf_44 : decode prog_7_method_20_code 44 = .ok (.if_icmp .ne 21, 3) := by decide +kernel
theorem smd_M_pointOf_47 : decode prog_7_method_20_code 47 = .ok (.aload_n 0, 1) := by decide +kernel
theorem smd_M_pointOf_48 : decode prog_7_method_20_code 48 = .ok (.getfield 7, 3) := by decide +kernel
theorem smd_M_pointOf_51 : decode prog_7_method_20_code 51 = .ok (.iload 5, 2) := by decide +kernel
theorem smd_M_pointOf_53 : decode prog_7_method_20_code 53 = .ok (.iconst 1, 1) := by decide +kernel
theorem smd_M_pointOf_54 : decode prog_7_method_20_code 54 = .ok (.iadd, 1) := by decide +kernel
theorem smd_M_pointOf_55 : decode prog_7_method_20_code 55 = .ok (.iaload, 1) := by decide +kernel
theorem smd_M_pointOf_56 : decode prog_7_method_20_code 56 = .ok (.iload_n 2, 1) := by decide +kernel
theorem smd_M_pointOf_57 : decode prog_7_method_20_code 57 = .ok (.if_icmp .ne 8, 3) := by decide +kernel
theorem smd_M_pointOf_60 : decode prog_7_method_20_code 60 = .ok (.iload 4, 2) := by decide +kernel
theorem smd_M_pointOf_62 : decode prog_7_method_20_code 62 = .ok (.goto 4, 3) := by decide +kernel
theorem smd_M_pointOf_65 : decode prog_7_method_20_code 65 = .ok (.iload_n 3, 1) := by decide +kernel
theorem smd_M_pointOf_66 : decode prog_7_method_20_code 66 = .ok (.istore_n 3, 1) := by decide +kernel
theorem smd_M_pointOf_67 : decode prog_7_method_20_code 67 = .ok (.iinc 4 (-1), 3) := by decide +kernel
theorem smd_M_pointOf_70 : decode prog_7_method_20_code 70 = .ok (.goto (-55), 3) := by decide +kernel
theorem smd_M_pointOf_73 : decode prog_7_method_20_code 73 = .ok (.iload_n 3, 1) := by decide +kernel
theorem smd_M_pointOf_74 : decode prog_7_method_20_code 74 = .ok (.ireturn, 1) := by decide +kernel
theorem smd_M_frameAt_0 : decode prog_7_method_21_code 0 = .ok (.bipush 36, 2) := by decide +kernel
theorem smd_M_frameAt_2 : decode prog_7_method_21_code 2 = .ok (.iload_n 0, 1) := by decide +kernel
theorem smd_M_frameAt_3 : decode prog_7_method_21_code 3 = .ok (.imul, 1) := by decide +kernel
theorem smd_M_frameAt_4 : decode prog_7_method_21_code 4 = .ok (.bipush 6, 2) := by decide +kernel
theorem smd_M_frameAt_6 : decode prog_7_method_21_code 6 = .ok (.iload_n 1, 1) := by decide +kernel
theorem smd_M_frameAt_7 : decode prog_7_method_21_code 7 = .ok (.imul, 1) := by decide +kernel
theorem smd_M_frameAt_8 : decode prog_7_method_21_code 8 = .ok (.iadd, 1) := by decide +kernel
theorem smd_M_frameAt_9 : decode prog_7_method_21_code 9 = .ok (.ireturn, 1) := by decide +kernel
theorem smd_M_isInTheWay_0 : decode prog_7_method_22_code 0 = .ok (.aload_n 0, 1) := by decide +kernel
theorem smd_M_isInTheWay_1 : decode prog_7_method_22_code 1 = .ok (.getfield 50, 3) := by decide +kernel
theorem smd_M_isInTheWay_4 : decode prog_7_method_22_code 4 = .ok (.iload_n 1, 1) := by decide +kernel
theorem smd_M_isInTheWay_5 : decode prog_7_method_22_code 5 = .ok (.iload_n 2, 1) := by decide +kernel
theorem smd_M_isInTheWay_6 : decode prog_7_method_22_code 6 = .ok (.invokestatic 96, 3) := by decide +kernel
theorem smd_M_isInTheWay_9 : decode prog_7_method_22_code 9 = .ok (.iaload, 1) := by decide +kernel
theorem smd_M_isInTheWay_10 : decode prog_7_method_22_code 10 = .ok (.istore_n 3, 1) := by decide +kernel
theorem smd_M_isInTheWay_11 : decode prog_7_method_22_code 11 = .ok (.aload_n 0, 1) := by decide +kernel
theorem smd_M_isInTheWay_12 : decode prog_7_method_22_code 12 = .ok (.iload_n 3, 1) := by decide +kernel
theorem smd_M_isInTheWay_13 : decode prog_7_method_22_code 13 = .ok (.invokevirtual 93, 3) := by decide +kernel
theorem smd_M_isInTheWay_16 : decode prog_7_method_22_code 16 = .ok (.ifCond .ne 5, 3) := by decide +kernel
theorem smd_M_isInTheWay_19 : decode prog_7_method_22_code 19 = .ok (.iconst 0, 1) := by decide +kernel
theorem smd_M_isInTheWay_20 : decode prog_7_method_22_code 20 = .ok (.ireturn, 1) := by decide +kernel
theorem smd_M_isInTheWay_21 : decode prog_7_method_22_code 21 = .ok (.bipush 48, 2) := by decide +kernel
theorem smd_M_isInTheWay_23 : decode prog_7_method_22_code 23 = .ok (.iload_n 3, 1) := by decide +kernel
theorem smd_M_isInTheWay_24 : decode prog_7_method_22_code 24 = .ok (.imul, 1) := by decide +kernel
theorem smd_M_isInTheWay_25 : decode prog_7_method_22_code 25 = .ok (.iconst 4, 1) := by decide +kernel
theorem smd_M_isInTheWay_26 : decode prog_7_method_22_code 26 = .ok (.aload_n 0, 1) := by decide +kernel
theorem smd_M_isInTheWay_27 : decode prog_7_method_22_code 27 = .ok (.getfield 50, 3) := by decide +kernel
theorem smd_M_isInTheWay_30 : decode prog_7_method_22_code 30 = .ok (.iload_n 1, 1) := by decide +kernel
theorem smd_M_isInTheWay_31 : decode prog_7_method_22_code 31 = .ok (.iload_n 2, 1) := by decide +kernel
theorem smd_M_isInTheWay_32 : decode prog_7_method_22_code 32 = .ok (.invokestatic 96, 3) := by decide +kernel
theorem smd_M_isInTheWay_35 : decode prog_7_method_22_code 35 = .ok (.iconst 1, 1) := by decide +kernel
theorem smd_M_isInTheWay_36 : decode prog_7_method_22_code 36 = .ok (.iadd, 1) := by decide +kernel
theorem smd_M_isInTheWay_37 : decode prog_7_method_22_code 37 = .ok (.iaload, 1) := by decide +kernel
theorem smd_M_isInTheWay_38 : decode prog_7_method_22_code 38 = .ok (.imul, 1) := by decide +kernel
theorem smd_M_isInTheWay_39 : decode prog_7_method_22_code 39 = .ok (.iadd, 1) := by decide +kernel
theorem smd_M_isInTheWay_40 : decode prog_7_method_22_code 40 = .ok (.istore 4, 2) := by decide +kernel
theorem smd_M_isInTheWay_42 : decode prog_7_method_22_code 42 = .ok (.iload_n 2, 1) := by decide +kernel
theorem smd_M_isInTheWay_43 : decode prog_7_method_22_code 43 = .ok (.iconst 1, 1) := by decide +kernel
theorem smd_M_isInTheWay_44 : decode prog_7_method_22_code 44 = .ok (.iadd, 1) := by decide +kernel
theorem smd_M_isInTheWay_45 : decode prog_7_method_22_code 45 = .ok (.aload_n 0, 1) := by decide +kernel
theorem smd_M_isInTheWay_46 : decode prog_7_method_22_code 46 = .ok (.getfield 47, 3) := by decide +kernel
theorem smd_M_isInTheWay_49 : decode prog_7_method_22_code 49 = .ok (.iload_n 1, 1) := by decide +kernel
theorem smd_M_isInTheWay_50 : decode prog_7_method_22_code 50 = .ok (.iaload, 1) := by decide +kernel
theorem smd_M_isInTheWay_51 : decode prog_7_method_22_code 51 = .ok (.if_icmp .lt 32, 3) := by decide +kernel
theorem smd_M_isInTheWay_54 : decode prog_7_method_22_code 54 = .ok (.aload_n 0, 1) := by decide +kernel
theorem smd_M_isInTheWay_55 : decode prog_7_method_22_code 55 = .ok (.getfield 7, 3) := by decide +kernel
theorem smd_M_isInTheWay_58 : decode prog_7_method_22_code 58 = .ok (.iload 4, 2) := by decide +kernel
theorem smd_M_isInTheWay_60 : decode prog_7_method_22_code 60 = .ok (.iaload, 1) := by decide +kernel
theorem smd_M_isInTheWay_61 : decode prog_7_method_22_code 61 = .ok (.bipush 12, 2) := by decide +kernel
theorem smd_M_isInTheWay_63 : decode prog_7_method_22_code 63 = .ok (.if_icmp .ne 20, 3) := by decide +kernel
theorem smd_M_isInTheWay_66 : decode prog_7_method_22_code 66 = .ok (.aload_n 0, 1) := by decide +kernel
theorem smd_M_isInTheWay_67 : decode prog_7_method_22_code 67 = .ok (.iload_n 3, 1) := by decide +kernel
theorem smd_M_isInTheWay_68 : decode prog_7_method_22_code 68 = .ok (.aload_n 0, 1) := by decide +kernel
theorem smd_M_isInTheWay_69 : decode prog_7_method_22_code 69 = .ok (.getfield 7, 3) := by decide +kernel
theorem smd_M_isInTheWay_72 : decode prog_7_method_22_code 72 = .ok (.iload 4, 2) := by decide +kernel
theorem smd_M_isInTheWay_74 : decode prog_7_method_22_code 74 = .ok (.iconst 1, 1) := by decide +kernel
theorem smd_M_isInTheWay_75 : decode prog_7_method_22_code 75 = .ok (.iadd, 1) := by decide +kernel
theorem smd_M_isInTheWay_76 : decode prog_7_method_22_code 76 = .ok (.iaload, 1) := by decide +kernel
theorem smd_M_isInTheWay_77 : decode prog_7_method_22_code 77 = .ok (.invokevirtual 100, 3) := by decide +kernel
theorem smd_M_isInTheWay_80 : decode prog_7_method_22_code 80 = .ok (.ifCond .ge 7, 3) := by decide +kernel
theorem smd_M_isInTheWay_83 : decode prog_7_method_22_code 83 = .ok (.iconst 1, 1) := by decide +kernel
theorem smd_M_isInTheWay_84 : decode prog_7_method_22_code 84 = .ok (.goto 4, 3) := by decide +kernel
theorem smd_M_isInTheWay_87 : decode prog_7_method_22_code 87 = .ok (.iconst 0, 1) := by decide +kernel
theorem smd_M_isInTheWay_88 : decode prog_7_method_22_code 88 = .ok (.ireturn, 1) := by decide +kernel
theorem smd_M_blocker_0 : decode prog_7_method_23_code 0 = .ok (.aload_n 0, 1) := by decide +kernel
theorem smd_M_blocker_1 : decode prog_7_method_23_code 1 = .ok (.getfield 63, 3) := by decide +kernel
theorem smd_M_blocker_4 : decode prog_7_method_23_code 4 = .ok (.ifCond .ne 5, 3) := by decide +kernel
theorem smd_M_blocker_7 : decode prog_7_method_23_code 7 = .ok (.iconst 0, 1) := by decide +kernel
theorem smd_M_blocker_8 : decode prog_7_method_23_code 8 = .ok (.ireturn, 1) := by decide +kernel
theorem smd_M_blocker_9 : decode prog_7_method_23_code 9 = .ok (.iconst 1, 1) := by decide +kernel
theorem smd_M_blocker_10 : decode prog_7_method_23_code 10 = .ok (.istore_n 2, 1) := by decide +kernel
theorem smd_M_blocker_11 : decode prog_7_method_23_code 11 = .ok (.iload_n 2, 1) := by decide +kernel
theorem smd_M_blocker_12 : decode prog_7_method_23_code 12 = .ok (.aload_n 0, 1) := by decide +kernel
theorem smd_M_blocker_13 : decode prog_7_method_23_code 13 = .ok (.getfield 103, 3) := by decide +kernel
theorem smd_M_blocker_16 : decode prog_7_method_23_code 16 = .ok (.if_icmp .gt 43, 3) := by decide +kernel
theorem smd_M_blocker_19 : decode prog_7_method_23_code 19 = .ok (.iconst 0, 1) := by decide +kernel
theorem smd_M_blocker_20 : decode prog_7_method_23_code 20 = .ok (.istore_n 3, 1) := by decide +kernel
theorem smd_M_blocker_21 : decode prog_7_method_23_code 21 = .ok (.iload_n 3, 1) := by decide +kernel
theorem smd_M_blocker_22 : decode prog_7_method_23_code 22 = .ok (.aload_n 0, 1) := by decide +kernel
theorem smd_M_blocker_23 : decode prog_7_method_23_code 23 = .ok (.getfield 47, 3) := by decide +kernel
theorem smd_M_blocker_26 : decode prog_7_method_23_code 26 = .ok (.iload_n 2, 1) := by decide +kernel
theorem smd_M_blocker_27 : decode prog_7_method_23_code 27 = .ok (.iaload, 1) := by decide +kernel
theorem smd_M_blocker_28 : decode prog_7_method_23_code 28 = .ok (.if_icmp .ge 25, 3) := by decide +kernel
theorem smd_M_blocker_31 : decode prog_7_method_23_code 31 = .ok (.iload_n 2, 1) := by decide +kernel
theorem smd_M_blocker_32 : decode prog_7_method_23_code 32 = .ok (.iload_n 1, 1) := by decide +kernel
theorem smd_M_blocker_33 : decode prog_7_method_23_code 33 = .ok (.if_icmp .lt 14, 3) := by decide +kernel
theorem smd_M_blocker_36 : decode prog_7_method_23_code 36 = .ok (.aload_n 0, 1) := by decide +kernel
theorem smd_M_blocker_37 : decode prog_7_method_23_code 37 = .ok (.iload_n 2, 1) := by decide +kernel
theorem smd_M_blocker_38 : decode prog_7_method_23_code 38 = .ok (.iload_n 3, 1) := by decide +kernel
theorem smd_M_blocker_39 : decode prog_7_method_23_code 39 = .ok (.invokevirtual 107, 3) := by decide +kernel
theorem smd_M_blocker_42 : decode prog_7_method_23_code 42 = .ok (.ifCond .eq 5, 3) := by decide +kernel
theorem smd_M_blocker_45 : decode prog_7_method_23_code 45 = .ok (.iload_n 2, 1) := by decide +kernel
theorem smd_M_blocker_46 : decode prog_7_method_23_code 46 = .ok (.ireturn, 1) := by decide +kernel
theorem smd_M_blocker_47 : decode prog_7_method_23_code 47 = .ok (.iinc 3 1, 3) := by decide +kernel
theorem smd_M_blocker_50 : decode prog_7_method_23_code 50 = .ok (.goto (-29), 3) := by decide +kernel
theorem smd_M_blocker_53 : decode prog_7_method_23_code 53 = .ok (.iinc 2 1, 3) := by decide +kernel
theorem smd_M_blocker_56 : decode prog_7_method_23_code 56 = .ok (.goto (-45), 3) := by decide +kernel
theorem smd_M_blocker_59 : decode prog_7_method_23_code 59 = .ok (.iconst 0, 1) := by decide +kernel
theorem smd_M_blocker_60 : decode prog_7_method_23_code 60 = .ok (.ireturn, 1) := by decide +kernel
theorem smd_M_isObject_0 : decode prog_7_method_24_code 0 = .ok (.iload_n 1, 1) := by decide +kernel
theorem smd_M_isObject_1 : decode prog_7_method_24_code 1 = .ok (.iconst 1, 1) := by decide +kernel
theorem smd_M_isObject_2 : decode prog_7_method_24_code 2 = .ok (.if_icmp .lt 22, 3) := by decide +kernel
theorem smd_M_isObject_5 : decode prog_7_method_24_code 5 = .ok (.iload_n 1, 1) := by decide +kernel
theorem smd_M_isObject_6 : decode prog_7_method_24_code 6 = .ok (.bipush 16, 2) := by decide +kernel
theorem smd_M_isObject_8 : decode prog_7_method_24_code 8 = .ok (.if_icmp .gt 16, 3) := by decide +kernel
theorem smd_M_isObject_11 : decode prog_7_method_24_code 11 = .ok (.aload_n 0, 1) := by decide +kernel
theorem smd_M_isObject_12 : decode prog_7_method_24_code 12 = .ok (.getfield 29, 3) := by decide +kernel
theorem smd_M_isObject_15 : decode prog_7_method_24_code 15 = .ok (.iload_n 1, 1) := by decide +kernel
theorem smd_M_isObject_16 : decode prog_7_method_24_code 16 = .ok (.iaload, 1) := by decide +kernel
theorem smd_M_isObject_17 : decode prog_7_method_24_code 17 = .ok (.ifCond .lt 7, 3) := by decide +kernel
theorem smd_M_isObject_20 : decode prog_7_method_24_code 20 = .ok (.iconst 1, 1) := by decide +kernel
theorem smd_M_isObject_21 : decode prog_7_method_24_code 21 = .ok (.goto 4, 3) := by decide +kernel
theorem smd_M_isObject_24 : decode prog_7_method_24_code 24 = .ok (.iconst 0, 1) := by decide +kernel
theorem smd_M_isObject_25 : decode prog_7_method_24_code 25 = .ok (.ireturn, 1) := by decide +kernel
theorem smd_M_mark_0 : decode prog_7_method_25_code 0 = .ok (.aload_n 0, 1) := by decide +kernel
theorem smd_M_mark_1 : decode prog_7_method_25_code 1 = .ok (.iload_n 1, 1) := by decide +kernel
theorem smd_M_mark_2 : decode prog_7_method_25_code 2 = .ok (.invokevirtual 110, 3) := by decide +kernel
theorem smd_M_mark_5 : decode prog_7_method_25_code 5 = .ok (.ifCond .eq 10, 3) := by decide +kernel
theorem smd_M_mark_8 : decode prog_7_method_25_code 8 = .ok (.aload_n 0, 1) := by decide +kernel
theorem smd_M_mark_9 : decode prog_7_method_25_code 9 = .ok (.getfield 38, 3) := by decide +kernel
theorem smd_M_mark_12 : decode prog_7_method_25_code 12 = .ok (.iload_n 1, 1) := by decide +kernel
theorem smd_M_mark_13 : decode prog_7_method_25_code 13 = .ok (.iconst 1, 1) := by decide +kernel
theorem smd_M_mark_14 : decode prog_7_method_25_code 14 = .ok (.bastore, 1) := by decide +kernel
theorem smd_M_mark_15 : decode prog_7_method_25_code 15 = .ok (.return_, 1) := by decide +kernel
theorem smd_M_countMarked_0 : decode prog_7_method_26_code 0 = .ok (.iconst 0, 1) := by decide +kernel
theorem smd_M_countMarked_1 : decode prog_7_method_26_code 1 = .ok (.istore_n 1, 1) := by decide +kernel
theorem smd_M_countMarked_2 : decode prog_7_method_26_code 2 = .ok (.iconst 1, 1) := by decide +kernel
theorem smd_M_countMarked_3 : decode prog_7_method_26_code 3 = .ok (.istore_n 2, 1) := by decide +kernel
theorem smd_M_countMarked_4 : decode prog_7_method_26_code 4 = .ok (.iload_n 2, 1) := by decide +kernel
theorem smd_M_countMarked_5 : decode prog_7_method_26_code 5 = .ok (.bipush 17, 2) := by decide +kernel
theorem smd_M_countMarked_7 : decode prog_7_method_26_code 7 = .ok (.if_icmp .ge 26, 3) := by decide +kernel
theorem smd_M_countMarked_10 : decode prog_7_method_26_code 10 = .ok (.iload_n 1, 1) := by decide +kernel
theorem smd_M_countMarked_11 : decode prog_7_method_26_code 11 = .ok (.aload_n 0, 1) := by decide +kernel
theorem smd_M_countMarked_12 : decode prog_7_method_26_code 12 = .ok (.getfield 38, 3) := by decide +kernel
theorem smd_M_countMarked_15 : decode prog_7_method_26_code 15 = .ok (.iload_n 2, 1) := by decide +kernel
theorem smd_M_countMarked_16 : decode prog_7_method_26_code 16 = .ok (.baload, 1) := by decide +kernel
theorem smd_M_countMarked_17 : decode prog_7_method_26_code 17 = .ok (.ifCond .eq 7, 3) := by decide +kernel
theorem smd_M_countMarked_20 : decode prog_7_method_26_code 20 = .ok (.iconst 1, 1) := by decide +kernel
theorem smd_M_countMarked_21 : decode prog_7_method_26_code 21 = .ok (.goto 4, 3) := by decide +kernel
theorem smd_M_countMarked_24 : decode prog_7_method_26_code 24 = .ok (.iconst 0, 1) := by decide +kernel
theorem smd_M_countMarked_25 : decode prog_7_method_26_code 25 = .ok (.iadd, 1) := by decide +kernel
theorem smd_M_countMarked_26 : decode prog_7_method_26_code 26 = .ok (.istore_n 1, 1) := by decide +kernel
theorem smd_M_countMarked_27 : decode prog_7_method_26_code 27 = .ok (.iinc 2 1, 3) := by decide +kernel
theorem smd_M_countMarked_30 : decode prog_7_method_26_code 30 = .ok (.goto (-26), 3) := by decide +kernel
theorem smd_M_countMarked_33 : decode prog_7_method_26_code 33 = .ok (.iload_n 1, 1) := by decide +kernel
theorem smd_M_countMarked_34 : decode prog_7_method_26_code 34 = .ok (.ireturn, 1) := by decide +kernel
theorem smd_M_sweep_0 : decode prog_7_method_27_code 0 = .ok (.iconst 0, 1) := by decide +kernel
theorem smd_M_sweep_1 : decode prog_7_method_27_code 1 = .ok (.istore_n 1, 1) := by decide +kernel
theorem smd_M_sweep_2 : decode prog_7_method_27_code 2 = .ok (.iload_n 1, 1) := by decide +kernel
theorem smd_M_sweep_3 : decode prog_7_method_27_code 3 = .ok (.bipush 17, 2) := by decide +kernel
theorem smd_M_sweep_5 : decode prog_7_method_27_code 5 = .ok (.if_icmp .ge 16, 3) := by decide +kernel
theorem smd_M_sweep_8 : decode prog_7_method_27_code 8 = .ok (.aload_n 0, 1) := by decide +kernel
theorem smd_M_sweep_9 : decode prog_7_method_27_code 9 = .ok (.getfield 38, 3) := by decide +kernel
theorem smd_M_sweep_12 : decode prog_7_method_27_code 12 = .ok (.iload_n 1, 1) := by decide +kernel
theorem smd_M_sweep_13 : decode prog_7_method_27_code 13 = .ok (.iconst 0, 1) := by decide +kernel
theorem smd_M_sweep_14 : decode prog_7_method_27_code 14 = .ok (.bastore, 1) := by decide +kernel
theorem smd_M_sweep_15 : decode prog_7_method_27_code 15 = .ok (.iinc 1 1, 3) := by decide +kernel
theorem smd_M_sweep_18 : decode prog_7_method_27_code 18 = .ok (.goto (-16), 3) := by decide +kernel
theorem smd_M_sweep_21 : decode prog_7_method_27_code 21 = .ok (.iconst 0, 1) := by decide +kernel
theorem smd_M_sweep_22 : decode prog_7_method_27_code 22 = .ok (.istore_n 1, 1) := by decide +kernel
theorem smd_M_sweep_23 : decode prog_7_method_27_code 23 = .ok (.iload_n 1, 1) := by decide +kernel
theorem smd_M_sweep_24 : decode prog_7_method_27_code 24 = .ok (.iconst 4, 1) := by decide +kernel
theorem smd_M_sweep_25 : decode prog_7_method_27_code 25 = .ok (.if_icmp .ge 19, 3) := by decide +kernel
theorem smd_M_sweep_28 : decode prog_7_method_27_code 28 = .ok (.aload_n 0, 1) := by decide +kernel
theorem smd_M_sweep_29 : decode prog_7_method_27_code 29 = .ok (.aload_n 0, 1) := by decide +kernel
theorem smd_M_sweep_30 : decode prog_7_method_27_code 30 = .ok (.getfield 26, 3) := by decide +kernel
theorem smd_M_sweep_33 : decode prog_7_method_27_code 33 = .ok (.iload_n 1, 1) := by decide +kernel
theorem smd_M_sweep_34 : decode prog_7_method_27_code 34 = .ok (.iaload, 1) := by decide +kernel
theorem smd_M_sweep_35 : decode prog_7_method_27_code 35 = .ok (.invokevirtual 113, 3) := by decide +kernel
theorem smd_M_sweep_38 : decode prog_7_method_27_code 38 = .ok (.iinc 1 1, 3) := by decide +kernel
theorem smd_M_sweep_41 : decode prog_7_method_27_code 41 = .ok (.goto (-18), 3) := by decide +kernel
theorem smd_M_sweep_44 : decode prog_7_method_27_code 44 = .ok (.iconst 1, 1) := by decide +kernel
theorem smd_M_sweep_45 : decode prog_7_method_27_code 45 = .ok (.istore_n 1, 1) := by decide +kernel
theorem smd_M_sweep_46 : decode prog_7_method_27_code 46 = .ok (.iload_n 1, 1) := by decide +kernel
theorem smd_M_sweep_47 : decode prog_7_method_27_code 47 = .ok (.aload_n 0, 1) := by decide +kernel
theorem smd_M_sweep_48 : decode prog_7_method_27_code 48 = .ok (.getfield 103, 3) := by decide +kernel
theorem smd_M_sweep_51 : decode prog_7_method_27_code 51 = .ok (.if_icmp .gt 58, 3) := by decide +kernel
theorem smd_M_sweep_54 : decode prog_7_method_27_code 54 = .ok (.iconst 0, 1) := by decide +kernel
theorem smd_M_sweep_55 : decode prog_7_method_27_code 55 = .ok (.istore_n 2, 1) := by decide +kernel
theorem smd_M_sweep_56 : decode prog_7_method_27_code 56 = .ok (.iload_n 2, 1) := by decide +kernel
theorem smd_M_sweep_57 : decode prog_7_method_27_code 57 = .ok (.aload_n 0, 1) := by decide +kernel
theorem smd_M_sweep_58 : decode prog_7_method_27_code 58 = .ok (.getfield 47, 3) := by decide +kernel
theorem smd_M_sweep_61 : decode prog_7_method_27_code 61 = .ok (.iload_n 1, 1) := by decide +kernel
theorem smd_M_sweep_62 : decode prog_7_method_27_code 62 = .ok (.iaload, 1) := by decide +kernel
theorem smd_M_sweep_63 : decode prog_7_method_27_code 63 = .ok (.if_icmp .ge 40, 3) := by decide +kernel
theorem smd_M_sweep_66 : decode prog_7_method_27_code 66 = .ok (.iconst 0, 1) := by decide +kernel
theorem smd_M_sweep_67 : decode prog_7_method_27_code 67 = .ok (.istore_n 3, 1) := by decide +kernel
theorem smd_M_sweep_68 : decode prog_7_method_27_code 68 = .ok (.iload_n 3, 1) := by decide +kernel
theorem smd_M_sweep_69 : decode prog_7_method_27_code 69 = .ok (.iconst 3, 1) := by decide +kernel
theorem smd_M_sweep_70 : decode prog_7_method_27_code 70 = .ok (.if_icmp .ge 27, 3) := by decide +kernel
theorem smd_M_sweep_73 : decode prog_7_method_27_code 73 = .ok (.aload_n 0, 1) := by decide +kernel
theorem smd_M_sweep_74 : decode prog_7_method_27_code 74 = .ok (.aload_n 0, 1) := by decide +kernel
theorem smd_M_sweep_75 : decode prog_7_method_27_code 75 = .ok (.getfield 50, 3) := by decide +kernel
theorem smd_M_sweep_78 : decode prog_7_method_27_code 78 = .ok (.iload_n 1, 1) := by decide +kernel
theorem smd_M_sweep_79 : decode prog_7_method_27_code 79 = .ok (.iload_n 2, 1) := by decide +kernel
theorem smd_M_sweep_80 : decode prog_7_method_27_code 80 = .ok (.invokestatic 96, 3) := by decide +kernel
theorem smd_M_sweep_83 : decode prog_7_method_27_code 83 = .ok (.iconst 2, 1) := by decide +kernel
theorem smd_M_sweep_84 : decode prog_7_method_27_code 84 = .ok (.iadd, 1) := by decide +kernel
theorem smd_M_sweep_85 : decode prog_7_method_27_code 85 = .ok (.iload_n 3, 1) := by decide +kernel
theorem smd_M_sweep_86 : decode prog_7_method_27_code 86 = .ok (.iadd, 1) := by decide +kernel
theorem smd_M_sweep_87 : decode prog_7_method_27_code 87 = .ok (.iaload, 1) := by decide +kernel
theorem smd_M_sweep_88 : decode prog_7_method_27_code 88 = .ok (.invokevirtual 113, 3) := by decide +kernel
theorem smd_M_sweep_91 : decode prog_7_method_27_code 91 = .ok (.iinc 3 1, 3) := by decide +kernel
theorem smd_M_sweep_94 : decode prog_7_method_27_code 94 = .ok (.goto (-26), 3) := by decide +kernel
theorem smd_M_sweep_97 : decode prog_7_method_27_code 97 = .ok (.iinc 2 1, 3) := by decide +kernel
theorem smd_M_sweep_100 : decode prog_7_method_27_code 100 = .ok (.goto (-44), 3) := by decide +kernel
theorem smd_M_sweep_103 : decode prog_7_method_27_code 103 = .ok (.iinc 1 1, 3) := by decide +kernel
theorem smd_M_sweep_106 : decode prog_7_method_27_code 106 = .ok (.goto (-60), 3) := by decide +kernel
theorem smd_M_sweep_109 : decode prog_7_method_27_code 109 = .ok (.iconst (-1), 1) := by decide +kernel
theorem smd_M_sweep_110 : decode prog_7_method_27_code 110 = .ok (.istore_n 1, 1) := by decide +kernel
theorem smd_M_sweep_111 : decode prog_7_method_27_code 111 = .ok (.iload_n 1, 1) := by decide +kernel
theorem smd_M_sweep_112 : decode prog_7_method_27_code 112 = .ok (.aload_n 0, 1) := by decide +kernel
theorem smd_M_sweep_113 : decode prog_7_method_27_code 113 = .ok (.invokevirtual 116, 3) := by decide +kernel
theorem smd_M_sweep_116 : decode prog_7_method_27_code 116 = .ok (.if_icmp .eq 71, 3) := by decide +kernel
theorem smd_M_sweep_119 : decode prog_7_method_27_code 119 = .ok (.aload_n 0, 1) := by decide +kernel
theorem smd_M_sweep_120 : decode prog_7_method_27_code 120 = .ok (.invokevirtual 116, 3) := by decide +kernel
theorem smd_M_sweep_123 : decode prog_7_method_27_code 123 = .ok (.istore_n 1, 1) := by decide +kernel
theorem smd_M_sweep_124 : decode prog_7_method_27_code 124 = .ok (.iconst 1, 1) := by decide +kernel
theorem smd_M_sweep_125 : decode prog_7_method_27_code 125 = .ok (.istore_n 2, 1) := by decide +kernel
theorem smd_M_sweep_126 : decode prog_7_method_27_code 126 = .ok (.iload_n 2, 1) := by decide +kernel
theorem smd_M_sweep_127 : decode prog_7_method_27_code 127 = .ok (.bipush 17, 2) := by decide +kernel
theorem smd_M_sweep_129 : decode prog_7_method_27_code 129 = .ok (.if_icmp .ge 55, 3) := by decide +kernel
theorem smd_M_sweep_132 : decode prog_7_method_27_code 132 = .ok (.iconst 0, 1) := by decide +kernel
theorem smd_M_sweep_133 : decode prog_7_method_27_code 133 = .ok (.istore_n 3, 1) := by decide +kernel
theorem smd_M_sweep_134 : decode prog_7_method_27_code 134 = .ok (.aload_n 0, 1) := by decide +kernel
theorem smd_M_sweep_135 : decode prog_7_method_27_code 135 = .ok (.getfield 38, 3) := by decide +kernel
theorem smd_M_sweep_138 : decode prog_7_method_27_code 138 = .ok (.iload_n 2, 1) := by decide +kernel
theorem smd_M_sweep_139 : decode prog_7_method_27_code 139 = .ok (.baload, 1) := by decide +kernel
theorem smd_M_sweep_140 : decode prog_7_method_27_code 140 = .ok (.ifCond .eq 38, 3) := by decide +kernel
theorem smd_M_sweep_143 : decode prog_7_method_27_code 143 = .ok (.iload_n 3, 1) := by decide +kernel
theorem smd_M_sweep_144 : decode prog_7_method_27_code 144 = .ok (.aload_n 0, 1) := by decide +kernel
theorem smd_M_sweep_145 : decode prog_7_method_27_code 145 = .ok (.getfield 16, 3) := by decide +kernel
theorem smd_M_sweep_148 : decode prog_7_method_27_code 148 = .ok (.aload_n 0, 1) := by decide +kernel
theorem smd_M_sweep_149 : decode prog_7_method_27_code 149 = .ok (.getfield 29, 3) := by decide +kernel
theorem smd_M_sweep_152 : decode prog_7_method_27_code 152 = .ok (.iload_n 2, 1) := by decide +kernel
theorem smd_M_sweep_153 : decode prog_7_method_27_code 153 = .ok (.iaload, 1) := by decide +kernel
theorem smd_M_sweep_154 : decode prog_7_method_27_code 154 = .ok (.iaload, 1) := by decide +kernel
theorem smd_M_sweep_155 : decode prog_7_method_27_code 155 = .ok (.if_icmp .ge 23, 3) := by decide +kernel
theorem smd_M_sweep_158 : decode prog_7_method_27_code 158 = .ok (.aload_n 0, 1) := by decide +kernel
theorem smd_M_sweep_159 : decode prog_7_method_27_code 159 = .ok (.aload_n 0, 1) := by decide +kernel
theorem smd_M_sweep_160 : decode prog_7_method_27_code 160 = .ok (.getfield 32, 3) := by decide +kernel
theorem smd_M_sweep_163 : decode prog_7_method_27_code 163 = .ok (.iconst 4, 1) := by decide +kernel
theorem smd_M_sweep_164 : decode prog_7_method_27_code 164 = .ok (.iload_n 2, 1) := by decide +kernel
theorem smd_M_sweep_165 : decode prog_7_method_27_code 165 = .ok (.imul, 1) := by decide +kernel
theorem smd_M_sweep_166 : decode prog_7_method_27_code 166 = .ok (.iload_n 3, 1) := by decide +kernel
theorem smd_M_sweep_167 : decode prog_7_method_27_code 167 = .ok (.iadd, 1) := by decide +kernel
theorem smd_M_sweep_168 : decode prog_7_method_27_code 168 = .ok (.iaload, 1) := by decide +kernel
theorem smd_M_sweep_169 : decode prog_7_method_27_code 169 = .ok (.invokevirtual 113, 3) := by decide +kernel
theorem smd_M_sweep_172 : decode prog_7_method_27_code 172 = .ok (.iinc 3 1, 3) := by decide +kernel
theorem smd_M_sweep_175 : decode prog_7_method_27_code 175 = .ok (.goto (-41), 3) := by decide +kernel
theorem smd_M_sweep_178 : decode prog_7_method_27_code 178 = .ok (.iinc 2 1, 3) := by decide +kernel
theorem smd_M_sweep_181 : decode prog_7_method_27_code 181 = .ok (.goto (-55), 3) := by decide +kernel
theorem smd_M_sweep_184 : decode prog_7_method_27_code 184 = .ok (.goto (-73), 3) := by decide +kernel
theorem smd_M_sweep_187 : decode prog_7_method_27_code 187 = .ok (.iconst 0, 1) := by decide +kernel
theorem smd_M_sweep_188 : decode prog_7_method_27_code 188 = .ok (.istore_n 2, 1) := by decide +kernel
theorem smd_M_sweep_189 : decode prog_7_method_27_code 189 = .ok (.iconst 1, 1) := by decide +kernel
theorem smd_M_sweep_190 : decode prog_7_method_27_code 190 = .ok (.istore_n 3, 1) := by decide +kernel
theorem smd_M_sweep_191 : decode prog_7_method_27_code 191 = .ok (.iload_n 3, 1) := by decide +kernel
theorem smd_M_sweep_192 : decode prog_7_method_27_code 192 = .ok (.bipush 17, 2) := by decide +kernel
theorem smd_M_sweep_194 : decode prog_7_method_27_code 194 = .ok (.if_icmp .ge 37, 3) := by decide +kernel
theorem smd_M_sweep_197 : decode prog_7_method_27_code 197 = .ok (.aload_n 0, 1) := by decide +kernel
theorem smd_M_sweep_198 : decode prog_7_method_27_code 198 = .ok (.getfield 29, 3) := by decide +kernel
theorem smd_M_sweep_201 : decode prog_7_method_27_code 201 = .ok (.iload_n 3, 1) := by decide +kernel
theorem smd_M_sweep_202 : decode prog_7_method_27_code 202 = .ok (.iaload, 1) := by decide +kernel
theorem smd_M_sweep_203 : decode prog_7_method_27_code 203 = .ok (.ifCond .lt 22, 3) := by decide +kernel
theorem smd_M_sweep_206 : decode prog_7_method_27_code 206 = .ok (.aload_n 0, 1) := by decide +kernel
theorem smd_M_sweep_207 : decode prog_7_method_27_code 207 = .ok (.getfield 38, 3) := by decide +kernel
theorem smd_M_sweep_210 : decode prog_7_method_27_code 210 = .ok (.iload_n 3, 1) := by decide +kernel
theorem smd_M_sweep_211 : decode prog_7_method_27_code 211 = .ok (.baload, 1) := by decide +kernel
theorem smd_M_sweep_212 : decode prog_7_method_27_code 212 = .ok (.ifCond .ne 13, 3) := by decide +kernel
theorem smd_M_sweep_215 : decode prog_7_method_27_code 215 = .ok (.aload_n 0, 1) := by decide +kernel
theorem smd_M_sweep_216 : decode prog_7_method_27_code 216 = .ok (.getfield 29, 3) := by decide +kernel
theorem smd_M_sweep_219 : decode prog_7_method_27_code 219 = .ok (.iload_n 3, 1) := by decide +kernel
theorem smd_M_sweep_220 : decode prog_7_method_27_code 220 = .ok (.iconst (-1), 1) := by decide +kernel
theorem smd_M_sweep_221 : decode prog_7_method_27_code 221 = .ok (.iastore, 1) := by decide +kernel
theorem smd_M_sweep_222 : decode prog_7_method_27_code 222 = .ok (.iinc 2 1, 3) := by decide +kernel
theorem smd_M_sweep_225 : decode prog_7_method_27_code 225 = .ok (.iinc 3 1, 3) := by decide +kernel
theorem smd_M_sweep_228 : decode prog_7_method_27_code 228 = .ok (.goto (-37), 3) := by decide +kernel
theorem smd_M_sweep_231 : decode prog_7_method_27_code 231 = .ok (.iload_n 2, 1) := by decide +kernel
theorem smd_M_sweep_232 : decode prog_7_method_27_code 232 = .ok (.ireturn, 1) := by decide +kernel
theorem smd_M_collect_0 : decode prog_7_method_28_code 0 = .ok (.aload_n 0, 1) := by decide +kernel
theorem smd_M_collect_1 : decode prog_7_method_28_code 1 = .ok (.invokevirtual 120, 3) := by decide +kernel
theorem smd_M_collect_4 : decode prog_7_method_28_code 4 = .ok (.ireturn, 1) := by decide +kernel
theorem smd_M_free_0 : decode prog_7_method_29_code 0 = .ok (.iconst 1, 1) := by decide +kernel
theorem smd_M_free_1 : decode prog_7_method_29_code 1 = .ok (.istore_n 1, 1) := by decide +kernel
theorem smd_M_free_2 : decode prog_7_method_29_code 2 = .ok (.iload_n 1, 1) := by decide +kernel
theorem smd_M_free_3 : decode prog_7_method_29_code 3 = .ok (.bipush 17, 2) := by decide +kernel
theorem smd_M_free_5 : decode prog_7_method_29_code 5 = .ok (.if_icmp .ge 18, 3) := by decide +kernel
theorem smd_M_free_8 : decode prog_7_method_29_code 8 = .ok (.aload_n 0, 1) := by decide +kernel
theorem smd_M_free_9 : decode prog_7_method_29_code 9 = .ok (.getfield 29, 3) := by decide +kernel
theorem smd_M_free_12 : decode prog_7_method_29_code 12 = .ok (.iload_n 1, 1) := by decide +kernel
theorem smd_M_free_13 : decode prog_7_method_29_code 13 = .ok (.iaload, 1) := by decide +kernel
theorem smd_M_free_14 : decode prog_7_method_29_code 14 = .ok (.ifCond .lt 9, 3) := by decide +kernel
theorem smd_M_free_17 : decode prog_7_method_29_code 17 = .ok (.iinc 1 1, 3) := by decide +kernel
theorem smd_M_free_20 : decode prog_7_method_29_code 20 = .ok (.goto (-18), 3) := by decide +kernel
theorem smd_M_free_23 : decode prog_7_method_29_code 23 = .ok (.iload_n 1, 1) := by decide +kernel
theorem smd_M_free_24 : decode prog_7_method_29_code 24 = .ok (.ireturn, 1) := by decide +kernel
theorem smd_M_make_0 : decode prog_7_method_30_code 0 = .ok (.aload_n 0, 1) := by decide +kernel
theorem smd_M_make_1 : decode prog_7_method_30_code 1 = .ok (.invokevirtual 123, 3) := by decide +kernel
theorem smd_M_make_4 : decode prog_7_method_30_code 4 = .ok (.bipush 16, 2) := by decide +kernel
theorem smd_M_make_6 : decode prog_7_method_30_code 6 = .ok (.if_icmp .le 8, 3) := by decide +kernel
theorem smd_M_make_9 : decode prog_7_method_30_code 9 = .ok (.aload_n 0, 1) := by decide +kernel
theorem smd_M_make_10 : decode prog_7_method_30_code 10 = .ok (.invokevirtual 120, 3) := by decide +kernel
theorem smd_M_make_13 : decode prog_7_method_30_code 13 = .ok (.pop, 1) := by decide +kernel
theorem smd_M_make_14 : decode prog_7_method_30_code 14 = .ok (.aload_n 0, 1) := by decide +kernel
theorem smd_M_make_15 : decode prog_7_method_30_code 15 = .ok (.invokevirtual 123, 3) := by decide +kernel
theorem smd_M_make_18 : decode prog_7_method_30_code 18 = .ok (.istore_n 2, 1) := by decide +kernel
theorem smd_M_make_19 : decode prog_7_method_30_code 19 = .ok (.iload_n 2, 1) := by decide +kernel
theorem smd_M_make_20 : decode prog_7_method_30_code 20 = .ok (.bipush 16, 2) := by decide +kernel
theorem smd_M_make_22 : decode prog_7_method_30_code 22 = .ok (.if_icmp .le 5, 3) := by decide +kernel
theorem smd_M_make_25 : decode prog_7_method_30_code 25 = .ok (.iconst 0, 1) := by decide +kernel
theorem smd_M_make_26 : decode prog_7_method_30_code 26 = .ok (.ireturn, 1) := by decide +kernel
theorem smd_M_make_27 : decode prog_7_method_30_code 27 = .ok (.aload_n 0, 1) := by decide +kernel
theorem smd_M_make_28 : decode prog_7_method_30_code 28 = .ok (.getfield 29, 3) := by decide +kernel
theorem smd_M_make_31 : decode prog_7_method_30_code 31 = .ok (.iload_n 2, 1) := by decide +kernel
theorem smd_M_make_32 : decode prog_7_method_30_code 32 = .ok (.iload_n 1, 1) := by decide +kernel
theorem smd_M_make_33 : decode prog_7_method_30_code 33 = .ok (.iastore, 1) := by decide +kernel
theorem smd_M_make_34 : decode prog_7_method_30_code 34 = .ok (.iconst 0, 1) := by decide +kernel
theorem smd_M_make_35 : decode prog_7_method_30_code 35 = .ok (.istore_n 3, 1) := by decide +kernel
theorem smd_M_make_36 : decode prog_7_method_30_code 36 = .ok (.iload_n 3, 1) := by decide +kernel
theorem smd_M_make_37 : decode prog_7_method_30_code 37 = .ok (.iconst 4, 1) := by decide +kernel
theorem smd_M_make_38 : decode prog_7_method_30_code 38 = .ok (.if_icmp .ge 20, 3) := by decide +kernel
theorem smd_M_make_41 : decode prog_7_method_30_code 41 = .ok (.aload_n 0, 1) := by decide +kernel
theorem smd_M_make_42 : decode prog_7_method_30_code 42 = .ok (.getfield 32, 3) := by decide +kernel
theorem smd_M_make_45 : decode prog_7_method_30_code 45 = .ok (.iconst 4, 1) := by decide +kernel
theorem smd_M_make_46 : decode prog_7_method_30_code 46 = .ok (.iload_n 2, 1) := by decide +kernel
theorem smd_M_make_47 : decode prog_7_method_30_code 47 = .ok (.imul, 1) := by decide +kernel
theorem smd_M_make_48 : decode prog_7_method_30_code 48 = .ok (.iload_n 3, 1) := by decide +kernel
theorem smd_M_make_49 : decode prog_7_method_30_code 49 = .ok (.iadd, 1) := by decide +kernel
theorem smd_M_make_50 : decode prog_7_method_30_code 50 = .ok (.iconst 0, 1) := by decide +kernel
theorem smd_M_make_51 : decode prog_7_method_30_code 51 = .ok (.iastore, 1) := by decide +kernel
theorem smd_M_make_52 : decode prog_7_method_30_code 52 = .ok (.iinc 3 1, 3) := by decide +kernel
theorem smd_M_make_55 : decode prog_7_method_30_code 55 = .ok (.goto (-19), 3) := by decide +kernel
theorem smd_M_make_58 : decode prog_7_method_30_code 58 = .ok (.iload_n 2, 1) := by decide +kernel
theorem smd_M_make_59 : decode prog_7_method_30_code 59 = .ok (.ireturn, 1) := by decide +kernel
theorem smd_M_typeOf_0 : decode prog_7_method_31_code 0 = .ok (.aload_n 0, 1) := by decide +kernel
theorem smd_M_typeOf_1 : decode prog_7_method_31_code 1 = .ok (.iload_n 1, 1) := by decide +kernel
theorem smd_M_typeOf_2 : decode prog_7_method_31_code 2 = .ok (.invokevirtual 110, 3) := by decide +kernel
theorem smd_M_typeOf_5 : decode prog_7_method_31_code 5 = .ok (.ifCond .eq 12, 3) := by decide +kernel
theorem smd_M_typeOf_8 : decode prog_7_method_31_code 8 = .ok (.aload_n 0, 1) := by decide +kernel
theorem smd_M_typeOf_9 : decode prog_7_method_31_code 9 = .ok (.getfield 29, 3) := by decide +kernel
theorem smd_M_typeOf_12 : decode prog_7_method_31_code 12 = .ok (.iload_n 1, 1) := by decide +kernel
theorem smd_M_typeOf_13 : decode prog_7_method_31_code 13 = .ok (.iaload, 1) := by decide +kernel
theorem smd_M_typeOf_14 : decode prog_7_method_31_code 14 = .ok (.goto 4, 3) := by decide +kernel
theorem smd_M_typeOf_17 : decode prog_7_method_31_code 17 = .ok (.iconst (-1), 1) := by decide +kernel
theorem smd_M_typeOf_18 : decode prog_7_method_31_code 18 = .ok (.ireturn, 1) := by decide +kernel
theorem smd_M_field_0 : decode prog_7_method_32_code 0 = .ok (.aload_n 0, 1) := by decide +kernel
theorem smd_M_field_1 : decode prog_7_method_32_code 1 = .ok (.iload_n 1, 1) := by decide +kernel
theorem smd_M_field_2 : decode prog_7_method_32_code 2 = .ok (.invokevirtual 110, 3) := by decide +kernel
theorem smd_M_field_5 : decode prog_7_method_32_code 5 = .ok (.ifCond .eq 35, 3) := by decide +kernel
theorem smd_M_field_8 : decode prog_7_method_32_code 8 = .ok (.iload_n 2, 1) := by decide +kernel
theorem smd_M_field_9 : decode prog_7_method_32_code 9 = .ok (.ifCond .lt 31, 3) := by decide +kernel
theorem smd_M_field_12 : decode prog_7_method_32_code 12 = .ok (.iload_n 2, 1) := by decide +kernel
theorem smd_M_field_13 : decode prog_7_method_32_code 13 = .ok (.aload_n 0, 1) := by decide +kernel
theorem smd_M_field_14 : decode prog_7_method_32_code 14 = .ok (.getfield 16, 3) := by decide +kernel
theorem smd_M_field_17 : decode prog_7_method_32_code 17 = .ok (.aload_n 0, 1) := by decide +kernel
theorem smd_M_field_18 : decode prog_7_method_32_code 18 = .ok (.getfield 29, 3) := by decide +kernel
theorem smd_M_field_21 : decode prog_7_method_32_code 21 = .ok (.iload_n 1, 1) := by decide +kernel
theorem smd_M_field_22 : decode prog_7_method_32_code 22 = .ok (.iaload, 1) := by decide +kernel
theorem smd_M_field_23 : decode prog_7_method_32_code 23 = .ok (.iaload, 1) := by decide +kernel
theorem smd_M_field_24 : decode prog_7_method_32_code 24 = .ok (.if_icmp .ge 16, 3) := by decide +kernel
theorem smd_M_field_27 : decode prog_7_method_32_code 27 = .ok (.aload_n 0, 1) := by decide +kernel
theorem smd_M_field_28 : decode prog_7_method_32_code 28 = .ok (.getfield 32, 3) := by decide +kernel
theorem smd_M_field_31 : decode prog_7_method_32_code 31 = .ok (.iconst 4, 1) := by decide +kernel
theorem smd_M_field_32 : decode prog_7_method_32_code 32 = .ok (.iload_n 1, 1) := by decide +kernel
theorem smd_M_field_33 : decode prog_7_method_32_code 33 = .ok (.imul, 1) := by decide +kernel
theorem smd_M_field_34 : decode prog_7_method_32_code 34 = .ok (.iload_n 2, 1) := by decide +kernel
theorem smd_M_field_35 : decode prog_7_method_32_code 35 = .ok (.iadd, 1) := by decide +kernel
theorem smd_M_field_36 : decode prog_7_method_32_code 36 = .ok (.iaload, 1) := by decide +kernel
theorem smd_M_field_37 : decode prog_7_method_32_code 37 = .ok (.goto 4, 3) := by decide +kernel
theorem smd_M_field_40 : decode prog_7_method_32_code 40 = .ok (.iconst 0, 1) := by decide +kernel
theorem smd_M_field_41 : decode prog_7_method_32_code 41 = .ok (.ireturn, 1) := by decide +kernel
theorem smd_M_heap_0 : decode prog_7_method_33_code 0 = .ok (.iconst 0, 1) := by decide +kernel
theorem smd_M_heap_1 : decode prog_7_method_33_code 1 = .ok (.istore_n 1, 1) := by decide +kernel
theorem smd_M_heap_2 : decode prog_7_method_33_code 2 = .ok (.iconst 1, 1) := by decide +kernel
theorem smd_M_heap_3 : decode prog_7_method_33_code 3 = .ok (.istore_n 2, 1) := by decide +kernel
theorem smd_M_heap_4 : decode prog_7_method_33_code 4 = .ok (.iload_n 2, 1) := by decide +kernel
theorem smd_M_heap_5 : decode prog_7_method_33_code 5 = .ok (.bipush 17, 2) := by decide +kernel
theorem smd_M_heap_7 : decode prog_7_method_33_code 7 = .ok (.if_icmp .ge 26, 3) := by decide +kernel
theorem smd_M_heap_10 : decode prog_7_method_33_code 10 = .ok (.iload_n 1, 1) := by decide +kernel
theorem smd_M_heap_11 : decode prog_7_method_33_code 11 = .ok (.aload_n 0, 1) := by decide +kernel
theorem smd_M_heap_12 : decode prog_7_method_33_code 12 = .ok (.getfield 29, 3) := by decide +kernel
theorem smd_M_heap_15 : decode prog_7_method_33_code 15 = .ok (.iload_n 2, 1) := by decide +kernel
theorem smd_M_heap_16 : decode prog_7_method_33_code 16 = .ok (.iaload, 1) := by decide +kernel
theorem smd_M_heap_17 : decode prog_7_method_33_code 17 = .ok (.ifCond .lt 7, 3) := by decide +kernel
theorem smd_M_heap_20 : decode prog_7_method_33_code 20 = .ok (.iconst 1, 1) := by decide +kernel
theorem smd_M_heap_21 : decode prog_7_method_33_code 21 = .ok (.goto 4, 3) := by decide +kernel
theorem smd_M_heap_24 : decode prog_7_method_33_code 24 = .ok (.iconst 0, 1) := by decide +kernel
theorem smd_M_heap_25 : decode prog_7_method_33_code 25 = .ok (.iadd, 1) := by decide +kernel
theorem smd_M_heap_26 : decode prog_7_method_33_code 26 = .ok (.istore_n 1, 1) := by decide +kernel
theorem smd_M_heap_27 : decode prog_7_method_33_code 27 = .ok (.iinc 2 1, 3) := by decide +kernel
theorem smd_M_heap_30 : decode prog_7_method_33_code 30 = .ok (.goto (-26), 3) := by decide +kernel
theorem smd_M_heap_33 : decode prog_7_method_33_code 33 = .ok (.iload_n 1, 1) := by decide +kernel
theorem smd_M_heap_34 : decode prog_7_method_33_code 34 = .ok (.ireturn, 1) := by decide +kernel
theorem smd_M_isMadeOver_0 : decode prog_7_method_34_code 0 = .ok (.aload_n 0, 1) := by decide +kernel
theorem smd_M_isMadeOver_1 : decode prog_7_method_34_code 1 = .ok (.getfield 29, 3) := by decide +kernel
theorem smd_M_isMadeOver_4 : decode prog_7_method_34_code 4 = .ok (.iload_n 1, 1) := by decide +kernel
theorem smd_M_isMadeOver_5 : decode prog_7_method_34_code 5 = .ok (.iaload, 1) := by decide +kernel
theorem smd_M_isMadeOver_6 : decode prog_7_method_34_code 6 = .ok (.istore_n 2, 1) := by decide +kernel
theorem smd_M_isMadeOver_7 : decode prog_7_method_34_code 7 = .ok (.iconst 0, 1) := by decide +kernel
theorem smd_M_isMadeOver_8 : decode prog_7_method_34_code 8 = .ok (.istore_n 3, 1) := by decide +kernel
theorem smd_M_isMadeOver_9 : decode prog_7_method_34_code 9 = .ok (.iload_n 3, 1) := by decide +kernel
theorem smd_M_isMadeOver_10 : decode prog_7_method_34_code 10 = .ok (.aload_n 0, 1) := by decide +kernel
theorem smd_M_isMadeOver_11 : decode prog_7_method_34_code 11 = .ok (.getfield 16, 3) := by decide +kernel
theorem smd_M_isMadeOver_14 : decode prog_7_method_34_code 14 = .ok (.iconst 3, 1) := by decide +kernel
theorem smd_M_isMadeOver_15 : decode prog_7_method_34_code 15 = .ok (.iload_n 2, 1) := by decide +kernel
theorem smd_M_isMadeOver_16 : decode prog_7_method_34_code 16 = .ok (.iadd, 1) := by decide +kernel
theorem smd_M_isMadeOver_17 : decode prog_7_method_34_code 17 = .ok (.iaload, 1) := by decide +kernel
theorem smd_M_isMadeOver_18 : decode prog_7_method_34_code 18 = .ok (.if_icmp .ge 117, 3) := by decide +kernel
theorem smd_M_isMadeOver_21 : decode prog_7_method_34_code 21 = .ok (.bipush 12, 2) := by decide +kernel
theorem smd_M_isMadeOver_23 : decode prog_7_method_34_code 23 = .ok (.iload_n 2, 1) := by decide +kernel
theorem smd_M_isMadeOver_24 : decode prog_7_method_34_code 24 = .ok (.imul, 1) := by decide +kernel
theorem smd_M_isMadeOver_25 : decode prog_7_method_34_code 25 = .ok (.iconst 3, 1) := by decide +kernel
theorem smd_M_isMadeOver_26 : decode prog_7_method_34_code 26 = .ok (.iload_n 3, 1) := by decide +kernel
theorem smd_M_isMadeOver_27 : decode prog_7_method_34_code 27 = .ok (.imul, 1) := by decide +kernel
theorem smd_M_isMadeOver_28 : decode prog_7_method_34_code 28 = .ok (.iadd, 1) := by decide +kernel
theorem smd_M_isMadeOver_29 : decode prog_7_method_34_code 29 = .ok (.istore 4, 2) := by decide +kernel
theorem smd_M_isMadeOver_31 : decode prog_7_method_34_code 31 = .ok (.aload_n 0, 1) := by decide +kernel
theorem smd_M_isMadeOver_32 : decode prog_7_method_34_code 32 = .ok (.getfield 35, 3) := by decide +kernel
theorem smd_M_isMadeOver_35 : decode prog_7_method_34_code 35 = .ok (.iconst 4, 1) := by decide +kernel
theorem smd_M_isMadeOver_36 : decode prog_7_method_34_code 36 = .ok (.iload_n 1, 1) := by decide +kernel
theorem smd_M_isMadeOver_37 : decode prog_7_method_34_code 37 = .ok (.imul, 1) := by decide +kernel
theorem smd_M_isMadeOver_38 : decode prog_7_method_34_code 38 = .ok (.aload_n 0, 1) := by decide +kernel
theorem smd_M_isMadeOver_39 : decode prog_7_method_34_code 39 = .ok (.getfield 19, 3) := by decide +kernel
theorem smd_M_isMadeOver_42 : decode prog_7_method_34_code 42 = .ok (.iload 4, 2) := by decide +kernel
theorem smd_M_isMadeOver_44 : decode prog_7_method_34_code 44 = .ok (.iconst 1, 1) := by decide +kernel
theorem smd_M_isMadeOver_45 : decode prog_7_method_34_code 45 = .ok (.iadd, 1) := by decide +kernel
theorem smd_M_isMadeOver_46 : decode prog_7_method_34_code 46 = .ok (.iaload, 1) := by decide +kernel
theorem smd_M_isMadeOver_47 : decode prog_7_method_34_code 47 = .ok (.iadd, 1) := by decide +kernel
theorem smd_M_isMadeOver_48 : decode prog_7_method_34_code 48 = .ok (.iaload, 1) := by decide +kernel
theorem smd_M_isMadeOver_49 : decode prog_7_method_34_code 49 = .ok (.istore 5, 2) := by decide +kernel
theorem smd_M_isMadeOver_51 : decode prog_7_method_34_code 51 = .ok (.aload_n 0, 1) := by decide +kernel
theorem smd_M_isMadeOver_52 : decode prog_7_method_34_code 52 = .ok (.getfield 19, 3) := by decide +kernel
theorem smd_M_isMadeOver_55 : decode prog_7_method_34_code 55 = .ok (.iload 4, 2) := by decide +kernel
theorem smd_M_isMadeOver_57 : decode prog_7_method_34_code 57 = .ok (.iconst 2, 1) := by decide +kernel
theorem smd_M_isMadeOver_58 : decode prog_7_method_34_code 58 = .ok (.iadd, 1) := by decide +kernel
theorem smd_M_isMadeOver_59 : decode prog_7_method_34_code 59 = .ok (.iaload, 1) := by decide +kernel
theorem smd_M_isMadeOver_60 : decode prog_7_method_34_code 60 = .ok (.istore 6, 2) := by decide +kernel
theorem smd_M_isMadeOver_62 : decode prog_7_method_34_code 62 = .ok (.aload_n 0, 1) := by decide +kernel
theorem smd_M_isMadeOver_63 : decode prog_7_method_34_code 63 = .ok (.getfield 19, 3) := by decide +kernel
theorem smd_M_isMadeOver_66 : decode prog_7_method_34_code 66 = .ok (.iload 4, 2) := by decide +kernel
theorem smd_M_isMadeOver_68 : decode prog_7_method_34_code 68 = .ok (.iaload, 1) := by decide +kernel
theorem smd_M_isMadeOver_69 : decode prog_7_method_34_code 69 = .ok (.iconst 2, 1) := by decide +kernel
theorem smd_M_isMadeOver_70 : decode prog_7_method_34_code 70 = .ok (.if_icmp .ne 10, 3) := by decide +kernel
theorem smd_M_isMadeOver_73 : decode prog_7_method_34_code 73 = .ok (.iload 5, 2) := by decide +kernel
theorem smd_M_isMadeOver_75 : decode prog_7_method_34_code 75 = .ok (.ifCond .ne 5, 3) := by decide +kernel
theorem smd_M_isMadeOver_78 : decode prog_7_method_34_code 78 = .ok (.iconst 0, 1) := by decide +kernel
theorem smd_M_isMadeOver_79 : decode prog_7_method_34_code 79 = .ok (.ireturn, 1) := by decide +kernel
theorem smd_M_isMadeOver_80 : decode prog_7_method_34_code 80 = .ok (.aload_n 0, 1) := by decide +kernel
theorem smd_M_isMadeOver_81 : decode prog_7_method_34_code 81 = .ok (.getfield 32, 3) := by decide +kernel
theorem smd_M_isMadeOver_84 : decode prog_7_method_34_code 84 = .ok (.iconst 4, 1) := by decide +kernel
theorem smd_M_isMadeOver_85 : decode prog_7_method_34_code 85 = .ok (.iload_n 1, 1) := by decide +kernel
theorem smd_M_isMadeOver_86 : decode prog_7_method_34_code 86 = .ok (.imul, 1) := by decide +kernel
theorem smd_M_isMadeOver_87 : decode prog_7_method_34_code 87 = .ok (.iload_n 3, 1) := by decide +kernel
theorem smd_M_isMadeOver_88 : decode prog_7_method_34_code 88 = .ok (.iadd, 1) := by decide +kernel
theorem smd_M_isMadeOver_89 : decode prog_7_method_34_code 89 = .ok (.aload_n 0, 1) := by decide +kernel
theorem smd_M_isMadeOver_90 : decode prog_7_method_34_code 90 = .ok (.getfield 19, 3) := by decide +kernel
theorem smd_M_isMadeOver_93 : decode prog_7_method_34_code 93 = .ok (.iload 4, 2) := by decide +kernel
theorem smd_M_isMadeOver_95 : decode prog_7_method_34_code 95 = .ok (.iaload, 1) := by decide +kernel
theorem smd_M_isMadeOver_96 : decode prog_7_method_34_code 96 = .ok (.ifCond .ne 8, 3) := by decide +kernel
theorem smd_M_isMadeOver_99 : decode prog_7_method_34_code 99 = .ok (.iload 6, 2) := by decide +kernel
theorem smd_M_isMadeOver_101 : decode prog_7_method_34_code 101 = .ok (.goto 27, 3) := by decide +kernel
theorem smd_M_isMadeOver_104 : decode prog_7_method_34_code 104 = .ok (.aload_n 0, 1) := by decide +kernel
theorem smd_M_isMadeOver_105 : decode prog_7_method_34_code 105 = .ok (.getfield 19, 3) := by decide +kernel
theorem smd_M_isMadeOver_108 : decode prog_7_method_34_code 108 = .ok (.iload 4, 2) := by decide +kernel
theorem smd_M_isMadeOver_110 : decode prog_7_method_34_code 110 = .ok (.iaload, 1) := by decide +kernel
theorem smd_M_isMadeOver_111 : decode prog_7_method_34_code 111 = .ok (.iconst 1, 1) := by decide +kernel
theorem smd_M_isMadeOver_112 : decode prog_7_method_34_code 112 = .ok (.if_icmp .ne 11, 3) := by decide +kernel
theorem smd_M_isMadeOver_115 : decode prog_7_method_34_code 115 = .ok (.iload 5, 2) := by decide +kernel
theorem smd_M_isMadeOver_117 : decode prog_7_method_34_code 117 = .ok (.iload 6, 2) := by decide +kernel
theorem smd_M_isMadeOver_119 : decode prog_7_method_34_code 119 = .ok (.iadd, 1) := by decide +kernel
theorem smd_M_isMadeOver_120 : decode prog_7_method_34_code 120 = .ok (.goto 8, 3) := by decide +kernel
theorem smd_M_isMadeOver_123 : decode prog_7_method_34_code 123 = .ok (.iload 6, 2) := by decide +kernel
theorem smd_M_isMadeOver_125 : decode prog_7_method_34_code 125 = .ok (.iload 5, 2) := by decide +kernel
theorem smd_M_isMadeOver_127 : decode prog_7_method_34_code 127 = .ok (.idiv, 1) := by decide +kernel
theorem smd_M_isMadeOver_128 : decode prog_7_method_34_code 128 = .ok (.iastore, 1) := by decide +kernel
theorem smd_M_isMadeOver_129 : decode prog_7_method_34_code 129 = .ok (.iinc 3 1, 3) := by decide +kernel
theorem smd_M_isMadeOver_132 : decode prog_7_method_34_code 132 = .ok (.goto (-123), 3) := by decide +kernel
theorem smd_M_isMadeOver_135 : decode prog_7_method_34_code 135 = .ok (.iconst 1, 1) := by decide +kernel
theorem smd_M_isMadeOver_136 : decode prog_7_method_34_code 136 = .ok (.ireturn, 1) := by decide +kernel
theorem smd_M_areMadeOver_0 : decode prog_7_method_35_code 0 = .ok (.iconst 0, 1) := by decide +kernel
theorem smd_M_areMadeOver_1 : decode prog_7_method_35_code 1 = .ok (.istore_n 2, 1) := by decide +kernel
theorem smd_M_areMadeOver_2 : decode prog_7_method_35_code 2 = .ok (.iload_n 2, 1) := by decide +kernel
theorem smd_M_areMadeOver_3 : decode prog_7_method_35_code 3 = .ok (.bipush 68, 2) := by decide +kernel
theorem smd_M_areMadeOver_5 : decode prog_7_method_35_code 5 = .ok (.if_icmp .ge 21, 3) := by decide +kernel
theorem smd_M_areMadeOver_8 : decode prog_7_method_35_code 8 = .ok (.aload_n 0, 1) := by decide +kernel
theorem smd_M_areMadeOver_9 : decode prog_7_method_35_code 9 = .ok (.getfield 35, 3) := by decide +kernel
theorem smd_M_areMadeOver_12 : decode prog_7_method_35_code 12 = .ok (.iload_n 2, 1) := by decide +kernel
theorem smd_M_areMadeOver_13 : decode prog_7_method_35_code 13 = .ok (.aload_n 0, 1) := by decide +kernel
theorem smd_M_areMadeOver_14 : decode prog_7_method_35_code 14 = .ok (.getfield 32, 3) := by decide +kernel
theorem smd_M_areMadeOver_17 : decode prog_7_method_35_code 17 = .ok (.iload_n 2, 1) := by decide +kernel
theorem smd_M_areMadeOver_18 : decode prog_7_method_35_code 18 = .ok (.iaload, 1) := by decide +kernel
theorem smd_M_areMadeOver_19 : decode prog_7_method_35_code 19 = .ok (.iastore, 1) := by decide +kernel
theorem smd_M_areMadeOver_20 : decode prog_7_method_35_code 20 = .ok (.iinc 2 1, 3) := by decide +kernel
theorem smd_M_areMadeOver_23 : decode prog_7_method_35_code 23 = .ok (.goto (-21), 3) := by decide +kernel
theorem smd_M_areMadeOver_26 : decode prog_7_method_35_code 26 = .ok (.iload_n 1, 1) := by decide +kernel
theorem smd_M_areMadeOver_27 : decode prog_7_method_35_code 27 = .ok (.istore_n 2, 1) := by decide +kernel
theorem smd_M_areMadeOver_28 : decode prog_7_method_35_code 28 = .ok (.iconst 1, 1) := by decide +kernel
theorem smd_M_areMadeOver_29 : decode prog_7_method_35_code 29 = .ok (.istore_n 3, 1) := by decide +kernel
theorem smd_M_areMadeOver_30 : decode prog_7_method_35_code 30 = .ok (.iconst 1, 1) := by decide +kernel
theorem smd_M_areMadeOver_31 : decode prog_7_method_35_code 31 = .ok (.istore 4, 2) := by decide +kernel
theorem smd_M_areMadeOver_33 : decode prog_7_method_35_code 33 = .ok (.iload 4, 2) := by decide +kernel
theorem smd_M_areMadeOver_35 : decode prog_7_method_35_code 35 = .ok (.bipush 17, 2) := by decide +kernel
theorem smd_M_areMadeOver_37 : decode prog_7_method_35_code 37 = .ok (.if_icmp .ge 74, 3) := by decide +kernel
theorem smd_M_areMadeOver_40 : decode prog_7_method_35_code 40 = .ok (.iload_n 3, 1) := by decide +kernel
theorem smd_M_areMadeOver_41 : decode prog_7_method_35_code 41 = .ok (.ifCond .eq 70, 3) := by decide +kernel
theorem smd_M_areMadeOver_44 : decode prog_7_method_35_code 44 = .ok (.aload_n 0, 1) := by decide +kernel
theorem smd_M_areMadeOver_45 : decode prog_7_method_35_code 45 = .ok (.getfield 29, 3) := by decide +kernel
theorem smd_M_areMadeOver_48 : decode prog_7_method_35_code 48 = .ok (.iload 4, 2) := by decide +kernel
theorem smd_M_areMadeOver_50 : decode prog_7_method_35_code 50 = .ok (.iaload, 1) := by decide +kernel
theorem smd_M_areMadeOver_51 : decode prog_7_method_35_code 51 = .ok (.ifCond .lt 54, 3) := by decide +kernel
theorem smd_M_areMadeOver_54 : decode prog_7_method_35_code 54 = .ok (.aload_n 0, 1) := by decide +kernel
theorem smd_M_areMadeOver_55 : decode prog_7_method_35_code 55 = .ok (.getfield 22, 3) := by decide +kernel
theorem smd_M_areMadeOver_58 : decode prog_7_method_35_code 58 = .ok (.aload_n 0, 1) := by decide +kernel
theorem smd_M_areMadeOver_59 : decode prog_7_method_35_code 59 = .ok (.getfield 29, 3) := by decide +kernel
theorem smd_M_areMadeOver_62 : decode prog_7_method_35_code 62 = .ok (.iload 4, 2) := by decide +kernel
theorem smd_M_areMadeOver_64 : decode prog_7_method_35_code 64 = .ok (.iaload, 1) := by decide +kernel
theorem smd_M_areMadeOver_65 : decode prog_7_method_35_code 65 = .ok (.baload, 1) := by decide +kernel
theorem smd_M_areMadeOver_66 : decode prog_7_method_35_code 66 = .ok (.ifCond .eq 39, 3) := by decide +kernel
theorem smd_M_areMadeOver_69 : decode prog_7_method_35_code 69 = .ok (.iload_n 2, 1) := by decide +kernel
theorem smd_M_areMadeOver_70 : decode prog_7_method_35_code 70 = .ok (.aload_n 0, 1) := by decide +kernel
theorem smd_M_areMadeOver_71 : decode prog_7_method_35_code 71 = .ok (.getfield 16, 3) := by decide +kernel
theorem smd_M_areMadeOver_74 : decode prog_7_method_35_code 74 = .ok (.iconst 3, 1) := by decide +kernel
theorem smd_M_areMadeOver_75 : decode prog_7_method_35_code 75 = .ok (.aload_n 0, 1) := by decide +kernel
theorem smd_M_areMadeOver_76 : decode prog_7_method_35_code 76 = .ok (.getfield 29, 3) := by decide +kernel
theorem smd_M_areMadeOver_79 : decode prog_7_method_35_code 79 = .ok (.iload 4, 2) := by decide +kernel
theorem smd_M_areMadeOver_81 : decode prog_7_method_35_code 81 = .ok (.iaload, 1) := by decide +kernel
theorem smd_M_areMadeOver_82 : decode prog_7_method_35_code 82 = .ok (.iadd, 1) := by decide +kernel
theorem smd_M_areMadeOver_83 : decode prog_7_method_35_code 83 = .ok (.iaload, 1) := by decide +kernel
theorem smd_M_areMadeOver_84 : decode prog_7_method_35_code 84 = .ok (.isub, 1) := by decide +kernel
theorem smd_M_areMadeOver_85 : decode prog_7_method_35_code 85 = .ok (.istore_n 2, 1) := by decide +kernel
theorem smd_M_areMadeOver_86 : decode prog_7_method_35_code 86 = .ok (.iload_n 2, 1) := by decide +kernel
theorem smd_M_areMadeOver_87 : decode prog_7_method_35_code 87 = .ok (.ifCond .lt 16, 3) := by decide +kernel
theorem smd_M_areMadeOver_90 : decode prog_7_method_35_code 90 = .ok (.aload_n 0, 1) := by decide +kernel
theorem smd_M_areMadeOver_91 : decode prog_7_method_35_code 91 = .ok (.iload 4, 2) := by decide +kernel
theorem smd_M_areMadeOver_93 : decode prog_7_method_35_code 93 = .ok (.invokevirtual 126, 3) := by decide +kernel
theorem smd_M_areMadeOver_96 : decode prog_7_method_35_code 96 = .ok (.ifCond .eq 7, 3) := by decide +kernel
theorem smd_M_areMadeOver_99 : decode prog_7_method_35_code 99 = .ok (.iconst 1, 1) := by decide +kernel
theorem smd_M_areMadeOver_100 : decode prog_7_method_35_code 100 = .ok (.goto 4, 3) := by decide +kernel
theorem smd_M_areMadeOver_103 : decode prog_7_method_35_code 103 = .ok (.iconst 0, 1) := by decide +kernel
theorem smd_M_areMadeOver_104 : decode prog_7_method_35_code 104 = .ok (.istore_n 3, 1) := by decide +kernel
theorem smd_M_areMadeOver_105 : decode prog_7_method_35_code 105 = .ok (.iinc 4 1, 3) := by decide +kernel
theorem smd_M_areMadeOver_108 : decode prog_7_method_35_code 108 = .ok (.goto (-75), 3) := by decide +kernel
theorem smd_M_areMadeOver_111 : decode prog_7_method_35_code 111 = .ok (.iconst 0, 1) := by decide +kernel
theorem smd_M_areMadeOver_112 : decode prog_7_method_35_code 112 = .ok (.istore 4, 2) := by decide +kernel
theorem smd_M_areMadeOver_114 : decode prog_7_method_35_code 114 = .ok (.iload 4, 2) := by decide +kernel
theorem smd_M_areMadeOver_116 : decode prog_7_method_35_code 116 = .ok (.bipush 68, 2) := by decide +kernel
theorem smd_M_areMadeOver_118 : decode prog_7_method_35_code 118 = .ok (.if_icmp .ge 27, 3) := by decide +kernel
theorem smd_M_areMadeOver_121 : decode prog_7_method_35_code 121 = .ok (.iload_n 3, 1) := by decide +kernel
theorem smd_M_areMadeOver_122 : decode prog_7_method_35_code 122 = .ok (.ifCond .ne 23, 3) := by decide +kernel
theorem smd_M_areMadeOver_125 : decode prog_7_method_35_code 125 = .ok (.aload_n 0, 1) := by decide +kernel
theorem smd_M_areMadeOver_126 : decode prog_7_method_35_code 126 = .ok (.getfield 32, 3) := by decide +kernel
theorem smd_M_areMadeOver_129 : decode prog_7_method_35_code 129 = .ok (.iload 4, 2) := by decide +kernel
theorem smd_M_areMadeOver_131 : decode prog_7_method_35_code 131 = .ok (.aload_n 0, 1) := by decide +kernel
theorem smd_M_areMadeOver_132 : decode prog_7_method_35_code 132 = .ok (.getfield 35, 3) := by decide +kernel
theorem smd_M_areMadeOver_135 : decode prog_7_method_35_code 135 = .ok (.iload 4, 2) := by decide +kernel
theorem smd_M_areMadeOver_137 : decode prog_7_method_35_code 137 = .ok (.iaload, 1) := by decide +kernel
theorem smd_M_areMadeOver_138 : decode prog_7_method_35_code 138 = .ok (.iastore, 1) := by decide +kernel
theorem smd_M_areMadeOver_139 : decode prog_7_method_35_code 139 = .ok (.iinc 4 1, 3) := by decide +kernel
theorem smd_M_areMadeOver_142 : decode prog_7_method_35_code 142 = .ok (.goto (-28), 3) := by decide +kernel
theorem smd_M_areMadeOver_145 : decode prog_7_method_35_code 145 = .ok (.iload_n 3, 1) := by decide +kernel
theorem smd_M_areMadeOver_146 : decode prog_7_method_35_code 146 = .ok (.ireturn, 1) := by decide +kernel
end
section
theorem smd_M_moveFrames_0 : decode prog_7_method_36_code 0 = .ok (.iconst 1, 1) := by decide +kernel
theorem smd_M_moveFrames_1 : decode prog_7_method_36_code 1 = .ok (.istore_n 1, 1) := by decide +kernel
theorem smd_M_moveFrames_2 : decode prog_7_method_36_code 2 = .ok (.iload_n 1, 1) := by decide +kernel
theorem smd_M_moveFrames_3 : decode prog_7_method_36_code 3 = .ok (.aload_n 0, 1) := by decide +kernel
theorem smd_M_moveFrames_4 : decode prog_7_method_36_code 4 = .ok (.getfield 103, 3) := by decide +kernel
theorem smd_M_moveFrames_7 : decode prog_7_method_36_code 7 = .ok (.if_icmp .gt 87, 3) := by decide +kernel
theorem smd_M_moveFrames_10 : decode prog_7_method_36_code 10 = .ok (.iconst 0, 1) := by decide +kernel
theorem smd_M_moveFrames_11 : decode prog_7_method_36_code 11 = .ok (.istore_n 2, 1) := by decide +kernel
theorem smd_M_moveFrames_12 : decode prog_7_method_36_code 12 = .ok (.iload_n 2, 1) := by decide +kernel
theorem smd_M_moveFrames_13 : decode prog_7_method_36_code 13 = .ok (.aload_n 0, 1) := by decide +kernel
theorem smd_M_moveFrames_14 : decode prog_7_method_36_code 14 = .ok (.getfield 47, 3) := by decide +kernel
theorem smd_M_moveFrames_17 : decode prog_7_method_36_code 17 = .ok (.iload_n 1, 1) := by decide +kernel
theorem smd_M_moveFrames_18 : decode prog_7_method_36_code 18 = .ok (.iaload, 1) := by decide +kernel
theorem smd_M_moveFrames_19 : decode prog_7_method_36_code 19 = .ok (.if_icmp .ge 69, 3) := by decide +kernel
theorem smd_M_moveFrames_22 : decode prog_7_method_36_code 22 = .ok (.iload_n 1, 1) := by decide +kernel
theorem smd_M_moveFrames_23 : decode prog_7_method_36_code 23 = .ok (.iload_n 2, 1) := by decide +kernel
theorem smd_M_moveFrames_24 : decode prog_7_method_36_code 24 = .ok (.invokestatic 96, 3) := by decide +kernel
theorem smd_M_moveFrames_27 : decode prog_7_method_36_code 27 = .ok (.istore_n 3, 1) := by decide +kernel
theorem smd_M_moveFrames_28 : decode prog_7_method_36_code 28 = .ok (.aload_n 0, 1) := by decide +kernel
theorem smd_M_moveFrames_29 : decode prog_7_method_36_code 29 = .ok (.getfield 50, 3) := by decide +kernel
theorem smd_M_moveFrames_32 : decode prog_7_method_36_code 32 = .ok (.iload_n 3, 1) := by decide +kernel
theorem smd_M_moveFrames_33 : decode prog_7_method_36_code 33 = .ok (.iaload, 1) := by decide +kernel
theorem smd_M_moveFrames_34 : decode prog_7_method_36_code 34 = .ok (.istore 4, 2) := by decide +kernel
theorem smd_M_moveFrames_36 : decode prog_7_method_36_code 36 = .ok (.aload_n 0, 1) := by decide +kernel
theorem smd_M_moveFrames_37 : decode prog_7_method_36_code 37 = .ok (.iload 4, 2) := by decide +kernel
theorem smd_M_moveFrames_39 : decode prog_7_method_36_code 39 = .ok (.invokevirtual 93, 3) := by decide +kernel
theorem smd_M_moveFrames_42 : decode prog_7_method_36_code 42 = .ok (.ifCond .eq 40, 3) := by decide +kernel
theorem smd_M_moveFrames_45 : decode prog_7_method_36_code 45 = .ok (.aload_n 0, 1) := by decide +kernel
theorem smd_M_moveFrames_46 : decode prog_7_method_36_code 46 = .ok (.getfield 50, 3) := by decide +kernel
theorem smd_M_moveFrames_49 : decode prog_7_method_36_code 49 = .ok (.iload_n 3, 1) := by decide +kernel
theorem smd_M_moveFrames_50 : decode prog_7_method_36_code 50 = .ok (.iconst 1, 1) := by decide +kernel
theorem smd_M_moveFrames_51 : decode prog_7_method_36_code 51 = .ok (.iadd, 1) := by decide +kernel
theorem smd_M_moveFrames_52 : decode prog_7_method_36_code 52 = .ok (.aload_n 0, 1) := by decide +kernel
theorem smd_M_moveFrames_53 : decode prog_7_method_36_code 53 = .ok (.iload 4, 2) := by decide +kernel
theorem smd_M_moveFrames_55 : decode prog_7_method_36_code 55 = .ok (.aload_n 0, 1) := by decide +kernel
theorem smd_M_moveFrames_56 : decode prog_7_method_36_code 56 = .ok (.getfield 7, 3) := by decide +kernel
theorem smd_M_moveFrames_59 : decode prog_7_method_36_code 59 = .ok (.bipush 48, 2) := by decide +kernel
theorem smd_M_moveFrames_61 : decode prog_7_method_36_code 61 = .ok (.iload 4, 2) := by decide +kernel
theorem smd_M_moveFrames_63 : decode prog_7_method_36_code 63 = .ok (.imul, 1) := by decide +kernel
theorem smd_M_moveFrames_64 : decode prog_7_method_36_code 64 = .ok (.iconst 4, 1) := by decide +kernel
theorem smd_M_moveFrames_65 : decode prog_7_method_36_code 65 = .ok (.aload_n 0, 1) := by decide +kernel
theorem smd_M_moveFrames_66 : decode prog_7_method_36_code 66 = .ok (.getfield 50, 3) := by decide +kernel
theorem smd_M_moveFrames_69 : decode prog_7_method_36_code 69 = .ok (.iload_n 3, 1) := by decide +kernel
theorem smd_M_moveFrames_70 : decode prog_7_method_36_code 70 = .ok (.iconst 1, 1) := by decide +kernel
theorem smd_M_moveFrames_71 : decode prog_7_method_36_code 71 = .ok (.iadd, 1) := by decide +kernel
theorem smd_M_moveFrames_72 : decode prog_7_method_36_code 72 = .ok (.iaload, 1) := by decide +kernel
theorem smd_M_moveFrames_73 : decode prog_7_method_36_code 73 = .ok (.imul, 1) := by decide +kernel
theorem smd_M_moveFrames_74 : decode prog_7_method_36_code 74 = .ok (.iadd, 1) := by decide +kernel
theorem smd_M_moveFrames_75 : decode prog_7_method_36_code 75 = .ok (.iconst 1, 1) := by decide +kernel
theorem smd_M_moveFrames_76 : decode prog_7_method_36_code 76 = .ok (.iadd, 1) := by decide +kernel
theorem smd_M_moveFrames_77 : decode prog_7_method_36_code 77 = .ok (.iaload, 1) := by decide +kernel
theorem smd_M_moveFrames_78 : decode prog_7_method_36_code 78 = .ok (.invokevirtual 100, 3) := by decide +kernel
theorem smd_M_moveFrames_81 : decode prog_7_method_36_code 81 = .ok (.iastore, 1) := by decide +kernel
theorem smd_M_moveFrames_82 : decode prog_7_method_36_code 82 = .ok (.iinc 2 1, 3) := by decide +kernel
theorem smd_M_moveFrames_85 : decode prog_7_method_36_code 85 = .ok (.goto (-73), 3) := by decide +kernel
theorem smd_M_moveFrames_88 : decode prog_7_method_36_code 88 = .ok (.iinc 1 1, 3) := by decide +kernel
theorem smd_M_moveFrames_91 : decode prog_7_method_36_code 91 = .ok (.goto (-89), 3) := by decide +kernel
theorem smd_M_moveFrames_94 : decode prog_7_method_36_code 94 = .ok (.return_, 1) := by decide +kernel
theorem smd_M_attempt_0 : decode prog_7_method_37_code 0 = .ok (.iload_n 1, 1) := by decide +kernel
theorem smd_M_attempt_1 : decode prog_7_method_37_code 1 = .ok (.ifCond .ge 5, 3) := by decide +kernel
theorem smd_M_attempt_4 : decode prog_7_method_37_code 4 = .ok (.iconst (-1), 1) := by decide +kernel
theorem smd_M_attempt_5 : decode prog_7_method_37_code 5 = .ok (.ireturn, 1) := by decide +kernel
theorem smd_M_attempt_6 : decode prog_7_method_37_code 6 = .ok (.aload_n 0, 1) := by decide +kernel
theorem smd_M_attempt_7 : decode prog_7_method_37_code 7 = .ok (.getfield 63, 3) := by decide +kernel
theorem smd_M_attempt_10 : decode prog_7_method_37_code 10 = .ok (.ifCond .ne 5, 3) := by decide +kernel
theorem smd_M_attempt_13 : decode prog_7_method_37_code 13 = .ok (.iconst 3, 1) := by decide +kernel
theorem smd_M_attempt_14 : decode prog_7_method_37_code 14 = .ok (.ireturn, 1) := by decide +kernel
theorem smd_M_attempt_15 : decode prog_7_method_37_code 15 = .ok (.aload_n 0, 1) := by decide +kernel
theorem smd_M_attempt_16 : decode prog_7_method_37_code 16 = .ok (.iconst 0, 1) := by decide +kernel
theorem smd_M_attempt_17 : decode prog_7_method_37_code 17 = .ok (.invokevirtual 129, 3) := by decide +kernel
theorem smd_M_attempt_20 : decode prog_7_method_37_code 20 = .ok (.ifCond .le 5, 3) := by decide +kernel
theorem smd_M_attempt_23 : decode prog_7_method_37_code 23 = .ok (.iconst 0, 1) := by decide +kernel
theorem smd_M_attempt_24 : decode prog_7_method_37_code 24 = .ok (.ireturn, 1) := by decide +kernel
theorem smd_M_attempt_25 : decode prog_7_method_37_code 25 = .ok (.aload_n 0, 1) := by decide +kernel
theorem smd_M_attempt_26 : decode prog_7_method_37_code 26 = .ok (.invokevirtual 120, 3) := by decide +kernel
theorem smd_M_attempt_29 : decode prog_7_method_37_code 29 = .ok (.pop, 1) := by decide +kernel
theorem smd_M_attempt_30 : decode prog_7_method_37_code 30 = .ok (.aload_n 0, 1) := by decide +kernel
theorem smd_M_attempt_31 : decode prog_7_method_37_code 31 = .ok (.iload_n 1, 1) := by decide +kernel
theorem smd_M_attempt_32 : decode prog_7_method_37_code 32 = .ok (.invokevirtual 133, 3) := by decide +kernel
theorem smd_M_attempt_35 : decode prog_7_method_37_code 35 = .ok (.ifCond .ne 5, 3) := by decide +kernel
theorem smd_M_attempt_38 : decode prog_7_method_37_code 38 = .ok (.iconst 2, 1) := by decide +kernel
theorem smd_M_attempt_39 : decode prog_7_method_37_code 39 = .ok (.ireturn, 1) := by decide +kernel
theorem smd_M_attempt_40 : decode prog_7_method_37_code 40 = .ok (.aload_n 0, 1) := by decide +kernel
theorem smd_M_attempt_41 : decode prog_7_method_37_code 41 = .ok (.invokevirtual 136, 3) := by decide +kernel
theorem smd_M_attempt_44 : decode prog_7_method_37_code 44 = .ok (.iconst 0, 1) := by decide +kernel
theorem smd_M_attempt_45 : decode prog_7_method_37_code 45 = .ok (.istore_n 2, 1) := by decide +kernel
theorem smd_M_attempt_46 : decode prog_7_method_37_code 46 = .ok (.iload_n 2, 1) := by decide +kernel
theorem smd_M_attempt_47 : decode prog_7_method_37_code 47 = .ok (.sipush 288, 3) := by decide +kernel
theorem smd_M_attempt_50 : decode prog_7_method_37_code 50 = .ok (.if_icmp .ge 25, 3) := by decide +kernel
theorem smd_M_attempt_53 : decode prog_7_method_37_code 53 = .ok (.aload_n 0, 1) := by decide +kernel
theorem smd_M_attempt_54 : decode prog_7_method_37_code 54 = .ok (.getfield 7, 3) := by decide +kernel
theorem smd_M_attempt_57 : decode prog_7_method_37_code 57 = .ok (.iload_n 2, 1) := by decide +kernel
theorem smd_M_attempt_58 : decode prog_7_method_37_code 58 = .ok (.aload_n 0, 1) := by decide +kernel
theorem smd_M_attempt_59 : decode prog_7_method_37_code 59 = .ok (.getfield 7, 3) := by decide +kernel
theorem smd_M_attempt_62 : decode prog_7_method_37_code 62 = .ok (.sipush 288, 3) := by decide +kernel
theorem smd_M_attempt_65 : decode prog_7_method_37_code 65 = .ok (.iload_n 2, 1) := by decide +kernel
theorem smd_M_attempt_66 : decode prog_7_method_37_code 66 = .ok (.iadd, 1) := by decide +kernel
theorem smd_M_attempt_67 : decode prog_7_method_37_code 67 = .ok (.iaload, 1) := by decide +kernel
theorem smd_M_attempt_68 : decode prog_7_method_37_code 68 = .ok (.iastore, 1) := by decide +kernel
theorem smd_M_attempt_69 : decode prog_7_method_37_code 69 = .ok (.iinc 2 1, 3) := by decide +kernel
theorem smd_M_attempt_72 : decode prog_7_method_37_code 72 = .ok (.goto (-26), 3) := by decide +kernel
theorem smd_M_attempt_75 : decode prog_7_method_37_code 75 = .ok (.iconst 0, 1) := by decide +kernel
theorem smd_M_attempt_76 : decode prog_7_method_37_code 76 = .ok (.istore_n 2, 1) := by decide +kernel
theorem smd_M_attempt_77 : decode prog_7_method_37_code 77 = .ok (.iload_n 2, 1) := by decide +kernel
theorem smd_M_attempt_78 : decode prog_7_method_37_code 78 = .ok (.bipush 6, 2) := by decide +kernel
theorem smd_M_attempt_80 : decode prog_7_method_37_code 80 = .ok (.if_icmp .ge 24, 3) := by decide +kernel
theorem smd_M_attempt_83 : decode prog_7_method_37_code 83 = .ok (.aload_n 0, 1) := by decide +kernel
theorem smd_M_attempt_84 : decode prog_7_method_37_code 84 = .ok (.getfield 13, 3) := by decide +kernel
theorem smd_M_attempt_87 : decode prog_7_method_37_code 87 = .ok (.iload_n 2, 1) := by decide +kernel
theorem smd_M_attempt_88 : decode prog_7_method_37_code 88 = .ok (.aload_n 0, 1) := by decide +kernel
theorem smd_M_attempt_89 : decode prog_7_method_37_code 89 = .ok (.getfield 13, 3) := by decide +kernel
theorem smd_M_attempt_92 : decode prog_7_method_37_code 92 = .ok (.bipush 6, 2) := by decide +kernel
theorem smd_M_attempt_94 : decode prog_7_method_37_code 94 = .ok (.iload_n 2, 1) := by decide +kernel
theorem smd_M_attempt_95 : decode prog_7_method_37_code 95 = .ok (.iadd, 1) := by decide +kernel
theorem smd_M_attempt_96 : decode prog_7_method_37_code 96 = .ok (.iaload, 1) := by decide +kernel
theorem smd_M_attempt_97 : decode prog_7_method_37_code 97 = .ok (.iastore, 1) := by decide +kernel
theorem smd_M_attempt_98 : decode prog_7_method_37_code 98 = .ok (.iinc 2 1, 3) := by decide +kernel
theorem smd_M_attempt_101 : decode prog_7_method_37_code 101 = .ok (.goto (-24), 3) := by decide +kernel
theorem smd_M_attempt_104 : decode prog_7_method_37_code 104 = .ok (.iconst 0, 1) := by decide +kernel
theorem smd_M_attempt_105 : decode prog_7_method_37_code 105 = .ok (.istore_n 2, 1) := by decide +kernel
theorem smd_M_attempt_106 : decode prog_7_method_37_code 106 = .ok (.iload_n 2, 1) := by decide +kernel
theorem smd_M_attempt_107 : decode prog_7_method_37_code 107 = .ok (.iconst 3, 1) := by decide +kernel
theorem smd_M_attempt_108 : decode prog_7_method_37_code 108 = .ok (.if_icmp .ge 23, 3) := by decide +kernel
theorem smd_M_attempt_111 : decode prog_7_method_37_code 111 = .ok (.aload_n 0, 1) := by decide +kernel
theorem smd_M_attempt_112 : decode prog_7_method_37_code 112 = .ok (.getfield 16, 3) := by decide +kernel
theorem smd_M_attempt_115 : decode prog_7_method_37_code 115 = .ok (.iload_n 2, 1) := by decide +kernel
theorem smd_M_attempt_116 : decode prog_7_method_37_code 116 = .ok (.aload_n 0, 1) := by decide +kernel
theorem smd_M_attempt_117 : decode prog_7_method_37_code 117 = .ok (.getfield 16, 3) := by decide +kernel
theorem smd_M_attempt_120 : decode prog_7_method_37_code 120 = .ok (.iconst 3, 1) := by decide +kernel
theorem smd_M_attempt_121 : decode prog_7_method_37_code 121 = .ok (.iload_n 2, 1) := by decide +kernel
theorem smd_M_attempt_122 : decode prog_7_method_37_code 122 = .ok (.iadd, 1) := by decide +kernel
theorem smd_M_attempt_123 : decode prog_7_method_37_code 123 = .ok (.iaload, 1) := by decide +kernel
theorem smd_M_attempt_124 : decode prog_7_method_37_code 124 = .ok (.iastore, 1) := by decide +kernel
theorem smd_M_attempt_125 : decode prog_7_method_37_code 125 = .ok (.iinc 2 1, 3) := by decide +kernel
theorem smd_M_attempt_128 : decode prog_7_method_37_code 128 = .ok (.goto (-22), 3) := by decide +kernel
theorem smd_M_attempt_131 : decode prog_7_method_37_code 131 = .ok (.aload_n 0, 1) := by decide +kernel
theorem smd_M_attempt_132 : decode prog_7_method_37_code 132 = .ok (.invokevirtual 74, 3) := by decide +kernel
theorem smd_M_attempt_135 : decode prog_7_method_37_code 135 = .ok (.aload_n 0, 1) := by decide +kernel
theorem smd_M_attempt_136 : decode prog_7_method_37_code 136 = .ok (.iconst 0, 1) := by decide +kernel
theorem smd_M_attempt_137 : decode prog_7_method_37_code 137 = .ok (.putfield 63, 3) := by decide +kernel
theorem smd_M_attempt_140 : decode prog_7_method_37_code 140 = .ok (.aload_n 0, 1) := by decide +kernel
theorem smd_M_attempt_141 : decode prog_7_method_37_code 141 = .ok (.dup, 1) := by decide +kernel
theorem smd_M_attempt_142 : decode prog_7_method_37_code 142 = .ok (.getfield 139, 3) := by decide +kernel
theorem smd_M_attempt_145 : decode prog_7_method_37_code 145 = .ok (.iconst 1, 1) := by decide +kernel
theorem smd_M_attempt_146 : decode prog_7_method_37_code 146 = .ok (.iadd, 1) := by decide +kernel
theorem smd_M_attempt_147 : decode prog_7_method_37_code 147 = .ok (.putfield 139, 3) := by decide +kernel
theorem smd_M_attempt_150 : decode prog_7_method_37_code 150 = .ok (.iconst 1, 1) := by decide +kernel
theorem smd_M_attempt_151 : decode prog_7_method_37_code 151 = .ok (.ireturn, 1) := by decide +kernel
theorem smd_M_version_0 : decode prog_7_method_38_code 0 = .ok (.aload_n 0, 1) := by decide +kernel
theorem smd_M_version_1 : decode prog_7_method_38_code 1 = .ok (.getfield 139, 3) := by decide +kernel
theorem smd_M_version_4 : decode prog_7_method_38_code 4 = .ok (.ireturn, 1) := by decide +kernel
theorem smd_M_isTask_0 : decode prog_7_method_39_code 0 = .ok (.iload_n 1, 1) := by decide +kernel
theorem smd_M_isTask_1 : decode prog_7_method_39_code 1 = .ok (.iconst 1, 1) := by decide +kernel
theorem smd_M_isTask_2 : decode prog_7_method_39_code 2 = .ok (.if_icmp .lt 15, 3) := by decide +kernel
theorem smd_M_isTask_5 : decode prog_7_method_39_code 5 = .ok (.iload_n 1, 1) := by decide +kernel
theorem smd_M_isTask_6 : decode prog_7_method_39_code 6 = .ok (.aload_n 0, 1) := by decide +kernel
theorem smd_M_isTask_7 : decode prog_7_method_39_code 7 = .ok (.getfield 103, 3) := by decide +kernel
theorem smd_M_isTask_10 : decode prog_7_method_39_code 10 = .ok (.if_icmp .gt 7, 3) := by decide +kernel
theorem smd_M_isTask_13 : decode prog_7_method_39_code 13 = .ok (.iconst 1, 1) := by decide +kernel
theorem smd_M_isTask_14 : decode prog_7_method_39_code 14 = .ok (.goto 4, 3) := by decide +kernel
theorem smd_M_isTask_17 : decode prog_7_method_39_code 17 = .ok (.iconst 0, 1) := by decide +kernel
theorem smd_M_isTask_18 : decode prog_7_method_39_code 18 = .ok (.ireturn, 1) := by decide +kernel
theorem smd_M_push_0 : decode prog_7_method_40_code 0 = .ok (.iload_n 1, 1) := by decide +kernel
theorem smd_M_push_1 : decode prog_7_method_40_code 1 = .ok (.aload_n 0, 1) := by decide +kernel
theorem smd_M_push_2 : decode prog_7_method_40_code 2 = .ok (.getfield 47, 3) := by decide +kernel
theorem smd_M_push_5 : decode prog_7_method_40_code 5 = .ok (.iload_n 1, 1) := by decide +kernel
theorem smd_M_push_6 : decode prog_7_method_40_code 6 = .ok (.iaload, 1) := by decide +kernel
theorem smd_M_push_7 : decode prog_7_method_40_code 7 = .ok (.invokestatic 96, 3) := by decide +kernel
theorem smd_M_push_10 : decode prog_7_method_40_code 10 = .ok (.istore 5, 2) := by decide +kernel
theorem smd_M_push_12 : decode prog_7_method_40_code 12 = .ok (.aload_n 0, 1) := by decide +kernel
theorem smd_M_push_13 : decode prog_7_method_40_code 13 = .ok (.getfield 50, 3) := by decide +kernel
theorem smd_M_push_16 : decode prog_7_method_40_code 16 = .ok (.iload 5, 2) := by decide +kernel
theorem smd_M_push_18 : decode prog_7_method_40_code 18 = .ok (.iload_n 2, 1) := by decide +kernel
theorem smd_M_push_19 : decode prog_7_method_40_code 19 = .ok (.iastore, 1) := by decide +kernel
theorem smd_M_push_20 : decode prog_7_method_40_code 20 = .ok (.aload_n 0, 1) := by decide +kernel
theorem smd_M_push_21 : decode prog_7_method_40_code 21 = .ok (.getfield 50, 3) := by decide +kernel
theorem smd_M_push_24 : decode prog_7_method_40_code 24 = .ok (.iload 5, 2) := by decide +kernel
theorem smd_M_push_26 : decode prog_7_method_40_code 26 = .ok (.iconst 1, 1) := by decide +kernel
theorem smd_M_push_27 : decode prog_7_method_40_code 27 = .ok (.iadd, 1) := by decide +kernel
theorem smd_M_push_28 : decode prog_7_method_40_code 28 = .ok (.iconst 0, 1) := by decide +kernel
theorem smd_M_push_29 : decode prog_7_method_40_code 29 = .ok (.iastore, 1) := by decide +kernel
theorem smd_M_push_30 : decode prog_7_method_40_code 30 = .ok (.aload_n 0, 1) := by decide +kernel
theorem smd_M_push_31 : decode prog_7_method_40_code 31 = .ok (.getfield 50, 3) := by decide +kernel
theorem smd_M_push_34 : decode prog_7_method_40_code 34 = .ok (.iload 5, 2) := by decide +kernel
theorem smd_M_push_36 : decode prog_7_method_40_code 36 = .ok (.iconst 2, 1) := by decide +kernel
theorem smd_M_push_37 : decode prog_7_method_40_code 37 = .ok (.iadd, 1) := by decide +kernel
theorem smd_M_push_38 : decode prog_7_method_40_code 38 = .ok (.iload_n 3, 1) := by decide +kernel
theorem smd_M_push_39 : decode prog_7_method_40_code 39 = .ok (.iastore, 1) := by decide +kernel
theorem smd_M_push_40 : decode prog_7_method_40_code 40 = .ok (.aload_n 0, 1) := by decide +kernel
theorem smd_M_push_41 : decode prog_7_method_40_code 41 = .ok (.getfield 50, 3) := by decide +kernel
theorem smd_M_push_44 : decode prog_7_method_40_code 44 = .ok (.iload 5, 2) := by decide +kernel
theorem smd_M_push_46 : decode prog_7_method_40_code 46 = .ok (.iconst 3, 1) := by decide +kernel
theorem smd_M_push_47 : decode prog_7_method_40_code 47 = .ok (.iadd, 1) := by decide +kernel
theorem smd_M_push_48 : decode prog_7_method_40_code 48 = .ok (.iconst 0, 1) := by decide +kernel
theorem smd_M_push_49 : decode prog_7_method_40_code 49 = .ok (.iastore, 1) := by decide +kernel
theorem smd_M_push_50 : decode prog_7_method_40_code 50 = .ok (.aload_n 0, 1) := by decide +kernel
theorem smd_M_push_51 : decode prog_7_method_40_code 51 = .ok (.getfield 50, 3) := by decide +kernel
theorem smd_M_push_54 : decode prog_7_method_40_code 54 = .ok (.iload 5, 2) := by decide +kernel
theorem smd_M_push_56 : decode prog_7_method_40_code 56 = .ok (.iconst 4, 1) := by decide +kernel
theorem smd_M_push_57 : decode prog_7_method_40_code 57 = .ok (.iadd, 1) := by decide +kernel
theorem smd_M_push_58 : decode prog_7_method_40_code 58 = .ok (.iconst 0, 1) := by decide +kernel
theorem smd_M_push_59 : decode prog_7_method_40_code 59 = .ok (.iastore, 1) := by decide +kernel
theorem smd_M_push_60 : decode prog_7_method_40_code 60 = .ok (.aload_n 0, 1) := by decide +kernel
theorem smd_M_push_61 : decode prog_7_method_40_code 61 = .ok (.getfield 50, 3) := by decide +kernel
theorem smd_M_push_64 : decode prog_7_method_40_code 64 = .ok (.iload 5, 2) := by decide +kernel
theorem smd_M_push_66 : decode prog_7_method_40_code 66 = .ok (.iconst 5, 1) := by decide +kernel
theorem smd_M_push_67 : decode prog_7_method_40_code 67 = .ok (.iadd, 1) := by decide +kernel
theorem smd_M_push_68 : decode prog_7_method_40_code 68 = .ok (.iload 4, 2) := by decide +kernel
theorem smd_M_push_70 : decode prog_7_method_40_code 70 = .ok (.iastore, 1) := by decide +kernel
theorem smd_M_push_71 : decode prog_7_method_40_code 71 = .ok (.aload_n 0, 1) := by decide +kernel
theorem smd_M_push_72 : decode prog_7_method_40_code 72 = .ok (.getfield 47, 3) := by decide +kernel
theorem smd_M_push_75 : decode prog_7_method_40_code 75 = .ok (.iload_n 1, 1) := by decide +kernel
theorem smd_M_push_76 : decode prog_7_method_40_code 76 = .ok (.dup2, 1) := by decide +kernel
theorem smd_M_push_77 : decode prog_7_method_40_code 77 = .ok (.iaload, 1) := by decide +kernel
theorem smd_M_push_78 : decode prog_7_method_40_code 78 = .ok (.iconst 1, 1) := by decide +kernel
theorem smd_M_push_79 : decode prog_7_method_40_code 79 = .ok (.iadd, 1) := by decide +kernel
theorem smd_M_push_80 : decode prog_7_method_40_code 80 = .ok (.iastore, 1) := by decide +kernel
theorem smd_M_push_81 : decode prog_7_method_40_code 81 = .ok (.return_, 1) := by decide +kernel
theorem smd_M_spawn_0 : decode prog_7_method_41_code 0 = .ok (.iload_n 1, 1) := by decide +kernel
theorem smd_M_spawn_1 : decode prog_7_method_41_code 1 = .ok (.invokestatic 59, 3) := by decide +kernel
theorem smd_M_spawn_4 : decode prog_7_method_41_code 4 = .ok (.ifCond .eq 12, 3) := by decide +kernel
theorem smd_M_spawn_7 : decode prog_7_method_41_code 7 = .ok (.aload_n 0, 1) := by decide +kernel
theorem smd_M_spawn_8 : decode prog_7_method_41_code 8 = .ok (.getfield 13, 3) := by decide +kernel
theorem smd_M_spawn_11 : decode prog_7_method_41_code 11 = .ok (.iload_n 1, 1) := by decide +kernel
theorem smd_M_spawn_12 : decode prog_7_method_41_code 12 = .ok (.iaload, 1) := by decide +kernel
theorem smd_M_spawn_13 : decode prog_7_method_41_code 13 = .ok (.ifCond .ne 5, 3) := by decide +kernel
theorem smd_M_spawn_16 : decode prog_7_method_41_code 16 = .ok (.iconst (-1), 1) := by decide +kernel
theorem smd_M_spawn_17 : decode prog_7_method_41_code 17 = .ok (.ireturn, 1) := by decide +kernel
theorem smd_M_spawn_18 : decode prog_7_method_41_code 18 = .ok (.aload_n 0, 1) := by decide +kernel
theorem smd_M_spawn_19 : decode prog_7_method_41_code 19 = .ok (.getfield 103, 3) := by decide +kernel
theorem smd_M_spawn_22 : decode prog_7_method_41_code 22 = .ok (.bipush 6, 2) := by decide +kernel
theorem smd_M_spawn_24 : decode prog_7_method_41_code 24 = .ok (.if_icmp .ne 6, 3) := by decide +kernel
theorem smd_M_spawn_27 : decode prog_7_method_41_code 27 = .ok (.bipush (-3), 2) := by decide +kernel
theorem smd_M_spawn_29 : decode prog_7_method_41_code 29 = .ok (.ireturn, 1) := by decide +kernel
theorem smd_M_spawn_30 : decode prog_7_method_41_code 30 = .ok (.aload_n 0, 1) := by decide +kernel
theorem smd_M_spawn_31 : decode prog_7_method_41_code 31 = .ok (.dup, 1) := by decide +kernel
theorem smd_M_spawn_32 : decode prog_7_method_41_code 32 = .ok (.getfield 103, 3) := by decide +kernel
theorem smd_M_spawn_35 : decode prog_7_method_41_code 35 = .ok (.iconst 1, 1) := by decide +kernel
theorem smd_M_spawn_36 : decode prog_7_method_41_code 36 = .ok (.iadd, 1) := by decide +kernel
theorem smd_M_spawn_37 : decode prog_7_method_41_code 37 = .ok (.putfield 103, 3) := by decide +kernel
theorem smd_M_spawn_40 : decode prog_7_method_41_code 40 = .ok (.aload_n 0, 1) := by decide +kernel
theorem smd_M_spawn_41 : decode prog_7_method_41_code 41 = .ok (.aload_n 0, 1) := by decide +kernel
theorem smd_M_spawn_42 : decode prog_7_method_41_code 42 = .ok (.getfield 103, 3) := by decide +kernel
theorem smd_M_spawn_45 : decode prog_7_method_41_code 45 = .ok (.iload_n 1, 1) := by decide +kernel
theorem smd_M_spawn_46 : decode prog_7_method_41_code 46 = .ok (.iload_n 2, 1) := by decide +kernel
theorem smd_M_spawn_47 : decode prog_7_method_41_code 47 = .ok (.iconst 0, 1) := by decide +kernel
theorem smd_M_spawn_48 : decode prog_7_method_41_code 48 = .ok (.invokevirtual 142, 3) := by decide +kernel
theorem smd_M_spawn_51 : decode prog_7_method_41_code 51 = .ok (.aload_n 0, 1) := by decide +kernel
theorem smd_M_spawn_52 : decode prog_7_method_41_code 52 = .ok (.getfield 103, 3) := by decide +kernel
theorem smd_M_spawn_55 : decode prog_7_method_41_code 55 = .ok (.ireturn, 1) := by decide +kernel
theorem smd_M_fault_0 : decode prog_7_method_42_code 0 = .ok (.aload_n 0, 1) := by decide +kernel
theorem smd_M_fault_1 : decode prog_7_method_42_code 1 = .ok (.getfield 47, 3) := by decide +kernel
theorem smd_M_fault_4 : decode prog_7_method_42_code 4 = .ok (.iload_n 1, 1) := by decide +kernel
theorem smd_M_fault_5 : decode prog_7_method_42_code 5 = .ok (.iconst 0, 1) := by decide +kernel
theorem smd_M_fault_6 : decode prog_7_method_42_code 6 = .ok (.iastore, 1) := by decide +kernel
theorem smd_M_fault_7 : decode prog_7_method_42_code 7 = .ok (.iconst 3, 1) := by decide +kernel
theorem smd_M_fault_8 : decode prog_7_method_42_code 8 = .ok (.ireturn, 1) := by decide +kernel
theorem smd_M_giveBack_0 : decode prog_7_method_43_code 0 = .ok (.aload_n 0, 1) := by decide +kernel
theorem smd_M_giveBack_1 : decode prog_7_method_43_code 1 = .ok (.getfield 47, 3) := by decide +kernel
theorem smd_M_giveBack_4 : decode prog_7_method_43_code 4 = .ok (.iload_n 1, 1) := by decide +kernel
theorem smd_M_giveBack_5 : decode prog_7_method_43_code 5 = .ok (.dup2, 1) := by decide +kernel
theorem smd_M_giveBack_6 : decode prog_7_method_43_code 6 = .ok (.iaload, 1) := by decide +kernel
theorem smd_M_giveBack_7 : decode prog_7_method_43_code 7 = .ok (.iconst 1, 1) := by decide +kernel
theorem smd_M_giveBack_8 : decode prog_7_method_43_code 8 = .ok (.isub, 1) := by decide +kernel
theorem smd_M_giveBack_9 : decode prog_7_method_43_code 9 = .ok (.iastore, 1) := by decide +kernel
theorem smd_M_giveBack_10 : decode prog_7_method_43_code 10 = .ok (.aload_n 0, 1) := by decide +kernel
theorem smd_M_giveBack_11 : decode prog_7_method_43_code 11 = .ok (.getfield 47, 3) := by decide +kernel
theorem smd_M_giveBack_14 : decode prog_7_method_43_code 14 = .ok (.iload_n 1, 1) := by decide +kernel
theorem smd_M_giveBack_15 : decode prog_7_method_43_code 15 = .ok (.iaload, 1) := by decide +kernel
theorem smd_M_giveBack_16 : decode prog_7_method_43_code 16 = .ok (.ifCond .ne 12, 3) := by decide +kernel
theorem smd_M_giveBack_19 : decode prog_7_method_43_code 19 = .ok (.aload_n 0, 1) := by decide +kernel
theorem smd_M_giveBack_20 : decode prog_7_method_43_code 20 = .ok (.getfield 44, 3) := by decide +kernel
theorem smd_M_giveBack_23 : decode prog_7_method_43_code 23 = .ok (.iload_n 1, 1) := by decide +kernel
theorem smd_M_giveBack_24 : decode prog_7_method_43_code 24 = .ok (.iload_n 2, 1) := by decide +kernel
theorem smd_M_giveBack_25 : decode prog_7_method_43_code 25 = .ok (.iastore, 1) := by decide +kernel
theorem smd_M_giveBack_26 : decode prog_7_method_43_code 26 = .ok (.iconst 2, 1) := by decide +kernel
theorem smd_M_giveBack_27 : decode prog_7_method_43_code 27 = .ok (.ireturn, 1) := by decide +kernel
theorem smd_M_giveBack_28 : decode prog_7_method_43_code 28 = .ok (.aload_n 0, 1) := by decide +kernel
theorem smd_M_giveBack_29 : decode prog_7_method_43_code 29 = .ok (.getfield 50, 3) := by decide +kernel
theorem smd_M_giveBack_32 : decode prog_7_method_43_code 32 = .ok (.iload_n 1, 1) := by decide +kernel
theorem smd_M_giveBack_33 : decode prog_7_method_43_code 33 = .ok (.aload_n 0, 1) := by decide +kernel
theorem smd_M_giveBack_34 : decode prog_7_method_43_code 34 = .ok (.getfield 47, 3) := by decide +kernel
theorem smd_M_giveBack_37 : decode prog_7_method_43_code 37 = .ok (.iload_n 1, 1) := by decide +kernel
theorem smd_M_giveBack_38 : decode prog_7_method_43_code 38 = .ok (.iaload, 1) := by decide +kernel
theorem smd_M_giveBack_39 : decode prog_7_method_43_code 39 = .ok (.invokestatic 96, 3) := by decide +kernel
theorem smd_M_giveBack_42 : decode prog_7_method_43_code 42 = .ok (.iconst 5, 1) := by decide +kernel
theorem smd_M_giveBack_43 : decode prog_7_method_43_code 43 = .ok (.iadd, 1) := by decide +kernel
theorem smd_M_giveBack_44 : decode prog_7_method_43_code 44 = .ok (.iaload, 1) := by decide +kernel
theorem smd_M_giveBack_45 : decode prog_7_method_43_code 45 = .ok (.istore_n 3, 1) := by decide +kernel
theorem smd_M_giveBack_46 : decode prog_7_method_43_code 46 = .ok (.aload_n 0, 1) := by decide +kernel
theorem smd_M_giveBack_47 : decode prog_7_method_43_code 47 = .ok (.getfield 50, 3) := by decide +kernel
theorem smd_M_giveBack_50 : decode prog_7_method_43_code 50 = .ok (.iload_n 1, 1) := by decide +kernel
theorem smd_M_giveBack_51 : decode prog_7_method_43_code 51 = .ok (.aload_n 0, 1) := by decide +kernel
theorem smd_M_giveBack_52 : decode prog_7_method_43_code 52 = .ok (.getfield 47, 3) := by decide +kernel
theorem smd_M_giveBack_55 : decode prog_7_method_43_code 55 = .ok (.iload_n 1, 1) := by decide +kernel
theorem smd_M_giveBack_56 : decode prog_7_method_43_code 56 = .ok (.iaload, 1) := by decide +kernel
theorem smd_M_giveBack_57 : decode prog_7_method_43_code 57 = .ok (.iconst 1, 1) := by decide +kernel
theorem smd_M_giveBack_58 : decode prog_7_method_43_code 58 = .ok (.isub, 1) := by decide +kernel
theorem smd_M_giveBack_59 : decode prog_7_method_43_code 59 = .ok (.invokestatic 96, 3) := by decide +kernel
theorem smd_M_giveBack_62 : decode prog_7_method_43_code 62 = .ok (.iconst 2, 1) := by decide +kernel
theorem smd_M_giveBack_63 : decode prog_7_method_43_code 63 = .ok (.iadd, 1) := by decide +kernel
theorem smd_M_giveBack_64 : decode prog_7_method_43_code 64 = .ok (.iload_n 3, 1) := by decide +kernel
theorem smd_M_giveBack_65 : decode prog_7_method_43_code 65 = .ok (.iadd, 1) := by decide +kernel
theorem smd_M_giveBack_66 : decode prog_7_method_43_code 66 = .ok (.iload_n 2, 1) := by decide +kernel
theorem smd_M_giveBack_67 : decode prog_7_method_43_code 67 = .ok (.iastore, 1) := by decide +kernel
theorem smd_M_giveBack_68 : decode prog_7_method_43_code 68 = .ok (.iconst 0, 1) := by decide +kernel
theorem smd_M_giveBack_69 : decode prog_7_method_43_code 69 = .ok (.ireturn, 1) := by decide +kernel
theorem smd_M_take_0 : decode prog_7_method_44_code 0 = .ok (.aload_n 0, 1) := by decide +kernel
theorem smd_M_take_1 : decode prog_7_method_44_code 1 = .ok (.getfield 56, 3) := by decide +kernel
theorem smd_M_take_4 : decode prog_7_method_44_code 4 = .ok (.bipush 8, 2) := by decide +kernel
theorem smd_M_take_6 : decode prog_7_method_44_code 6 = .ok (.iload_n 1, 1) := by decide +kernel
theorem smd_M_take_7 : decode prog_7_method_44_code 7 = .ok (.imul, 1) := by decide +kernel
theorem smd_M_take_8 : decode prog_7_method_44_code 8 = .ok (.iaload, 1) := by decide +kernel
theorem smd_M_take_9 : decode prog_7_method_44_code 9 = .ok (.istore_n 2, 1) := by decide +kernel
theorem smd_M_take_10 : decode prog_7_method_44_code 10 = .ok (.aload_n 0, 1) := by decide +kernel
theorem smd_M_take_11 : decode prog_7_method_44_code 11 = .ok (.getfield 53, 3) := by decide +kernel
theorem smd_M_take_14 : decode prog_7_method_44_code 14 = .ok (.iload_n 1, 1) := by decide +kernel
theorem smd_M_take_15 : decode prog_7_method_44_code 15 = .ok (.dup2, 1) := by decide +kernel
theorem smd_M_take_16 : decode prog_7_method_44_code 16 = .ok (.iaload, 1) := by decide +kernel
theorem smd_M_take_17 : decode prog_7_method_44_code 17 = .ok (.iconst 1, 1) := by decide +kernel
theorem smd_M_take_18 : decode prog_7_method_44_code 18 = .ok (.isub, 1) := by decide +kernel
theorem smd_M_take_19 : decode prog_7_method_44_code 19 = .ok (.iastore, 1) := by decide +kernel
theorem smd_M_take_20 : decode prog_7_method_44_code 20 = .ok (.iconst 0, 1) := by decide +kernel
theorem smd_M_take_21 : decode prog_7_method_44_code 21 = .ok (.istore_n 3, 1) := by decide +kernel
theorem smd_M_take_22 : decode prog_7_method_44_code 22 = .ok (.iload_n 3, 1) := by decide +kernel
theorem smd_M_take_23 : decode prog_7_method_44_code 23 = .ok (.aload_n 0, 1) := by decide +kernel
theorem smd_M_take_24 : decode prog_7_method_44_code 24 = .ok (.getfield 53, 3) := by decide +kernel
theorem smd_M_take_27 : decode prog_7_method_44_code 27 = .ok (.iload_n 1, 1) := by decide +kernel
theorem smd_M_take_28 : decode prog_7_method_44_code 28 = .ok (.iaload, 1) := by decide +kernel
theorem smd_M_take_29 : decode prog_7_method_44_code 29 = .ok (.if_icmp .ge 33, 3) := by decide +kernel
theorem smd_M_take_32 : decode prog_7_method_44_code 32 = .ok (.aload_n 0, 1) := by decide +kernel
theorem smd_M_take_33 : decode prog_7_method_44_code 33 = .ok (.getfield 56, 3) := by decide +kernel
theorem smd_M_take_36 : decode prog_7_method_44_code 36 = .ok (.bipush 8, 2) := by decide +kernel
theorem smd_M_take_38 : decode prog_7_method_44_code 38 = .ok (.iload_n 1, 1) := by decide +kernel
theorem smd_M_take_39 : decode prog_7_method_44_code 39 = .ok (.imul, 1) := by decide +kernel
theorem smd_M_take_40 : decode prog_7_method_44_code 40 = .ok (.iload_n 3, 1) := by decide +kernel
theorem smd_M_take_41 : decode prog_7_method_44_code 41 = .ok (.iadd, 1) := by decide +kernel
theorem smd_M_take_42 : decode prog_7_method_44_code 42 = .ok (.aload_n 0, 1) := by decide +kernel
theorem smd_M_take_43 : decode prog_7_method_44_code 43 = .ok (.getfield 56, 3) := by decide +kernel
theorem smd_M_take_46 : decode prog_7_method_44_code 46 = .ok (.bipush 8, 2) := by decide +kernel
theorem smd_M_take_48 : decode prog_7_method_44_code 48 = .ok (.iload_n 1, 1) := by decide +kernel
theorem smd_M_take_49 : decode prog_7_method_44_code 49 = .ok (.imul, 1) := by decide +kernel
theorem smd_M_take_50 : decode prog_7_method_44_code 50 = .ok (.iload_n 3, 1) := by decide +kernel
theorem smd_M_take_51 : decode prog_7_method_44_code 51 = .ok (.iadd, 1) := by decide +kernel
theorem smd_M_take_52 : decode prog_7_method_44_code 52 = .ok (.iconst 1, 1) := by decide +kernel
theorem smd_M_take_53 : decode prog_7_method_44_code 53 = .ok (.iadd, 1) := by decide +kernel
theorem smd_M_take_54 : decode prog_7_method_44_code 54 = .ok (.iaload, 1) := by decide +kernel
theorem smd_M_take_55 : decode prog_7_method_44_code 55 = .ok (.iastore, 1) := by decide +kernel
theorem smd_M_take_56 : decode prog_7_method_44_code 56 = .ok (.iinc 3 1, 3) := by decide +kernel
theorem smd_M_take_59 : decode prog_7_method_44_code 59 = .ok (.goto (-37), 3) := by decide +kernel
theorem smd_M_take_62 : decode prog_7_method_44_code 62 = .ok (.iload_n 2, 1) := by decide +kernel
theorem smd_M_take_63 : decode prog_7_method_44_code 63 = .ok (.ireturn, 1) := by decide +kernel
theorem smd_M_act_0 : decode prog_7_method_45_code 0 = .ok (.iload_n 1, 1) := by decide +kernel
theorem smd_M_act_1 : decode prog_7_method_45_code 1 = .ok (.aload_n 0, 1) := by decide +kernel
theorem smd_M_act_2 : decode prog_7_method_45_code 2 = .ok (.getfield 47, 3) := by decide +kernel
theorem smd_M_act_5 : decode prog_7_method_45_code 5 = .ok (.iload_n 1, 1) := by decide +kernel
theorem smd_M_act_6 : decode prog_7_method_45_code 6 = .ok (.iaload, 1) := by decide +kernel
theorem smd_M_act_7 : decode prog_7_method_45_code 7 = .ok (.iconst 1, 1) := by decide +kernel
theorem smd_M_act_8 : decode prog_7_method_45_code 8 = .ok (.isub, 1) := by decide +kernel
theorem smd_M_act_9 : decode prog_7_method_45_code 9 = .ok (.invokestatic 96, 3) := by decide +kernel
theorem smd_M_act_12 : decode prog_7_method_45_code 12 = .ok (.istore_n 2, 1) := by decide +kernel
theorem smd_M_act_13 : decode prog_7_method_45_code 13 = .ok (.bipush 48, 2) := by decide +kernel
theorem smd_M_act_15 : decode prog_7_method_45_code 15 = .ok (.aload_n 0, 1) := by decide +kernel
theorem smd_M_act_16 : decode prog_7_method_45_code 16 = .ok (.getfield 50, 3) := by decide +kernel
theorem smd_M_act_19 : decode prog_7_method_45_code 19 = .ok (.iload_n 2, 1) := by decide +kernel
theorem smd_M_act_20 : decode prog_7_method_45_code 20 = .ok (.iaload, 1) := by decide +kernel
theorem smd_M_act_21 : decode prog_7_method_45_code 21 = .ok (.imul, 1) := by decide +kernel
theorem smd_M_act_22 : decode prog_7_method_45_code 22 = .ok (.iconst 4, 1) := by decide +kernel
theorem smd_M_act_23 : decode prog_7_method_45_code 23 = .ok (.aload_n 0, 1) := by decide +kernel
theorem smd_M_act_24 : decode prog_7_method_45_code 24 = .ok (.getfield 50, 3) := by decide +kernel
theorem smd_M_act_27 : decode prog_7_method_45_code 27 = .ok (.iload_n 2, 1) := by decide +kernel
theorem smd_M_act_28 : decode prog_7_method_45_code 28 = .ok (.iconst 1, 1) := by decide +kernel
theorem smd_M_act_29 : decode prog_7_method_45_code 29 = .ok (.iadd, 1) := by decide +kernel
theorem smd_M_act_30 : decode prog_7_method_45_code 30 = .ok (.iaload, 1) := by decide +kernel
theorem smd_M_act_31 : decode prog_7_method_45_code 31 = .ok (.imul, 1) := by decide +kernel
theorem smd_M_act_32 : decode prog_7_method_45_code 32 = .ok (.iadd, 1) := by decide +kernel
theorem smd_M_act_33 : decode prog_7_method_45_code 33 = .ok (.istore_n 3, 1) := by decide +kernel
theorem smd_M_act_34 : decode prog_7_method_45_code 34 = .ok (.aload_n 0, 1) := by decide +kernel
theorem smd_M_act_35 : decode prog_7_method_45_code 35 = .ok (.getfield 7, 3) := by decide +kernel
theorem smd_M_act_38 : decode prog_7_method_45_code 38 = .ok (.iload_n 3, 1) := by decide +kernel
theorem smd_M_act_39 : decode prog_7_method_45_code 39 = .ok (.iaload, 1) := by decide +kernel
theorem smd_M_act_40 : decode prog_7_method_45_code 40 = .ok (.istore 4, 2) := by decide +kernel
theorem smd_M_act_42 : decode prog_7_method_45_code 42 = .ok (.aload_n 0, 1) := by decide +kernel
theorem smd_M_act_43 : decode prog_7_method_45_code 43 = .ok (.getfield 7, 3) := by decide +kernel
theorem smd_M_act_46 : decode prog_7_method_45_code 46 = .ok (.iload_n 3, 1) := by decide +kernel
theorem smd_M_act_47 : decode prog_7_method_45_code 47 = .ok (.iconst 1, 1) := by decide +kernel
theorem smd_M_act_48 : decode prog_7_method_45_code 48 = .ok (.iadd, 1) := by decide +kernel
theorem smd_M_act_49 : decode prog_7_method_45_code 49 = .ok (.iaload, 1) := by decide +kernel
theorem smd_M_act_50 : decode prog_7_method_45_code 50 = .ok (.istore 5, 2) := by decide +kernel
theorem smd_M_act_52 : decode prog_7_method_45_code 52 = .ok (.aload_n 0, 1) := by decide +kernel
theorem smd_M_act_53 : decode prog_7_method_45_code 53 = .ok (.getfield 7, 3) := by decide +kernel
theorem smd_M_act_56 : decode prog_7_method_45_code 56 = .ok (.iload_n 3, 1) := by decide +kernel
theorem smd_M_act_57 : decode prog_7_method_45_code 57 = .ok (.iconst 2, 1) := by decide +kernel
theorem smd_M_act_58 : decode prog_7_method_45_code 58 = .ok (.iadd, 1) := by decide +kernel
theorem smd_M_act_59 : decode prog_7_method_45_code 59 = .ok (.iaload, 1) := by decide +kernel
theorem smd_M_act_60 : decode prog_7_method_45_code 60 = .ok (.istore 6, 2) := by decide +kernel
theorem smd_M_act_62 : decode prog_7_method_45_code 62 = .ok (.aload_n 0, 1) := by decide +kernel
theorem smd_M_act_63 : decode prog_7_method_45_code 63 = .ok (.getfield 7, 3) := by decide +kernel
theorem smd_M_act_66 : decode prog_7_method_45_code 66 = .ok (.iload_n 3, 1) := by decide +kernel
theorem smd_M_act_67 : decode prog_7_method_45_code 67 = .ok (.iconst 3, 1) := by decide +kernel
theorem smd_M_act_68 : decode prog_7_method_45_code 68 = .ok (.iadd, 1) := by decide +kernel
theorem smd_M_act_69 : decode prog_7_method_45_code 69 = .ok (.iaload, 1) := by decide +kernel
theorem smd_M_act_70 : decode prog_7_method_45_code 70 = .ok (.istore 7, 2) := by decide +kernel
theorem smd_M_act_72 : decode prog_7_method_45_code 72 = .ok (.iload_n 2, 1) := by decide +kernel
theorem smd_M_act_73 : decode prog_7_method_45_code 73 = .ok (.iconst 2, 1) := by decide +kernel
theorem smd_M_act_74 : decode prog_7_method_45_code 74 = .ok (.iadd, 1) := by decide +kernel
theorem smd_M_act_75 : decode prog_7_method_45_code 75 = .ok (.istore 8, 2) := by decide +kernel
theorem smd_M_act_77 : decode prog_7_method_45_code 77 = .ok (.iload 4, 2) := by decide +kernel
theorem smd_M_act_79 : decode prog_7_method_45_code 79 = .ok (.bipush 11, 2) := by decide +kernel
theorem smd_M_act_81 : decode prog_7_method_45_code 81 = .ok (.if_icmp .ne 14, 3) := by decide +kernel
theorem smd_M_act_84 : decode prog_7_method_45_code 84 = .ok (.aload_n 0, 1) := by decide +kernel
theorem smd_M_act_85 : decode prog_7_method_45_code 85 = .ok (.getfield 53, 3) := by decide +kernel
theorem smd_M_act_88 : decode prog_7_method_45_code 88 = .ok (.iload_n 1, 1) := by decide +kernel
theorem smd_M_act_89 : decode prog_7_method_45_code 89 = .ok (.iaload, 1) := by decide +kernel
theorem smd_M_act_90 : decode prog_7_method_45_code 90 = .ok (.ifCond .ne 5, 3) := by decide +kernel
theorem smd_M_act_93 : decode prog_7_method_45_code 93 = .ok (.iconst 1, 1) := by decide +kernel
theorem smd_M_act_94 : decode prog_7_method_45_code 94 = .ok (.ireturn, 1) := by decide +kernel
theorem smd_M_act_95 : decode prog_7_method_45_code 95 = .ok (.aload_n 0, 1) := by decide +kernel
theorem smd_M_act_96 : decode prog_7_method_45_code 96 = .ok (.getfield 50, 3) := by decide +kernel
theorem smd_M_act_99 : decode prog_7_method_45_code 99 = .ok (.iload_n 2, 1) := by decide +kernel
theorem smd_M_act_100 : decode prog_7_method_45_code 100 = .ok (.iconst 1, 1) := by decide +kernel
theorem smd_M_act_101 : decode prog_7_method_45_code 101 = .ok (.iadd, 1) := by decide +kernel
theorem smd_M_act_102 : decode prog_7_method_45_code 102 = .ok (.dup2, 1) := by decide +kernel
theorem smd_M_act_103 : decode prog_7_method_45_code 103 = .ok (.iaload, 1) := by decide +kernel
theorem smd_M_act_104 : decode prog_7_method_45_code 104 = .ok (.iconst 1, 1) := by decide +kernel
theorem smd_M_act_105 : decode prog_7_method_45_code 105 = .ok (.iadd, 1) := by decide +kernel
theorem smd_M_act_106 : decode prog_7_method_45_code 106 = .ok (.iastore, 1) := by decide +kernel
theorem smd_M_act_107 : decode prog_7_method_45_code 107 = .ok (.iload 4, 2) := by decide +kernel
theorem smd_M_act_109 : decode prog_7_method_45_code 109 = .ok (.tableswitch 306 0 11 #[63, 79, 93, 126, 159, 184, 222, 235, 235, 251, 270, 289], 63) := by decide +kernel
theorem smd_M_act_172 : decode prog_7_method_45_code 172 = .ok (.aload_n 0, 1) := by decide +kernel
theorem smd_M_act_173 : decode prog_7_method_45_code 173 = .ok (.iload_n 1, 1) := by decide +kernel
theorem smd_M_act_174 : decode prog_7_method_45_code 174 = .ok (.aload_n 0, 1) := by decide +kernel
theorem smd_M_act_175 : decode prog_7_method_45_code 175 = .ok (.getfield 50, 3) := by decide +kernel
theorem smd_M_act_178 : decode prog_7_method_45_code 178 = .ok (.iload 8, 2) := by decide +kernel
theorem smd_M_act_180 : decode prog_7_method_45_code 180 = .ok (.iload 5, 2) := by decide +kernel
theorem smd_M_act_182 : decode prog_7_method_45_code 182 = .ok (.iadd, 1) := by decide +kernel
theorem smd_M_act_183 : decode prog_7_method_45_code 183 = .ok (.iaload, 1) := by decide +kernel
theorem smd_M_act_184 : decode prog_7_method_45_code 184 = .ok (.invokevirtual 146, 3) := by decide +kernel
theorem smd_M_act_187 : decode prog_7_method_45_code 187 = .ok (.ireturn, 1) := by decide +kernel
theorem smd_M_act_188 : decode prog_7_method_45_code 188 = .ok (.aload_n 0, 1) := by decide +kernel
theorem smd_M_act_189 : decode prog_7_method_45_code 189 = .ok (.getfield 50, 3) := by decide +kernel
theorem smd_M_act_192 : decode prog_7_method_45_code 192 = .ok (.iload 8, 2) := by decide +kernel
theorem smd_M_act_194 : decode prog_7_method_45_code 194 = .ok (.iload 5, 2) := by decide +kernel
theorem smd_M_act_196 : decode prog_7_method_45_code 196 = .ok (.iadd, 1) := by decide +kernel
theorem smd_M_act_197 : decode prog_7_method_45_code 197 = .ok (.iload 6, 2) := by decide +kernel
theorem smd_M_act_199 : decode prog_7_method_45_code 199 = .ok (.iastore, 1) := by decide +kernel
theorem smd_M_act_200 : decode prog_7_method_45_code 200 = .ok (.iconst 0, 1) := by decide +kernel
theorem smd_M_act_201 : decode prog_7_method_45_code 201 = .ok (.ireturn, 1) := by decide +kernel
theorem smd_M_act_202 : decode prog_7_method_45_code 202 = .ok (.aload_n 0, 1) := by decide +kernel
theorem smd_M_act_203 : decode prog_7_method_45_code 203 = .ok (.getfield 50, 3) := by decide +kernel
theorem smd_M_act_206 : decode prog_7_method_45_code 206 = .ok (.iload 8, 2) := by decide +kernel
theorem smd_M_act_208 : decode prog_7_method_45_code 208 = .ok (.iload 5, 2) := by decide +kernel
theorem smd_M_act_210 : decode prog_7_method_45_code 210 = .ok (.iadd, 1) := by decide +kernel
theorem smd_M_act_211 : decode prog_7_method_45_code 211 = .ok (.aload_n 0, 1) := by decide +kernel
theorem smd_M_act_212 : decode prog_7_method_45_code 212 = .ok (.getfield 50, 3) := by decide +kernel
theorem smd_M_act_215 : decode prog_7_method_45_code 215 = .ok (.iload 8, 2) := by decide +kernel
theorem smd_M_act_217 : decode prog_7_method_45_code 217 = .ok (.iload 6, 2) := by decide +kernel
theorem smd_M_act_219 : decode prog_7_method_45_code 219 = .ok (.iadd, 1) := by decide +kernel
theorem smd_M_act_220 : decode prog_7_method_45_code 220 = .ok (.iaload, 1) := by decide +kernel
theorem smd_M_act_221 : decode prog_7_method_45_code 221 = .ok (.aload_n 0, 1) := by decide +kernel
theorem smd_M_act_222 : decode prog_7_method_45_code 222 = .ok (.getfield 50, 3) := by decide +kernel
theorem smd_M_act_225 : decode prog_7_method_45_code 225 = .ok (.iload 8, 2) := by decide +kernel
theorem smd_M_act_227 : decode prog_7_method_45_code 227 = .ok (.iload 7, 2) := by decide +kernel
theorem smd_M_act_229 : decode prog_7_method_45_code 229 = .ok (.iadd, 1) := by decide +kernel
theorem smd_M_act_230 : decode prog_7_method_45_code 230 = .ok (.iaload, 1) := by decide +kernel
theorem smd_M_act_231 : decode prog_7_method_45_code 231 = .ok (.iadd, 1) := by decide +kernel
theorem smd_M_act_232 : decode prog_7_method_45_code 232 = .ok (.iastore, 1) := by decide +kernel
theorem smd_M_act_233 : decode prog_7_method_45_code 233 = .ok (.iconst 0, 1) := by decide +kernel
theorem smd_M_act_234 : decode prog_7_method_45_code 234 = .ok (.ireturn, 1) := by decide +kernel
theorem smd_M_act_235 : decode prog_7_method_45_code 235 = .ok (.aload_n 0, 1) := by decide +kernel
theorem smd_M_act_236 : decode prog_7_method_45_code 236 = .ok (.getfield 50, 3) := by decide +kernel
theorem smd_M_act_239 : decode prog_7_method_45_code 239 = .ok (.iload 8, 2) := by decide +kernel
theorem smd_M_act_241 : decode prog_7_method_45_code 241 = .ok (.iload 5, 2) := by decide +kernel
theorem smd_M_act_243 : decode prog_7_method_45_code 243 = .ok (.iadd, 1) := by decide +kernel
theorem smd_M_act_244 : decode prog_7_method_45_code 244 = .ok (.aload_n 0, 1) := by decide +kernel
theorem smd_M_act_245 : decode prog_7_method_45_code 245 = .ok (.getfield 50, 3) := by decide +kernel
theorem smd_M_act_248 : decode prog_7_method_45_code 248 = .ok (.iload 8, 2) := by decide +kernel
theorem smd_M_act_250 : decode prog_7_method_45_code 250 = .ok (.iload 6, 2) := by decide +kernel
theorem smd_M_act_252 : decode prog_7_method_45_code 252 = .ok (.iadd, 1) := by decide +kernel
theorem smd_M_act_253 : decode prog_7_method_45_code 253 = .ok (.iaload, 1) := by decide +kernel
theorem smd_M_act_254 : decode prog_7_method_45_code 254 = .ok (.aload_n 0, 1) := by decide +kernel
theorem smd_M_act_255 : decode prog_7_method_45_code 255 = .ok (.getfield 50, 3) := by decide +kernel
theorem smd_M_act_258 : decode prog_7_method_45_code 258 = .ok (.iload 8, 2) := by decide +kernel
theorem smd_M_act_260 : decode prog_7_method_45_code 260 = .ok (.iload 7, 2) := by decide +kernel
theorem smd_M_act_262 : decode prog_7_method_45_code 262 = .ok (.iadd, 1) := by decide +kernel
theorem smd_M_act_263 : decode prog_7_method_45_code 263 = .ok (.iaload, 1) := by decide +kernel
theorem smd_M_act_264 : decode prog_7_method_45_code 264 = .ok (.isub, 1) := by decide +kernel
theorem smd_M_act_265 : decode prog_7_method_45_code 265 = .ok (.iastore, 1) := by decide +kernel
theorem smd_M_act_266 : decode prog_7_method_45_code 266 = .ok (.iconst 0, 1) := by decide +kernel
theorem smd_M_act_267 : decode prog_7_method_45_code 267 = .ok (.ireturn, 1) := by decide +kernel
theorem smd_M_act_268 : decode prog_7_method_45_code 268 = .ok (.aload_n 0, 1) := by decide +kernel
theorem smd_M_act_269 : decode prog_7_method_45_code 269 = .ok (.getfield 50, 3) := by decide +kernel
theorem smd_M_act_272 : decode prog_7_method_45_code 272 = .ok (.iload 8, 2) := by decide +kernel
theorem smd_M_act_274 : decode prog_7_method_45_code 274 = .ok (.iload 5, 2) := by decide +kernel
theorem smd_M_act_276 : decode prog_7_method_45_code 276 = .ok (.iadd, 1) := by decide +kernel
theorem smd_M_act_277 : decode prog_7_method_45_code 277 = .ok (.iaload, 1) := by decide +kernel
theorem smd_M_act_278 : decode prog_7_method_45_code 278 = .ok (.ifCond .ne 13, 3) := by decide +kernel
theorem smd_M_act_281 : decode prog_7_method_45_code 281 = .ok (.aload_n 0, 1) := by decide +kernel
theorem smd_M_act_282 : decode prog_7_method_45_code 282 = .ok (.getfield 50, 3) := by decide +kernel
theorem smd_M_act_285 : decode prog_7_method_45_code 285 = .ok (.iload_n 2, 1) := by decide +kernel
theorem smd_M_act_286 : decode prog_7_method_45_code 286 = .ok (.iconst 1, 1) := by decide +kernel
theorem smd_M_act_287 : decode prog_7_method_45_code 287 = .ok (.iadd, 1) := by decide +kernel
theorem smd_M_act_288 : decode prog_7_method_45_code 288 = .ok (.iload 6, 2) := by decide +kernel
theorem smd_M_act_290 : decode prog_7_method_45_code 290 = .ok (.iastore, 1) := by decide +kernel
theorem smd_M_act_291 : decode prog_7_method_45_code 291 = .ok (.iconst 0, 1) := by decide +kernel
theorem smd_M_act_292 : decode prog_7_method_45_code 292 = .ok (.ireturn, 1) := by decide +kernel
theorem smd_M_act_293 : decode prog_7_method_45_code 293 = .ok (.aload_n 0, 1) := by decide +kernel
theorem smd_M_act_294 : decode prog_7_method_45_code 294 = .ok (.getfield 47, 3) := by decide +kernel
theorem smd_M_act_297 : decode prog_7_method_45_code 297 = .ok (.iload_n 1, 1) := by decide +kernel
theorem smd_M_act_298 : decode prog_7_method_45_code 298 = .ok (.iaload, 1) := by decide +kernel
theorem smd_M_act_299 : decode prog_7_method_45_code 299 = .ok (.bipush 6, 2) := by decide +kernel
theorem smd_M_act_301 : decode prog_7_method_45_code 301 = .ok (.if_icmp .ne 9, 3) := by decide +kernel
theorem smd_M_act_304 : decode prog_7_method_45_code 304 = .ok (.aload_n 0, 1) := by decide +kernel
theorem smd_M_act_305 : decode prog_7_method_45_code 305 = .ok (.iload_n 1, 1) := by decide +kernel
theorem smd_M_act_306 : decode prog_7_method_45_code 306 = .ok (.invokevirtual 149, 3) := by decide +kernel
theorem smd_M_act_309 : decode prog_7_method_45_code 309 = .ok (.ireturn, 1) := by decide +kernel
theorem smd_M_act_310 : decode prog_7_method_45_code 310 = .ok (.aload_n 0, 1) := by decide +kernel
theorem smd_M_act_311 : decode prog_7_method_45_code 311 = .ok (.iload_n 1, 1) := by decide +kernel
theorem smd_M_act_312 : decode prog_7_method_45_code 312 = .ok (.iload 6, 2) := by decide +kernel
theorem smd_M_act_314 : decode prog_7_method_45_code 314 = .ok (.aload_n 0, 1) := by decide +kernel
theorem smd_M_act_315 : decode prog_7_method_45_code 315 = .ok (.getfield 50, 3) := by decide +kernel
theorem smd_M_act_318 : decode prog_7_method_45_code 318 = .ok (.iload 8, 2) := by decide +kernel
theorem smd_M_act_320 : decode prog_7_method_45_code 320 = .ok (.iload 7, 2) := by decide +kernel
theorem smd_M_act_322 : decode prog_7_method_45_code 322 = .ok (.iadd, 1) := by decide +kernel
theorem smd_M_act_323 : decode prog_7_method_45_code 323 = .ok (.iaload, 1) := by decide +kernel
theorem smd_M_act_324 : decode prog_7_method_45_code 324 = .ok (.iload 5, 2) := by decide +kernel
theorem smd_M_act_326 : decode prog_7_method_45_code 326 = .ok (.invokevirtual 142, 3) := by decide +kernel
theorem smd_M_act_329 : decode prog_7_method_45_code 329 = .ok (.iconst 0, 1) := by decide +kernel
theorem smd_M_act_330 : decode prog_7_method_45_code 330 = .ok (.ireturn, 1) := by decide +kernel
theorem smd_M_act_331 : decode prog_7_method_45_code 331 = .ok (.aload_n 0, 1) := by decide +kernel
theorem smd_M_act_332 : decode prog_7_method_45_code 332 = .ok (.iload_n 1, 1) := by decide +kernel
theorem smd_M_act_333 : decode prog_7_method_45_code 333 = .ok (.iload 8, 2) := by decide +kernel
theorem smd_M_act_335 : decode prog_7_method_45_code 335 = .ok (.iload 5, 2) := by decide +kernel
theorem smd_M_act_337 : decode prog_7_method_45_code 337 = .ok (.iadd, 1) := by decide +kernel
theorem smd_M_act_338 : decode prog_7_method_45_code 338 = .ok (.iload 6, 2) := by decide +kernel
theorem smd_M_act_340 : decode prog_7_method_45_code 340 = .ok (.invokevirtual 152, 3) := by decide +kernel
theorem smd_M_act_343 : decode prog_7_method_45_code 343 = .ok (.ireturn, 1) := by decide +kernel
theorem smd_M_act_344 : decode prog_7_method_45_code 344 = .ok (.aload_n 0, 1) := by decide +kernel
theorem smd_M_act_345 : decode prog_7_method_45_code 345 = .ok (.iload_n 1, 1) := by decide +kernel
theorem smd_M_act_346 : decode prog_7_method_45_code 346 = .ok (.iload 4, 2) := by decide +kernel
theorem smd_M_act_348 : decode prog_7_method_45_code 348 = .ok (.iload 8, 2) := by decide +kernel
theorem smd_M_act_350 : decode prog_7_method_45_code 350 = .ok (.iload 5, 2) := by decide +kernel
theorem smd_M_act_352 : decode prog_7_method_45_code 352 = .ok (.iload 6, 2) := by decide +kernel
theorem smd_M_act_354 : decode prog_7_method_45_code 354 = .ok (.iload 7, 2) := by decide +kernel
theorem smd_M_act_356 : decode prog_7_method_45_code 356 = .ok (.invokevirtual 156, 3) := by decide +kernel
theorem smd_M_act_359 : decode prog_7_method_45_code 359 = .ok (.ireturn, 1) := by decide +kernel
theorem smd_M_act_360 : decode prog_7_method_45_code 360 = .ok (.aload_n 0, 1) := by decide +kernel
theorem smd_M_act_361 : decode prog_7_method_45_code 361 = .ok (.getfield 50, 3) := by decide +kernel
theorem smd_M_act_364 : decode prog_7_method_45_code 364 = .ok (.iload 8, 2) := by decide +kernel
theorem smd_M_act_366 : decode prog_7_method_45_code 366 = .ok (.iload 5, 2) := by decide +kernel
theorem smd_M_act_368 : decode prog_7_method_45_code 368 = .ok (.iadd, 1) := by decide +kernel
theorem smd_M_act_369 : decode prog_7_method_45_code 369 = .ok (.aload_n 0, 1) := by decide +kernel
theorem smd_M_act_370 : decode prog_7_method_45_code 370 = .ok (.getfield 26, 3) := by decide +kernel
theorem smd_M_act_373 : decode prog_7_method_45_code 373 = .ok (.iload 6, 2) := by decide +kernel
theorem smd_M_act_375 : decode prog_7_method_45_code 375 = .ok (.iaload, 1) := by decide +kernel
theorem smd_M_act_376 : decode prog_7_method_45_code 376 = .ok (.iastore, 1) := by decide +kernel
theorem smd_M_act_377 : decode prog_7_method_45_code 377 = .ok (.iconst 0, 1) := by decide +kernel
theorem smd_M_act_378 : decode prog_7_method_45_code 378 = .ok (.ireturn, 1) := by decide +kernel
theorem smd_M_act_379 : decode prog_7_method_45_code 379 = .ok (.aload_n 0, 1) := by decide +kernel
theorem smd_M_act_380 : decode prog_7_method_45_code 380 = .ok (.getfield 26, 3) := by decide +kernel
theorem smd_M_act_383 : decode prog_7_method_45_code 383 = .ok (.iload 6, 2) := by decide +kernel
theorem smd_M_act_385 : decode prog_7_method_45_code 385 = .ok (.aload_n 0, 1) := by decide +kernel
theorem smd_M_act_386 : decode prog_7_method_45_code 386 = .ok (.getfield 50, 3) := by decide +kernel
theorem smd_M_act_389 : decode prog_7_method_45_code 389 = .ok (.iload 8, 2) := by decide +kernel
theorem smd_M_act_391 : decode prog_7_method_45_code 391 = .ok (.iload 5, 2) := by decide +kernel
theorem smd_M_act_393 : decode prog_7_method_45_code 393 = .ok (.iadd, 1) := by decide +kernel
theorem smd_M_act_394 : decode prog_7_method_45_code 394 = .ok (.iaload, 1) := by decide +kernel
theorem smd_M_act_395 : decode prog_7_method_45_code 395 = .ok (.iastore, 1) := by decide +kernel
theorem smd_M_act_396 : decode prog_7_method_45_code 396 = .ok (.iconst 0, 1) := by decide +kernel
theorem smd_M_act_397 : decode prog_7_method_45_code 397 = .ok (.ireturn, 1) := by decide +kernel
theorem smd_M_act_398 : decode prog_7_method_45_code 398 = .ok (.aload_n 0, 1) := by decide +kernel
theorem smd_M_act_399 : decode prog_7_method_45_code 399 = .ok (.getfield 50, 3) := by decide +kernel
theorem smd_M_act_402 : decode prog_7_method_45_code 402 = .ok (.iload 8, 2) := by decide +kernel
theorem smd_M_act_404 : decode prog_7_method_45_code 404 = .ok (.iload 5, 2) := by decide +kernel
theorem smd_M_act_406 : decode prog_7_method_45_code 406 = .ok (.iadd, 1) := by decide +kernel
theorem smd_M_act_407 : decode prog_7_method_45_code 407 = .ok (.aload_n 0, 1) := by decide +kernel
theorem smd_M_act_408 : decode prog_7_method_45_code 408 = .ok (.iload_n 1, 1) := by decide +kernel
theorem smd_M_act_409 : decode prog_7_method_45_code 409 = .ok (.invokevirtual 160, 3) := by decide +kernel
theorem smd_M_act_412 : decode prog_7_method_45_code 412 = .ok (.iastore, 1) := by decide +kernel
theorem smd_M_act_413 : decode prog_7_method_45_code 413 = .ok (.iconst 0, 1) := by decide +kernel
theorem smd_M_act_414 : decode prog_7_method_45_code 414 = .ok (.ireturn, 1) := by decide +kernel
theorem smd_M_act_415 : decode prog_7_method_45_code 415 = .ok (.iconst 0, 1) := by decide +kernel
theorem smd_M_act_416 : decode prog_7_method_45_code 416 = .ok (.ireturn, 1) := by decide +kernel
theorem smd_M_create_0 : decode prog_7_method_46_code 0 = .ok (.aload_n 0, 1) := by decide +kernel
theorem smd_M_create_1 : decode prog_7_method_46_code 1 = .ok (.iload_n 3, 1) := by decide +kernel
theorem smd_M_create_2 : decode prog_7_method_46_code 2 = .ok (.invokevirtual 163, 3) := by decide +kernel
theorem smd_M_create_5 : decode prog_7_method_46_code 5 = .ok (.istore 4, 2) := by decide +kernel
theorem smd_M_create_7 : decode prog_7_method_46_code 7 = .ok (.iload 4, 2) := by decide +kernel
theorem smd_M_create_9 : decode prog_7_method_46_code 9 = .ok (.ifCond .ne 9, 3) := by decide +kernel
theorem smd_M_create_12 : decode prog_7_method_46_code 12 = .ok (.aload_n 0, 1) := by decide +kernel
theorem smd_M_create_13 : decode prog_7_method_46_code 13 = .ok (.iload_n 1, 1) := by decide +kernel
theorem smd_M_create_14 : decode prog_7_method_46_code 14 = .ok (.invokevirtual 149, 3) := by decide +kernel
theorem smd_M_create_17 : decode prog_7_method_46_code 17 = .ok (.ireturn, 1) := by decide +kernel
theorem smd_M_create_18 : decode prog_7_method_46_code 18 = .ok (.aload_n 0, 1) := by decide +kernel
theorem smd_M_create_19 : decode prog_7_method_46_code 19 = .ok (.getfield 50, 3) := by decide +kernel
theorem smd_M_create_22 : decode prog_7_method_46_code 22 = .ok (.iload_n 2, 1) := by decide +kernel
theorem smd_M_create_23 : decode prog_7_method_46_code 23 = .ok (.iload 4, 2) := by decide +kernel
theorem smd_M_create_25 : decode prog_7_method_46_code 25 = .ok (.iastore, 1) := by decide +kernel
theorem smd_M_create_26 : decode prog_7_method_46_code 26 = .ok (.iconst 0, 1) := by decide +kernel
theorem smd_M_create_27 : decode prog_7_method_46_code 27 = .ok (.ireturn, 1) := by decide +kernel
theorem smd_M_access_0 : decode prog_7_method_47_code 0 = .ok (.iload_n 2, 1) := by decide +kernel
theorem smd_M_access_1 : decode prog_7_method_47_code 1 = .ok (.bipush 7, 2) := by decide +kernel
theorem smd_M_access_3 : decode prog_7_method_47_code 3 = .ok (.if_icmp .ne 15, 3) := by decide +kernel
theorem smd_M_access_6 : decode prog_7_method_47_code 6 = .ok (.aload_n 0, 1) := by decide +kernel
theorem smd_M_access_7 : decode prog_7_method_47_code 7 = .ok (.getfield 50, 3) := by decide +kernel
theorem smd_M_access_10 : decode prog_7_method_47_code 10 = .ok (.iload_n 3, 1) := by decide +kernel
theorem smd_M_access_11 : decode prog_7_method_47_code 11 = .ok (.iload 5, 2) := by decide +kernel
theorem smd_M_access_13 : decode prog_7_method_47_code 13 = .ok (.iadd, 1) := by decide +kernel
theorem smd_M_access_14 : decode prog_7_method_47_code 14 = .ok (.iaload, 1) := by decide +kernel
theorem smd_M_access_15 : decode prog_7_method_47_code 15 = .ok (.goto 12, 3) := by decide +kernel
theorem smd_M_access_18 : decode prog_7_method_47_code 18 = .ok (.aload_n 0, 1) := by decide +kernel
theorem smd_M_access_19 : decode prog_7_method_47_code 19 = .ok (.getfield 50, 3) := by decide +kernel
theorem smd_M_access_22 : decode prog_7_method_47_code 22 = .ok (.iload_n 3, 1) := by decide +kernel
theorem smd_M_access_23 : decode prog_7_method_47_code 23 = .ok (.iload 4, 2) := by decide +kernel
theorem smd_M_access_25 : decode prog_7_method_47_code 25 = .ok (.iadd, 1) := by decide +kernel
theorem smd_M_access_26 : decode prog_7_method_47_code 26 = .ok (.iaload, 1) := by decide +kernel
theorem smd_M_access_27 : decode prog_7_method_47_code 27 = .ok (.istore 7, 2) := by decide +kernel
theorem smd_M_access_29 : decode prog_7_method_47_code 29 = .ok (.aload_n 0, 1) := by decide +kernel
theorem smd_M_access_30 : decode prog_7_method_47_code 30 = .ok (.iload 7, 2) := by decide +kernel
theorem smd_M_access_32 : decode prog_7_method_47_code 32 = .ok (.invokevirtual 110, 3) := by decide +kernel
theorem smd_M_access_35 : decode prog_7_method_47_code 35 = .ok (.ifCond .eq 17, 3) := by decide +kernel
theorem smd_M_access_38 : decode prog_7_method_47_code 38 = .ok (.aload_n 0, 1) := by decide +kernel
theorem smd_M_access_39 : decode prog_7_method_47_code 39 = .ok (.getfield 29, 3) := by decide +kernel
theorem smd_M_access_42 : decode prog_7_method_47_code 42 = .ok (.iload 7, 2) := by decide +kernel
theorem smd_M_access_44 : decode prog_7_method_47_code 44 = .ok (.iaload, 1) := by decide +kernel
theorem smd_M_access_45 : decode prog_7_method_47_code 45 = .ok (.iload 6, 2) := by decide +kernel
theorem smd_M_access_47 : decode prog_7_method_47_code 47 = .ok (.iconst 4, 1) := by decide +kernel
theorem smd_M_access_48 : decode prog_7_method_47_code 48 = .ok (.idiv, 1) := by decide +kernel
theorem smd_M_access_49 : decode prog_7_method_47_code 49 = .ok (.if_icmp .eq 9, 3) := by decide +kernel
theorem smd_M_access_52 : decode prog_7_method_47_code 52 = .ok (.aload_n 0, 1) := by decide +kernel
theorem smd_M_access_53 : decode prog_7_method_47_code 53 = .ok (.iload_n 1, 1) := by decide +kernel
theorem smd_M_access_54 : decode prog_7_method_47_code 54 = .ok (.invokevirtual 149, 3) := by decide +kernel
theorem smd_M_access_57 : decode prog_7_method_47_code 57 = .ok (.ireturn, 1) := by decide +kernel
theorem smd_M_access_58 : decode prog_7_method_47_code 58 = .ok (.iload_n 2, 1) := by decide +kernel
theorem smd_M_access_59 : decode prog_7_method_47_code 59 = .ok (.bipush 7, 2) := by decide +kernel
theorem smd_M_access_61 : decode prog_7_method_47_code 61 = .ok (.if_icmp .ne 29, 3) := by decide +kernel
theorem smd_M_access_64 : decode prog_7_method_47_code 64 = .ok (.aload_n 0, 1) := by decide +kernel
theorem smd_M_access_65 : decode prog_7_method_47_code 65 = .ok (.getfield 50, 3) := by decide +kernel
theorem smd_M_access_68 : decode prog_7_method_47_code 68 = .ok (.iload_n 3, 1) := by decide +kernel
theorem smd_M_access_69 : decode prog_7_method_47_code 69 = .ok (.iload 4, 2) := by decide +kernel
theorem smd_M_access_71 : decode prog_7_method_47_code 71 = .ok (.iadd, 1) := by decide +kernel
theorem smd_M_access_72 : decode prog_7_method_47_code 72 = .ok (.aload_n 0, 1) := by decide +kernel
theorem smd_M_access_73 : decode prog_7_method_47_code 73 = .ok (.getfield 32, 3) := by decide +kernel
theorem smd_M_access_76 : decode prog_7_method_47_code 76 = .ok (.iconst 4, 1) := by decide +kernel
theorem smd_M_access_77 : decode prog_7_method_47_code 77 = .ok (.iload 7, 2) := by decide +kernel
theorem smd_M_access_79 : decode prog_7_method_47_code 79 = .ok (.imul, 1) := by decide +kernel
theorem smd_M_access_80 : decode prog_7_method_47_code 80 = .ok (.iload 6, 2) := by decide +kernel
theorem smd_M_access_82 : decode prog_7_method_47_code 82 = .ok (.iconst 4, 1) := by decide +kernel
theorem smd_M_access_83 : decode prog_7_method_47_code 83 = .ok (.irem, 1) := by decide +kernel
theorem smd_M_access_84 : decode prog_7_method_47_code 84 = .ok (.iadd, 1) := by decide +kernel
theorem smd_M_access_85 : decode prog_7_method_47_code 85 = .ok (.iaload, 1) := by decide +kernel
theorem smd_M_access_86 : decode prog_7_method_47_code 86 = .ok (.iastore, 1) := by decide +kernel
theorem smd_M_access_87 : decode prog_7_method_47_code 87 = .ok (.goto 26, 3) := by decide +kernel
theorem smd_M_access_90 : decode prog_7_method_47_code 90 = .ok (.aload_n 0, 1) := by decide +kernel
theorem smd_M_access_91 : decode prog_7_method_47_code 91 = .ok (.getfield 32, 3) := by decide +kernel
theorem smd_M_access_94 : decode prog_7_method_47_code 94 = .ok (.iconst 4, 1) := by decide +kernel
theorem smd_M_access_95 : decode prog_7_method_47_code 95 = .ok (.iload 7, 2) := by decide +kernel
theorem smd_M_access_97 : decode prog_7_method_47_code 97 = .ok (.imul, 1) := by decide +kernel
theorem smd_M_access_98 : decode prog_7_method_47_code 98 = .ok (.iload 6, 2) := by decide +kernel
theorem smd_M_access_100 : decode prog_7_method_47_code 100 = .ok (.iconst 4, 1) := by decide +kernel
theorem smd_M_access_101 : decode prog_7_method_47_code 101 = .ok (.irem, 1) := by decide +kernel
theorem smd_M_access_102 : decode prog_7_method_47_code 102 = .ok (.iadd, 1) := by decide +kernel
theorem smd_M_access_103 : decode prog_7_method_47_code 103 = .ok (.aload_n 0, 1) := by decide +kernel
theorem smd_M_access_104 : decode prog_7_method_47_code 104 = .ok (.getfield 50, 3) := by decide +kernel
theorem smd_M_access_107 : decode prog_7_method_47_code 107 = .ok (.iload_n 3, 1) := by decide +kernel
theorem smd_M_access_108 : decode prog_7_method_47_code 108 = .ok (.iload 5, 2) := by decide +kernel
theorem smd_M_access_110 : decode prog_7_method_47_code 110 = .ok (.iadd, 1) := by decide +kernel
theorem smd_M_access_111 : decode prog_7_method_47_code 111 = .ok (.iaload, 1) := by decide +kernel
theorem smd_M_access_112 : decode prog_7_method_47_code 112 = .ok (.iastore, 1) := by decide +kernel
theorem smd_M_access_113 : decode prog_7_method_47_code 113 = .ok (.iconst 0, 1) := by decide +kernel
theorem smd_M_access_114 : decode prog_7_method_47_code 114 = .ok (.ireturn, 1) := by decide +kernel
theorem smd_M_step_0 : decode prog_7_method_48_code 0 = .ok (.aload_n 0, 1) := by decide +kernel
theorem smd_M_step_1 : decode prog_7_method_48_code 1 = .ok (.iload_n 1, 1) := by decide +kernel
theorem smd_M_step_2 : decode prog_7_method_48_code 2 = .ok (.invokevirtual 166, 3) := by decide +kernel
theorem smd_M_step_5 : decode prog_7_method_48_code 5 = .ok (.ifCond .eq 15, 3) := by decide +kernel
theorem smd_M_step_8 : decode prog_7_method_48_code 8 = .ok (.iload_n 2, 1) := by decide +kernel
theorem smd_M_step_9 : decode prog_7_method_48_code 9 = .ok (.iconst 1, 1) := by decide +kernel
theorem smd_M_step_10 : decode prog_7_method_48_code 10 = .ok (.if_icmp .lt 10, 3) := by decide +kernel
theorem smd_M_step_13 : decode prog_7_method_48_code 13 = .ok (.iload_n 2, 1) := by decide +kernel
theorem smd_M_step_14 : decode prog_7_method_48_code 14 = .ok (.sipush 200, 3) := by decide +kernel
theorem smd_M_step_17 : decode prog_7_method_48_code 17 = .ok (.if_icmp .le 5, 3) := by decide +kernel
theorem smd_M_step_20 : decode prog_7_method_48_code 20 = .ok (.iconst (-1), 1) := by decide +kernel
theorem smd_M_step_21 : decode prog_7_method_48_code 21 = .ok (.ireturn, 1) := by decide +kernel
theorem smd_M_step_22 : decode prog_7_method_48_code 22 = .ok (.aload_n 0, 1) := by decide +kernel
theorem smd_M_step_23 : decode prog_7_method_48_code 23 = .ok (.getfield 41, 3) := by decide +kernel
theorem smd_M_step_26 : decode prog_7_method_48_code 26 = .ok (.iload_n 1, 1) := by decide +kernel
theorem smd_M_step_27 : decode prog_7_method_48_code 27 = .ok (.iaload, 1) := by decide +kernel
theorem smd_M_step_28 : decode prog_7_method_48_code 28 = .ok (.iconst 1, 1) := by decide +kernel
theorem smd_M_step_29 : decode prog_7_method_48_code 29 = .ok (.if_icmp .ne 7, 3) := by decide +kernel
theorem smd_M_step_32 : decode prog_7_method_48_code 32 = .ok (.iconst 0, 1) := by decide +kernel
theorem smd_M_step_33 : decode prog_7_method_48_code 33 = .ok (.goto 9, 3) := by decide +kernel
theorem smd_M_step_36 : decode prog_7_method_48_code 36 = .ok (.aload_n 0, 1) := by decide +kernel
theorem smd_M_step_37 : decode prog_7_method_48_code 37 = .ok (.getfield 41, 3) := by decide +kernel
theorem smd_M_step_40 : decode prog_7_method_48_code 40 = .ok (.iload_n 1, 1) := by decide +kernel
theorem smd_M_step_41 : decode prog_7_method_48_code 41 = .ok (.iaload, 1) := by decide +kernel
theorem smd_M_step_42 : decode prog_7_method_48_code 42 = .ok (.istore_n 3, 1) := by decide +kernel
theorem smd_M_step_43 : decode prog_7_method_48_code 43 = .ok (.iconst 0, 1) := by decide +kernel
theorem smd_M_step_44 : decode prog_7_method_48_code 44 = .ok (.istore 4, 2) := by decide +kernel
theorem smd_M_step_46 : decode prog_7_method_48_code 46 = .ok (.iload 4, 2) := by decide +kernel
theorem smd_M_step_48 : decode prog_7_method_48_code 48 = .ok (.iload_n 2, 1) := by decide +kernel
theorem smd_M_step_49 : decode prog_7_method_48_code 49 = .ok (.if_icmp .ge 19, 3) := by decide +kernel
theorem smd_M_step_52 : decode prog_7_method_48_code 52 = .ok (.iload_n 3, 1) := by decide +kernel
theorem smd_M_step_53 : decode prog_7_method_48_code 53 = .ok (.ifCond .ne 15, 3) := by decide +kernel
theorem smd_M_step_56 : decode prog_7_method_48_code 56 = .ok (.aload_n 0, 1) := by decide +kernel
theorem smd_M_step_57 : decode prog_7_method_48_code 57 = .ok (.iload_n 1, 1) := by decide +kernel
theorem smd_M_step_58 : decode prog_7_method_48_code 58 = .ok (.invokevirtual 169, 3) := by decide +kernel
theorem smd_M_step_61 : decode prog_7_method_48_code 61 = .ok (.istore_n 3, 1) := by decide +kernel
theorem smd_M_step_62 : decode prog_7_method_48_code 62 = .ok (.iinc 4 1, 3) := by decide +kernel
theorem smd_M_step_65 : decode prog_7_method_48_code 65 = .ok (.goto (-19), 3) := by decide +kernel
theorem smd_M_step_68 : decode prog_7_method_48_code 68 = .ok (.aload_n 0, 1) := by decide +kernel
theorem smd_M_step_69 : decode prog_7_method_48_code 69 = .ok (.getfield 41, 3) := by decide +kernel
theorem smd_M_step_72 : decode prog_7_method_48_code 72 = .ok (.iload_n 1, 1) := by decide +kernel
theorem smd_M_step_73 : decode prog_7_method_48_code 73 = .ok (.iload_n 3, 1) := by decide +kernel
theorem smd_M_step_74 : decode prog_7_method_48_code 74 = .ok (.iastore, 1) := by decide +kernel
theorem smd_M_step_75 : decode prog_7_method_48_code 75 = .ok (.iload_n 3, 1) := by decide +kernel
theorem smd_M_step_76 : decode prog_7_method_48_code 76 = .ok (.ireturn, 1) := by decide +kernel
theorem smd_M_send_0 : decode prog_7_method_49_code 0 = .ok (.aload_n 0, 1) := by decide +kernel
theorem smd_M_send_1 : decode prog_7_method_49_code 1 = .ok (.iload_n 1, 1) := by decide +kernel
theorem smd_M_send_2 : decode prog_7_method_49_code 2 = .ok (.invokevirtual 166, 3) := by decide +kernel
theorem smd_M_send_5 : decode prog_7_method_49_code 5 = .ok (.ifCond .ne 5, 3) := by decide +kernel
theorem smd_M_send_8 : decode prog_7_method_49_code 8 = .ok (.iconst (-1), 1) := by decide +kernel
theorem smd_M_send_9 : decode prog_7_method_49_code 9 = .ok (.ireturn, 1) := by decide +kernel
theorem smd_M_send_10 : decode prog_7_method_49_code 10 = .ok (.aload_n 0, 1) := by decide +kernel
theorem smd_M_send_11 : decode prog_7_method_49_code 11 = .ok (.getfield 41, 3) := by decide +kernel
theorem smd_M_send_14 : decode prog_7_method_49_code 14 = .ok (.iload_n 1, 1) := by decide +kernel
theorem smd_M_send_15 : decode prog_7_method_49_code 15 = .ok (.iaload, 1) := by decide +kernel
theorem smd_M_send_16 : decode prog_7_method_49_code 16 = .ok (.iconst 1, 1) := by decide +kernel
theorem smd_M_send_17 : decode prog_7_method_49_code 17 = .ok (.if_icmp .le 6, 3) := by decide +kernel
theorem smd_M_send_20 : decode prog_7_method_49_code 20 = .ok (.bipush (-2), 2) := by decide +kernel
theorem smd_M_send_22 : decode prog_7_method_49_code 22 = .ok (.ireturn, 1) := by decide +kernel
theorem smd_M_send_23 : decode prog_7_method_49_code 23 = .ok (.aload_n 0, 1) := by decide +kernel
theorem smd_M_send_24 : decode prog_7_method_49_code 24 = .ok (.getfield 53, 3) := by decide +kernel
theorem smd_M_send_27 : decode prog_7_method_49_code 27 = .ok (.iload_n 1, 1) := by decide +kernel
theorem smd_M_send_28 : decode prog_7_method_49_code 28 = .ok (.iaload, 1) := by decide +kernel
theorem smd_M_send_29 : decode prog_7_method_49_code 29 = .ok (.bipush 8, 2) := by decide +kernel
theorem smd_M_send_31 : decode prog_7_method_49_code 31 = .ok (.if_icmp .ne 6, 3) := by decide +kernel
theorem smd_M_send_34 : decode prog_7_method_49_code 34 = .ok (.bipush (-3), 2) := by decide +kernel
theorem smd_M_send_36 : decode prog_7_method_49_code 36 = .ok (.ireturn, 1) := by decide +kernel
theorem smd_M_send_37 : decode prog_7_method_49_code 37 = .ok (.aload_n 0, 1) := by decide +kernel
theorem smd_M_send_38 : decode prog_7_method_49_code 38 = .ok (.getfield 56, 3) := by decide +kernel
theorem smd_M_send_41 : decode prog_7_method_49_code 41 = .ok (.bipush 8, 2) := by decide +kernel
theorem smd_M_send_43 : decode prog_7_method_49_code 43 = .ok (.iload_n 1, 1) := by decide +kernel
theorem smd_M_send_44 : decode prog_7_method_49_code 44 = .ok (.imul, 1) := by decide +kernel
theorem smd_M_send_45 : decode prog_7_method_49_code 45 = .ok (.aload_n 0, 1) := by decide +kernel
theorem smd_M_send_46 : decode prog_7_method_49_code 46 = .ok (.getfield 53, 3) := by decide +kernel
theorem smd_M_send_49 : decode prog_7_method_49_code 49 = .ok (.iload_n 1, 1) := by decide +kernel
theorem smd_M_send_50 : decode prog_7_method_49_code 50 = .ok (.iaload, 1) := by decide +kernel
theorem smd_M_send_51 : decode prog_7_method_49_code 51 = .ok (.iadd, 1) := by decide +kernel
theorem smd_M_send_52 : decode prog_7_method_49_code 52 = .ok (.iload_n 2, 1) := by decide +kernel
theorem smd_M_send_53 : decode prog_7_method_49_code 53 = .ok (.iastore, 1) := by decide +kernel
theorem smd_M_send_54 : decode prog_7_method_49_code 54 = .ok (.aload_n 0, 1) := by decide +kernel
theorem smd_M_send_55 : decode prog_7_method_49_code 55 = .ok (.getfield 53, 3) := by decide +kernel
theorem smd_M_send_58 : decode prog_7_method_49_code 58 = .ok (.iload_n 1, 1) := by decide +kernel
theorem smd_M_send_59 : decode prog_7_method_49_code 59 = .ok (.dup2, 1) := by decide +kernel
theorem smd_M_send_60 : decode prog_7_method_49_code 60 = .ok (.iaload, 1) := by decide +kernel
theorem smd_M_send_61 : decode prog_7_method_49_code 61 = .ok (.iconst 1, 1) := by decide +kernel
theorem smd_M_send_62 : decode prog_7_method_49_code 62 = .ok (.iadd, 1) := by decide +kernel
theorem smd_M_send_63 : decode prog_7_method_49_code 63 = .ok (.iastore, 1) := by decide +kernel
theorem smd_M_send_64 : decode prog_7_method_49_code 64 = .ok (.aload_n 0, 1) := by decide +kernel
theorem smd_M_send_65 : decode prog_7_method_49_code 65 = .ok (.getfield 53, 3) := by decide +kernel
theorem smd_M_send_68 : decode prog_7_method_49_code 68 = .ok (.iload_n 1, 1) := by decide +kernel
theorem smd_M_send_69 : decode prog_7_method_49_code 69 = .ok (.iaload, 1) := by decide +kernel
theorem smd_M_send_70 : decode prog_7_method_49_code 70 = .ok (.ireturn, 1) := by decide +kernel
theorem smd_M_state_0 : decode prog_7_method_50_code 0 = .ok (.aload_n 0, 1) := by decide +kernel
theorem smd_M_state_1 : decode prog_7_method_50_code 1 = .ok (.iload_n 1, 1) := by decide +kernel
theorem smd_M_state_2 : decode prog_7_method_50_code 2 = .ok (.invokevirtual 166, 3) := by decide +kernel
theorem smd_M_state_5 : decode prog_7_method_50_code 5 = .ok (.ifCond .eq 12, 3) := by decide +kernel
theorem smd_M_state_8 : decode prog_7_method_50_code 8 = .ok (.aload_n 0, 1) := by decide +kernel
theorem smd_M_state_9 : decode prog_7_method_50_code 9 = .ok (.getfield 41, 3) := by decide +kernel
theorem smd_M_state_12 : decode prog_7_method_50_code 12 = .ok (.iload_n 1, 1) := by decide +kernel
theorem smd_M_state_13 : decode prog_7_method_50_code 13 = .ok (.iaload, 1) := by decide +kernel
theorem smd_M_state_14 : decode prog_7_method_50_code 14 = .ok (.goto 4, 3) := by decide +kernel
theorem smd_M_state_17 : decode prog_7_method_50_code 17 = .ok (.iconst (-1), 1) := by decide +kernel
theorem smd_M_state_18 : decode prog_7_method_50_code 18 = .ok (.ireturn, 1) := by decide +kernel
theorem smd_M_result_0 : decode prog_7_method_51_code 0 = .ok (.aload_n 0, 1) := by decide +kernel
theorem smd_M_result_1 : decode prog_7_method_51_code 1 = .ok (.iload_n 1, 1) := by decide +kernel
theorem smd_M_result_2 : decode prog_7_method_51_code 2 = .ok (.invokevirtual 166, 3) := by decide +kernel
theorem smd_M_result_5 : decode prog_7_method_51_code 5 = .ok (.ifCond .eq 12, 3) := by decide +kernel
theorem smd_M_result_8 : decode prog_7_method_51_code 8 = .ok (.aload_n 0, 1) := by decide +kernel
theorem smd_M_result_9 : decode prog_7_method_51_code 9 = .ok (.getfield 44, 3) := by decide +kernel
theorem smd_M_result_12 : decode prog_7_method_51_code 12 = .ok (.iload_n 1, 1) := by decide +kernel
theorem smd_M_result_13 : decode prog_7_method_51_code 13 = .ok (.iaload, 1) := by decide +kernel
theorem smd_M_result_14 : decode prog_7_method_51_code 14 = .ok (.goto 4, 3) := by decide +kernel
theorem smd_M_result_17 : decode prog_7_method_51_code 17 = .ok (.iconst 0, 1) := by decide +kernel
theorem smd_M_result_18 : decode prog_7_method_51_code 18 = .ok (.ireturn, 1) := by decide +kernel
theorem smd_M_frames_0 : decode prog_7_method_52_code 0 = .ok (.aload_n 0, 1) := by decide +kernel
theorem smd_M_frames_1 : decode prog_7_method_52_code 1 = .ok (.iload_n 1, 1) := by decide +kernel
theorem smd_M_frames_2 : decode prog_7_method_52_code 2 = .ok (.invokevirtual 166, 3) := by decide +kernel
theorem smd_M_frames_5 : decode prog_7_method_52_code 5 = .ok (.ifCond .eq 12, 3) := by decide +kernel
theorem smd_M_frames_8 : decode prog_7_method_52_code 8 = .ok (.aload_n 0, 1) := by decide +kernel
theorem smd_M_frames_9 : decode prog_7_method_52_code 9 = .ok (.getfield 47, 3) := by decide +kernel
theorem smd_M_frames_12 : decode prog_7_method_52_code 12 = .ok (.iload_n 1, 1) := by decide +kernel
theorem smd_M_frames_13 : decode prog_7_method_52_code 13 = .ok (.iaload, 1) := by decide +kernel
theorem smd_M_frames_14 : decode prog_7_method_52_code 14 = .ok (.goto 4, 3) := by decide +kernel
theorem smd_M_frames_17 : decode prog_7_method_52_code 17 = .ok (.iconst (-1), 1) := by decide +kernel
theorem smd_M_frames_18 : decode prog_7_method_52_code 18 = .ok (.ireturn, 1) := by decide +kernel
theorem smd_M_frame_0 : decode prog_7_method_53_code 0 = .ok (.aload_n 0, 1) := by decide +kernel
theorem smd_M_frame_1 : decode prog_7_method_53_code 1 = .ok (.iload_n 1, 1) := by decide +kernel
theorem smd_M_frame_2 : decode prog_7_method_53_code 2 = .ok (.invokevirtual 166, 3) := by decide +kernel
theorem smd_M_frame_5 : decode prog_7_method_53_code 5 = .ok (.ifCond .eq 41, 3) := by decide +kernel
theorem smd_M_frame_8 : decode prog_7_method_53_code 8 = .ok (.iload_n 2, 1) := by decide +kernel
theorem smd_M_frame_9 : decode prog_7_method_53_code 9 = .ok (.ifCond .lt 37, 3) := by decide +kernel
theorem smd_M_frame_12 : decode prog_7_method_53_code 12 = .ok (.iload_n 2, 1) := by decide +kernel
theorem smd_M_frame_13 : decode prog_7_method_53_code 13 = .ok (.aload_n 0, 1) := by decide +kernel
theorem smd_M_frame_14 : decode prog_7_method_53_code 14 = .ok (.getfield 47, 3) := by decide +kernel
theorem smd_M_frame_17 : decode prog_7_method_53_code 17 = .ok (.iload_n 1, 1) := by decide +kernel
theorem smd_M_frame_18 : decode prog_7_method_53_code 18 = .ok (.iaload, 1) := by decide +kernel
theorem smd_M_frame_19 : decode prog_7_method_53_code 19 = .ok (.if_icmp .ge 27, 3) := by decide +kernel
theorem smd_M_frame_22 : decode prog_7_method_53_code 22 = .ok (.iload_n 3, 1) := by decide +kernel
theorem smd_M_frame_23 : decode prog_7_method_53_code 23 = .ok (.ifCond .lt 23, 3) := by decide +kernel
theorem smd_M_frame_26 : decode prog_7_method_53_code 26 = .ok (.iload_n 3, 1) := by decide +kernel
theorem smd_M_frame_27 : decode prog_7_method_53_code 27 = .ok (.iconst 5, 1) := by decide +kernel
theorem smd_M_frame_28 : decode prog_7_method_53_code 28 = .ok (.if_icmp .ge 18, 3) := by decide +kernel
theorem smd_M_frame_31 : decode prog_7_method_53_code 31 = .ok (.aload_n 0, 1) := by decide +kernel
theorem smd_M_frame_32 : decode prog_7_method_53_code 32 = .ok (.getfield 50, 3) := by decide +kernel
theorem smd_M_frame_35 : decode prog_7_method_53_code 35 = .ok (.iload_n 1, 1) := by decide +kernel
theorem smd_M_frame_36 : decode prog_7_method_53_code 36 = .ok (.iload_n 2, 1) := by decide +kernel
theorem smd_M_frame_37 : decode prog_7_method_53_code 37 = .ok (.invokestatic 96, 3) := by decide +kernel
theorem smd_M_frame_40 : decode prog_7_method_53_code 40 = .ok (.iload_n 3, 1) := by decide +kernel
theorem smd_M_frame_41 : decode prog_7_method_53_code 41 = .ok (.iadd, 1) := by decide +kernel
theorem smd_M_frame_42 : decode prog_7_method_53_code 42 = .ok (.iaload, 1) := by decide +kernel
theorem smd_M_frame_43 : decode prog_7_method_53_code 43 = .ok (.goto 4, 3) := by decide +kernel
theorem smd_M_frame_46 : decode prog_7_method_53_code 46 = .ok (.iconst (-1), 1) := by decide +kernel
theorem smd_M_frame_47 : decode prog_7_method_53_code 47 = .ok (.ireturn, 1) := by decide +kernel
theorem smd_M_global_0 : decode prog_7_method_54_code 0 = .ok (.iload_n 1, 1) := by decide +kernel
theorem smd_M_global_1 : decode prog_7_method_54_code 1 = .ok (.ifCond .lt 17, 3) := by decide +kernel
theorem smd_M_global_4 : decode prog_7_method_54_code 4 = .ok (.iload_n 1, 1) := by decide +kernel
theorem smd_M_global_5 : decode prog_7_method_54_code 5 = .ok (.iconst 4, 1) := by decide +kernel
theorem smd_M_global_6 : decode prog_7_method_54_code 6 = .ok (.if_icmp .ge 12, 3) := by decide +kernel
theorem smd_M_global_9 : decode prog_7_method_54_code 9 = .ok (.aload_n 0, 1) := by decide +kernel
theorem smd_M_global_10 : decode prog_7_method_54_code 10 = .ok (.getfield 26, 3) := by decide +kernel
theorem smd_M_global_13 : decode prog_7_method_54_code 13 = .ok (.iload_n 1, 1) := by decide +kernel
theorem smd_M_global_14 : decode prog_7_method_54_code 14 = .ok (.iaload, 1) := by decide +kernel
theorem smd_M_global_15 : decode prog_7_method_54_code 15 = .ok (.goto 4, 3) := by decide +kernel
theorem smd_M_global_18 : decode prog_7_method_54_code 18 = .ok (.iconst 0, 1) := by decide +kernel
theorem smd_M_global_19 : decode prog_7_method_54_code 19 = .ok (.ireturn, 1) := by decide +kernel
theorem smd_H_init_0 : decode prog_2_method_1_code 0 = .ok (.aload_n 0, 1) := by decide +kernel
theorem smd_H_init_1 : decode prog_2_method_1_code 1 = .ok (.invokespecial 3, 3) := by decide +kernel
theorem smd_H_init_4 : decode prog_2_method_1_code 4 = .ok (.aload_n 0, 1) := by decide +kernel
theorem smd_H_init_5 : decode prog_2_method_1_code 5 = .ok (.bipush 17, 2) := by decide +kernel
theorem smd_H_init_7 : decode prog_2_method_1_code 7 = .ok (.newarray .int, 2) := by decide +kernel
theorem smd_H_init_9 : decode prog_2_method_1_code 9 = .ok (.putfield 9, 3) := by decide +kernel
theorem smd_H_init_12 : decode prog_2_method_1_code 12 = .ok (.aload_n 0, 1) := by decide +kernel
theorem smd_H_init_13 : decode prog_2_method_1_code 13 = .ok (.bipush 68, 2) := by decide +kernel
theorem smd_H_init_15 : decode prog_2_method_1_code 15 = .ok (.newarray .int, 2) := by decide +kernel
theorem smd_H_init_17 : decode prog_2_method_1_code 17 = .ok (.putfield 15, 3) := by decide +kernel
theorem smd_H_init_20 : decode prog_2_method_1_code 20 = .ok (.aload_n 0, 1) := by decide +kernel
theorem smd_H_init_21 : decode prog_2_method_1_code 21 = .ok (.bipush 68, 2) := by decide +kernel
theorem smd_H_init_23 : decode prog_2_method_1_code 23 = .ok (.newarray .int, 2) := by decide +kernel
theorem smd_H_init_25 : decode prog_2_method_1_code 25 = .ok (.putfield 18, 3) := by decide +kernel
theorem smd_H_init_28 : decode prog_2_method_1_code 28 = .ok (.aload_n 0, 1) := by decide +kernel
theorem smd_H_init_29 : decode prog_2_method_1_code 29 = .ok (.bipush 17, 2) := by decide +kernel
theorem smd_H_init_31 : decode prog_2_method_1_code 31 = .ok (.newarray .boolean, 2) := by decide +kernel
theorem smd_H_init_33 : decode prog_2_method_1_code 33 = .ok (.putfield 21, 3) := by decide +kernel
theorem smd_H_init_36 : decode prog_2_method_1_code 36 = .ok (.aload_n 0, 1) := by decide +kernel
theorem smd_H_init_37 : decode prog_2_method_1_code 37 = .ok (.bipush 16, 2) := by decide +kernel
theorem smd_H_init_39 : decode prog_2_method_1_code 39 = .ok (.newarray .int, 2) := by decide +kernel
theorem smd_H_init_41 : decode prog_2_method_1_code 41 = .ok (.putfield 25, 3) := by decide +kernel
theorem smd_H_init_44 : decode prog_2_method_1_code 44 = .ok (.iconst 0, 1) := by decide +kernel
theorem smd_H_init_45 : decode prog_2_method_1_code 45 = .ok (.istore_n 1, 1) := by decide +kernel
theorem smd_H_init_46 : decode prog_2_method_1_code 46 = .ok (.iload_n 1, 1) := by decide +kernel
theorem smd_H_init_47 : decode prog_2_method_1_code 47 = .ok (.bipush 16, 2) := by decide +kernel
theorem smd_H_init_49 : decode prog_2_method_1_code 49 = .ok (.if_icmp .gt 16, 3) := by decide +kernel
theorem smd_H_init_52 : decode prog_2_method_1_code 52 = .ok (.aload_n 0, 1) := by decide +kernel
theorem smd_H_init_53 : decode prog_2_method_1_code 53 = .ok (.getfield 9, 3) := by decide +kernel
theorem smd_H_init_56 : decode prog_2_method_1_code 56 = .ok (.iload_n 1, 1) := by decide +kernel
theorem smd_H_init_57 : decode prog_2_method_1_code 57 = .ok (.iconst (-1), 1) := by decide +kernel
theorem smd_H_init_58 : decode prog_2_method_1_code 58 = .ok (.iastore, 1) := by decide +kernel
theorem smd_H_init_59 : decode prog_2_method_1_code 59 = .ok (.iinc 1 1, 3) := by decide +kernel
theorem smd_H_init_62 : decode prog_2_method_1_code 62 = .ok (.goto (-16), 3) := by decide +kernel
theorem smd_H_init_65 : decode prog_2_method_1_code 65 = .ok (.return_, 1) := by decide +kernel
theorem smd_H_has_0 : decode prog_2_method_2_code 0 = .ok (.iload_n 1, 1) := by decide +kernel
theorem smd_H_has_1 : decode prog_2_method_2_code 1 = .ok (.iconst 1, 1) := by decide +kernel
theorem smd_H_has_2 : decode prog_2_method_2_code 2 = .ok (.if_icmp .lt 23, 3) := by decide +kernel
theorem smd_H_has_5 : decode prog_2_method_2_code 5 = .ok (.iload_n 1, 1) := by decide +kernel
theorem smd_H_has_6 : decode prog_2_method_2_code 6 = .ok (.bipush 16, 2) := by decide +kernel
theorem smd_H_has_8 : decode prog_2_method_2_code 8 = .ok (.if_icmp .gt 17, 3) := by decide +kernel
theorem smd_H_has_11 : decode prog_2_method_2_code 11 = .ok (.aload_n 0, 1) := by decide +kernel
theorem smd_H_has_12 : decode prog_2_method_2_code 12 = .ok (.getfield 9, 3) := by decide +kernel
theorem smd_H_has_15 : decode prog_2_method_2_code 15 = .ok (.iload_n 1, 1) := by decide +kernel
theorem smd_H_has_16 : decode prog_2_method_2_code 16 = .ok (.iaload, 1) := by decide +kernel
theorem smd_H_has_17 : decode prog_2_method_2_code 17 = .ok (.iconst (-1), 1) := by decide +kernel
theorem smd_H_has_18 : decode prog_2_method_2_code 18 = .ok (.if_icmp .eq 7, 3) := by decide +kernel
theorem smd_H_has_21 : decode prog_2_method_2_code 21 = .ok (.iconst 1, 1) := by decide +kernel
theorem smd_H_has_22 : decode prog_2_method_2_code 22 = .ok (.goto 4, 3) := by decide +kernel
theorem smd_H_has_25 : decode prog_2_method_2_code 25 = .ok (.iconst 0, 1) := by decide +kernel
theorem smd_H_has_26 : decode prog_2_method_2_code 26 = .ok (.ireturn, 1) := by decide +kernel
end
section
theorem smd_H_count_0 : decode prog_2_method_3_code 0 = .ok (.iconst 0, 1) := by decide +kernel
theorem smd_H_count_1 : decode prog_2_method_3_code 1 = .ok (.istore_n 1, 1) := by decide +kernel
theorem smd_H_count_2 : decode prog_2_method_3_code 2 = .ok (.iconst 1, 1) := by decide +kernel
theorem smd_H_count_3 : decode prog_2_method_3_code 3 = .ok (.istore_n 2, 1) := by decide +kernel
theorem smd_H_count_4 : decode prog_2_method_3_code 4 = .ok (.iload_n 2, 1) := by decide +kernel
theorem smd_H_count_5 : decode prog_2_method_3_code 5 = .ok (.bipush 16, 2) := by decide +kernel
theorem smd_H_count_7 : decode prog_2_method_3_code 7 = .ok (.if_icmp .gt 25, 3) := by decide +kernel
theorem smd_H_count_10 : decode prog_2_method_3_code 10 = .ok (.iload_n 1, 1) := by decide +kernel
theorem smd_H_count_11 : decode prog_2_method_3_code 11 = .ok (.aload_n 0, 1) := by decide +kernel
theorem smd_H_count_12 : decode prog_2_method_3_code 12 = .ok (.iload_n 2, 1) := by decide +kernel
theorem smd_H_count_13 : decode prog_2_method_3_code 13 = .ok (.invokevirtual 28, 3) := by decide +kernel
theorem smd_H_count_16 : decode prog_2_method_3_code 16 = .ok (.ifCond .eq 7, 3) := by decide +kernel
theorem smd_H_count_19 : decode prog_2_method_3_code 19 = .ok (.iconst 1, 1) := by decide +kernel
theorem smd_H_count_20 : decode prog_2_method_3_code 20 = .ok (.goto 4, 3) := by decide +kernel
theorem smd_H_count_23 : decode prog_2_method_3_code 23 = .ok (.iconst 0, 1) := by decide +kernel
theorem smd_H_count_24 : decode prog_2_method_3_code 24 = .ok (.iadd, 1) := by decide +kernel
theorem smd_H_count_25 : decode prog_2_method_3_code 25 = .ok (.istore_n 1, 1) := by decide +kernel
theorem smd_H_count_26 : decode prog_2_method_3_code 26 = .ok (.iinc 2 1, 3) := by decide +kernel
theorem smd_H_count_29 : decode prog_2_method_3_code 29 = .ok (.goto (-25), 3) := by decide +kernel
theorem smd_H_count_32 : decode prog_2_method_3_code 32 = .ok (.iload_n 1, 1) := by decide +kernel
theorem smd_H_count_33 : decode prog_2_method_3_code 33 = .ok (.ireturn, 1) := by decide +kernel
theorem smd_H_leastFree_0 : decode prog_2_method_4_code 0 = .ok (.iconst 1, 1) := by decide +kernel
theorem smd_H_leastFree_1 : decode prog_2_method_4_code 1 = .ok (.istore_n 1, 1) := by decide +kernel
theorem smd_H_leastFree_2 : decode prog_2_method_4_code 2 = .ok (.iload_n 1, 1) := by decide +kernel
theorem smd_H_leastFree_3 : decode prog_2_method_4_code 3 = .ok (.bipush 16, 2) := by decide +kernel
theorem smd_H_leastFree_5 : decode prog_2_method_4_code 5 = .ok (.if_icmp .gt 19, 3) := by decide +kernel
theorem smd_H_leastFree_8 : decode prog_2_method_4_code 8 = .ok (.aload_n 0, 1) := by decide +kernel
theorem smd_H_leastFree_9 : decode prog_2_method_4_code 9 = .ok (.iload_n 1, 1) := by decide +kernel
theorem smd_H_leastFree_10 : decode prog_2_method_4_code 10 = .ok (.invokevirtual 28, 3) := by decide +kernel
theorem smd_H_leastFree_13 : decode prog_2_method_4_code 13 = .ok (.ifCond .ne 5, 3) := by decide +kernel
theorem smd_H_leastFree_16 : decode prog_2_method_4_code 16 = .ok (.iload_n 1, 1) := by decide +kernel
theorem smd_H_leastFree_17 : decode prog_2_method_4_code 17 = .ok (.ireturn, 1) := by decide +kernel
theorem smd_H_leastFree_18 : decode prog_2_method_4_code 18 = .ok (.iinc 1 1, 3) := by decide +kernel
theorem smd_H_leastFree_21 : decode prog_2_method_4_code 21 = .ok (.goto (-19), 3) := by decide +kernel
theorem smd_H_leastFree_24 : decode prog_2_method_4_code 24 = .ok (.iconst (-1), 1) := by decide +kernel
theorem smd_H_leastFree_25 : decode prog_2_method_4_code 25 = .ok (.ireturn, 1) := by decide +kernel
theorem smd_H_begin_0 : decode prog_2_method_5_code 0 = .ok (.aload_n 0, 1) := by decide +kernel
theorem smd_H_begin_1 : decode prog_2_method_5_code 1 = .ok (.getfield 9, 3) := by decide +kernel
theorem smd_H_begin_4 : decode prog_2_method_5_code 4 = .ok (.iload_n 1, 1) := by decide +kernel
theorem smd_H_begin_5 : decode prog_2_method_5_code 5 = .ok (.iload_n 2, 1) := by decide +kernel
theorem smd_H_begin_6 : decode prog_2_method_5_code 6 = .ok (.iastore, 1) := by decide +kernel
theorem smd_H_begin_7 : decode prog_2_method_5_code 7 = .ok (.iconst 0, 1) := by decide +kernel
theorem smd_H_begin_8 : decode prog_2_method_5_code 8 = .ok (.istore_n 3, 1) := by decide +kernel
theorem smd_H_begin_9 : decode prog_2_method_5_code 9 = .ok (.iload_n 3, 1) := by decide +kernel
theorem smd_H_begin_10 : decode prog_2_method_5_code 10 = .ok (.iconst 4, 1) := by decide +kernel
theorem smd_H_begin_11 : decode prog_2_method_5_code 11 = .ok (.if_icmp .ge 20, 3) := by decide +kernel
theorem smd_H_begin_14 : decode prog_2_method_5_code 14 = .ok (.aload_n 0, 1) := by decide +kernel
theorem smd_H_begin_15 : decode prog_2_method_5_code 15 = .ok (.getfield 15, 3) := by decide +kernel
theorem smd_H_begin_18 : decode prog_2_method_5_code 18 = .ok (.iload_n 1, 1) := by decide +kernel
theorem smd_H_begin_19 : decode prog_2_method_5_code 19 = .ok (.iconst 4, 1) := by decide +kernel
theorem smd_H_begin_20 : decode prog_2_method_5_code 20 = .ok (.imul, 1) := by decide +kernel
theorem smd_H_begin_21 : decode prog_2_method_5_code 21 = .ok (.iload_n 3, 1) := by decide +kernel
theorem smd_H_begin_22 : decode prog_2_method_5_code 22 = .ok (.iadd, 1) := by decide +kernel
theorem smd_H_begin_23 : decode prog_2_method_5_code 23 = .ok (.iconst 0, 1) := by decide +kernel
theorem smd_H_begin_24 : decode prog_2_method_5_code 24 = .ok (.iastore, 1) := by decide +kernel
theorem smd_H_begin_25 : decode prog_2_method_5_code 25 = .ok (.iinc 3 1, 3) := by decide +kernel
theorem smd_H_begin_28 : decode prog_2_method_5_code 28 = .ok (.goto (-19), 3) := by decide +kernel
theorem smd_H_begin_31 : decode prog_2_method_5_code 31 = .ok (.return_, 1) := by decide +kernel
theorem smd_H_cellOf_0 : decode prog_2_method_6_code 0 = .ok (.aload_n 0, 1) := by decide +kernel
theorem smd_H_cellOf_1 : decode prog_2_method_6_code 1 = .ok (.iload_n 1, 1) := by decide +kernel
theorem smd_H_cellOf_2 : decode prog_2_method_6_code 2 = .ok (.invokevirtual 28, 3) := by decide +kernel
theorem smd_H_cellOf_5 : decode prog_2_method_6_code 5 = .ok (.ifCond .eq 25, 3) := by decide +kernel
theorem smd_H_cellOf_8 : decode prog_2_method_6_code 8 = .ok (.aload_n 0, 1) := by decide +kernel
theorem smd_H_cellOf_9 : decode prog_2_method_6_code 9 = .ok (.getfield 9, 3) := by decide +kernel
theorem smd_H_cellOf_12 : decode prog_2_method_6_code 12 = .ok (.iload_n 1, 1) := by decide +kernel
theorem smd_H_cellOf_13 : decode prog_2_method_6_code 13 = .ok (.iaload, 1) := by decide +kernel
theorem smd_H_cellOf_14 : decode prog_2_method_6_code 14 = .ok (.iload_n 2, 1) := by decide +kernel
theorem smd_H_cellOf_15 : decode prog_2_method_6_code 15 = .ok (.iconst 4, 1) := by decide +kernel
theorem smd_H_cellOf_16 : decode prog_2_method_6_code 16 = .ok (.idiv, 1) := by decide +kernel
theorem smd_H_cellOf_17 : decode prog_2_method_6_code 17 = .ok (.if_icmp .ne 13, 3) := by decide +kernel
theorem smd_H_cellOf_20 : decode prog_2_method_6_code 20 = .ok (.iload_n 1, 1) := by decide +kernel
theorem smd_H_cellOf_21 : decode prog_2_method_6_code 21 = .ok (.iconst 4, 1) := by decide +kernel
theorem smd_H_cellOf_22 : decode prog_2_method_6_code 22 = .ok (.imul, 1) := by decide +kernel
theorem smd_H_cellOf_23 : decode prog_2_method_6_code 23 = .ok (.iload_n 2, 1) := by decide +kernel
theorem smd_H_cellOf_24 : decode prog_2_method_6_code 24 = .ok (.iconst 4, 1) := by decide +kernel
theorem smd_H_cellOf_25 : decode prog_2_method_6_code 25 = .ok (.irem, 1) := by decide +kernel
theorem smd_H_cellOf_26 : decode prog_2_method_6_code 26 = .ok (.iadd, 1) := by decide +kernel
theorem smd_H_cellOf_27 : decode prog_2_method_6_code 27 = .ok (.goto 4, 3) := by decide +kernel
theorem smd_H_cellOf_30 : decode prog_2_method_6_code 30 = .ok (.iconst (-1), 1) := by decide +kernel
theorem smd_H_cellOf_31 : decode prog_2_method_6_code 31 = .ok (.ireturn, 1) := by decide +kernel
theorem smd_H_unmarkAll_0 : decode prog_2_method_7_code 0 = .ok (.aload_n 0, 1) := by decide +kernel
theorem smd_H_unmarkAll_1 : decode prog_2_method_7_code 1 = .ok (.iconst 0, 1) := by decide +kernel
theorem smd_H_unmarkAll_2 : decode prog_2_method_7_code 2 = .ok (.putfield 32, 3) := by decide +kernel
theorem smd_H_unmarkAll_5 : decode prog_2_method_7_code 5 = .ok (.iconst 0, 1) := by decide +kernel
theorem smd_H_unmarkAll_6 : decode prog_2_method_7_code 6 = .ok (.istore_n 1, 1) := by decide +kernel
theorem smd_H_unmarkAll_7 : decode prog_2_method_7_code 7 = .ok (.iload_n 1, 1) := by decide +kernel
theorem smd_H_unmarkAll_8 : decode prog_2_method_7_code 8 = .ok (.bipush 16, 2) := by decide +kernel
theorem smd_H_unmarkAll_10 : decode prog_2_method_7_code 10 = .ok (.if_icmp .gt 16, 3) := by decide +kernel
theorem smd_H_unmarkAll_13 : decode prog_2_method_7_code 13 = .ok (.aload_n 0, 1) := by decide +kernel
theorem smd_H_unmarkAll_14 : decode prog_2_method_7_code 14 = .ok (.getfield 21, 3) := by decide +kernel
theorem smd_H_unmarkAll_17 : decode prog_2_method_7_code 17 = .ok (.iload_n 1, 1) := by decide +kernel
theorem smd_H_unmarkAll_18 : decode prog_2_method_7_code 18 = .ok (.iconst 0, 1) := by decide +kernel
theorem smd_H_unmarkAll_19 : decode prog_2_method_7_code 19 = .ok (.bastore, 1) := by decide +kernel
theorem smd_H_unmarkAll_20 : decode prog_2_method_7_code 20 = .ok (.iinc 1 1, 3) := by decide +kernel
theorem smd_H_unmarkAll_23 : decode prog_2_method_7_code 23 = .ok (.goto (-16), 3) := by decide +kernel
theorem smd_H_unmarkAll_26 : decode prog_2_method_7_code 26 = .ok (.return_, 1) := by decide +kernel
theorem smd_H_mark_0 : decode prog_2_method_8_code 0 = .ok (.aload_n 0, 1) := by decide +kernel
theorem smd_H_mark_1 : decode prog_2_method_8_code 1 = .ok (.iload_n 1, 1) := by decide +kernel
theorem smd_H_mark_2 : decode prog_2_method_8_code 2 = .ok (.invokevirtual 28, 3) := by decide +kernel
theorem smd_H_mark_5 : decode prog_2_method_8_code 5 = .ok (.ifCond .eq 39, 3) := by decide +kernel
theorem smd_H_mark_8 : decode prog_2_method_8_code 8 = .ok (.aload_n 0, 1) := by decide +kernel
theorem smd_H_mark_9 : decode prog_2_method_8_code 9 = .ok (.getfield 21, 3) := by decide +kernel
theorem smd_H_mark_12 : decode prog_2_method_8_code 12 = .ok (.iload_n 1, 1) := by decide +kernel
theorem smd_H_mark_13 : decode prog_2_method_8_code 13 = .ok (.baload, 1) := by decide +kernel
theorem smd_H_mark_14 : decode prog_2_method_8_code 14 = .ok (.ifCond .ne 30, 3) := by decide +kernel
theorem smd_H_mark_17 : decode prog_2_method_8_code 17 = .ok (.aload_n 0, 1) := by decide +kernel
theorem smd_H_mark_18 : decode prog_2_method_8_code 18 = .ok (.getfield 21, 3) := by decide +kernel
theorem smd_H_mark_21 : decode prog_2_method_8_code 21 = .ok (.iload_n 1, 1) := by decide +kernel
theorem smd_H_mark_22 : decode prog_2_method_8_code 22 = .ok (.iconst 1, 1) := by decide +kernel
theorem smd_H_mark_23 : decode prog_2_method_8_code 23 = .ok (.bastore, 1) := by decide +kernel
theorem smd_H_mark_24 : decode prog_2_method_8_code 24 = .ok (.aload_n 0, 1) := by decide +kernel
theorem smd_H_mark_25 : decode prog_2_method_8_code 25 = .ok (.getfield 25, 3) := by decide +kernel
theorem smd_H_mark_28 : decode prog_2_method_8_code 28 = .ok (.aload_n 0, 1) := by decide +kernel
theorem smd_H_mark_29 : decode prog_2_method_8_code 29 = .ok (.getfield 32, 3) := by decide +kernel
theorem smd_H_mark_32 : decode prog_2_method_8_code 32 = .ok (.iload_n 1, 1) := by decide +kernel
theorem smd_H_mark_33 : decode prog_2_method_8_code 33 = .ok (.iastore, 1) := by decide +kernel
theorem smd_H_mark_34 : decode prog_2_method_8_code 34 = .ok (.aload_n 0, 1) := by decide +kernel
theorem smd_H_mark_35 : decode prog_2_method_8_code 35 = .ok (.dup, 1) := by decide +kernel
theorem smd_H_mark_36 : decode prog_2_method_8_code 36 = .ok (.getfield 32, 3) := by decide +kernel
theorem smd_H_mark_39 : decode prog_2_method_8_code 39 = .ok (.iconst 1, 1) := by decide +kernel
theorem smd_H_mark_40 : decode prog_2_method_8_code 40 = .ok (.iadd, 1) := by decide +kernel
theorem smd_H_mark_41 : decode prog_2_method_8_code 41 = .ok (.putfield 32, 3) := by decide +kernel
theorem smd_H_mark_44 : decode prog_2_method_8_code 44 = .ok (.return_, 1) := by decide +kernel
theorem smd_H_markFromMarked_0 : decode prog_2_method_9_code 0 = .ok (.iconst 0, 1) := by decide +kernel
theorem smd_H_markFromMarked_1 : decode prog_2_method_9_code 1 = .ok (.istore_n 1, 1) := by decide +kernel
theorem smd_H_markFromMarked_2 : decode prog_2_method_9_code 2 = .ok (.iload_n 1, 1) := by decide +kernel
theorem smd_H_markFromMarked_3 : decode prog_2_method_9_code 3 = .ok (.aload_n 0, 1) := by decide +kernel
theorem smd_H_markFromMarked_4 : decode prog_2_method_9_code 4 = .ok (.getfield 32, 3) := by decide +kernel
theorem smd_H_markFromMarked_7 : decode prog_2_method_9_code 7 = .ok (.if_icmp .ge 47, 3) := by decide +kernel
theorem smd_H_markFromMarked_10 : decode prog_2_method_9_code 10 = .ok (.iload_n 1, 1) := by decide +kernel
theorem smd_H_markFromMarked_11 : decode prog_2_method_9_code 11 = .ok (.bipush 16, 2) := by decide +kernel
theorem smd_H_markFromMarked_13 : decode prog_2_method_9_code 13 = .ok (.if_icmp .ge 41, 3) := by decide +kernel
theorem smd_H_markFromMarked_16 : decode prog_2_method_9_code 16 = .ok (.iconst 0, 1) := by decide +kernel
theorem smd_H_markFromMarked_17 : decode prog_2_method_9_code 17 = .ok (.istore_n 2, 1) := by decide +kernel
theorem smd_H_markFromMarked_18 : decode prog_2_method_9_code 18 = .ok (.iload_n 2, 1) := by decide +kernel
theorem smd_H_markFromMarked_19 : decode prog_2_method_9_code 19 = .ok (.iconst 4, 1) := by decide +kernel
theorem smd_H_markFromMarked_20 : decode prog_2_method_9_code 20 = .ok (.if_icmp .ge 28, 3) := by decide +kernel
theorem smd_H_markFromMarked_23 : decode prog_2_method_9_code 23 = .ok (.aload_n 0, 1) := by decide +kernel
theorem smd_H_markFromMarked_24 : decode prog_2_method_9_code 24 = .ok (.aload_n 0, 1) := by decide +kernel
theorem smd_H_markFromMarked_25 : decode prog_2_method_9_code 25 = .ok (.getfield 15, 3) := by decide +kernel
theorem smd_H_markFromMarked_28 : decode prog_2_method_9_code 28 = .ok (.aload_n 0, 1) := by decide +kernel
theorem smd_H_markFromMarked_29 : decode prog_2_method_9_code 29 = .ok (.getfield 25, 3) := by decide +kernel
theorem smd_H_markFromMarked_32 : decode prog_2_method_9_code 32 = .ok (.iload_n 1, 1) := by decide +kernel
theorem smd_H_markFromMarked_33 : decode prog_2_method_9_code 33 = .ok (.iaload, 1) := by decide +kernel
theorem smd_H_markFromMarked_34 : decode prog_2_method_9_code 34 = .ok (.iconst 4, 1) := by decide +kernel
theorem smd_H_markFromMarked_35 : decode prog_2_method_9_code 35 = .ok (.imul, 1) := by decide +kernel
theorem smd_H_markFromMarked_36 : decode prog_2_method_9_code 36 = .ok (.iload_n 2, 1) := by decide +kernel
theorem smd_H_markFromMarked_37 : decode prog_2_method_9_code 37 = .ok (.iadd, 1) := by decide +kernel
theorem smd_H_markFromMarked_38 : decode prog_2_method_9_code 38 = .ok (.iaload, 1) := by decide +kernel
theorem smd_H_markFromMarked_39 : decode prog_2_method_9_code 39 = .ok (.invokevirtual 36, 3) := by decide +kernel
theorem smd_H_markFromMarked_42 : decode prog_2_method_9_code 42 = .ok (.iinc 2 1, 3) := by decide +kernel
theorem smd_H_markFromMarked_45 : decode prog_2_method_9_code 45 = .ok (.goto (-27), 3) := by decide +kernel
theorem smd_H_markFromMarked_48 : decode prog_2_method_9_code 48 = .ok (.iinc 1 1, 3) := by decide +kernel
theorem smd_H_markFromMarked_51 : decode prog_2_method_9_code 51 = .ok (.goto (-49), 3) := by decide +kernel
theorem smd_H_markFromMarked_54 : decode prog_2_method_9_code 54 = .ok (.return_, 1) := by decide +kernel
theorem smd_H_dropUnmarked_0 : decode prog_2_method_10_code 0 = .ok (.iconst 0, 1) := by decide +kernel
theorem smd_H_dropUnmarked_1 : decode prog_2_method_10_code 1 = .ok (.istore_n 1, 1) := by decide +kernel
theorem smd_H_dropUnmarked_2 : decode prog_2_method_10_code 2 = .ok (.iconst 1, 1) := by decide +kernel
theorem smd_H_dropUnmarked_3 : decode prog_2_method_10_code 3 = .ok (.istore_n 2, 1) := by decide +kernel
theorem smd_H_dropUnmarked_4 : decode prog_2_method_10_code 4 = .ok (.iload_n 2, 1) := by decide +kernel
theorem smd_H_dropUnmarked_5 : decode prog_2_method_10_code 5 = .ok (.bipush 16, 2) := by decide +kernel
theorem smd_H_dropUnmarked_7 : decode prog_2_method_10_code 7 = .ok (.if_icmp .gt 36, 3) := by decide +kernel
theorem smd_H_dropUnmarked_10 : decode prog_2_method_10_code 10 = .ok (.aload_n 0, 1) := by decide +kernel
theorem smd_H_dropUnmarked_11 : decode prog_2_method_10_code 11 = .ok (.iload_n 2, 1) := by decide +kernel
theorem smd_H_dropUnmarked_12 : decode prog_2_method_10_code 12 = .ok (.invokevirtual 28, 3) := by decide +kernel
theorem smd_H_dropUnmarked_15 : decode prog_2_method_10_code 15 = .ok (.ifCond .eq 22, 3) := by decide +kernel
theorem smd_H_dropUnmarked_18 : decode prog_2_method_10_code 18 = .ok (.aload_n 0, 1) := by decide +kernel
theorem smd_H_dropUnmarked_19 : decode prog_2_method_10_code 19 = .ok (.getfield 21, 3) := by decide +kernel
theorem smd_H_dropUnmarked_22 : decode prog_2_method_10_code 22 = .ok (.iload_n 2, 1) := by decide +kernel
theorem smd_H_dropUnmarked_23 : decode prog_2_method_10_code 23 = .ok (.baload, 1) := by decide +kernel
theorem smd_H_dropUnmarked_24 : decode prog_2_method_10_code 24 = .ok (.ifCond .ne 13, 3) := by decide +kernel
theorem smd_H_dropUnmarked_27 : decode prog_2_method_10_code 27 = .ok (.aload_n 0, 1) := by decide +kernel
theorem smd_H_dropUnmarked_28 : decode prog_2_method_10_code 28 = .ok (.getfield 9, 3) := by decide +kernel
theorem smd_H_dropUnmarked_31 : decode prog_2_method_10_code 31 = .ok (.iload_n 2, 1) := by decide +kernel
theorem smd_H_dropUnmarked_32 : decode prog_2_method_10_code 32 = .ok (.iconst (-1), 1) := by decide +kernel
theorem smd_H_dropUnmarked_33 : decode prog_2_method_10_code 33 = .ok (.iastore, 1) := by decide +kernel
theorem smd_H_dropUnmarked_34 : decode prog_2_method_10_code 34 = .ok (.iinc 1 1, 3) := by decide +kernel
theorem smd_H_dropUnmarked_37 : decode prog_2_method_10_code 37 = .ok (.iinc 2 1, 3) := by decide +kernel
theorem smd_H_dropUnmarked_40 : decode prog_2_method_10_code 40 = .ok (.goto (-36), 3) := by decide +kernel
theorem smd_H_dropUnmarked_43 : decode prog_2_method_10_code 43 = .ok (.iload_n 1, 1) := by decide +kernel
theorem smd_H_dropUnmarked_44 : decode prog_2_method_10_code 44 = .ok (.ireturn, 1) := by decide +kernel
theorem smd_H_makeOver_0 : decode prog_2_method_11_code 0 = .ok (.aload_n 0, 1) := by decide +kernel
theorem smd_H_makeOver_1 : decode prog_2_method_11_code 1 = .ok (.getfield 15, 3) := by decide +kernel
theorem smd_H_makeOver_4 : decode prog_2_method_11_code 4 = .ok (.iconst 0, 1) := by decide +kernel
theorem smd_H_makeOver_5 : decode prog_2_method_11_code 5 = .ok (.aload_n 0, 1) := by decide +kernel
theorem smd_H_makeOver_6 : decode prog_2_method_11_code 6 = .ok (.getfield 18, 3) := by decide +kernel
theorem smd_H_makeOver_9 : decode prog_2_method_11_code 9 = .ok (.iconst 0, 1) := by decide +kernel
theorem smd_H_makeOver_10 : decode prog_2_method_11_code 10 = .ok (.aload_n 0, 1) := by decide +kernel
theorem smd_H_makeOver_11 : decode prog_2_method_11_code 11 = .ok (.getfield 15, 3) := by decide +kernel
theorem smd_H_makeOver_14 : decode prog_2_method_11_code 14 = .ok (.arraylength, 1) := by decide +kernel
theorem smd_H_makeOver_15 : decode prog_2_method_11_code 15 = .ok (.invokestatic 40, 3) := by decide +kernel
theorem smd_H_makeOver_18 : decode prog_2_method_11_code 18 = .ok (.iload_n 3, 1) := by decide +kernel
theorem smd_H_makeOver_19 : decode prog_2_method_11_code 19 = .ok (.istore 4, 2) := by decide +kernel
theorem smd_H_makeOver_21 : decode prog_2_method_11_code 21 = .ok (.iconst 1, 1) := by decide +kernel
theorem smd_H_makeOver_22 : decode prog_2_method_11_code 22 = .ok (.istore 5, 2) := by decide +kernel
theorem smd_H_makeOver_24 : decode prog_2_method_11_code 24 = .ok (.iload 5, 2) := by decide +kernel
theorem smd_H_makeOver_26 : decode prog_2_method_11_code 26 = .ok (.bipush 16, 2) := by decide +kernel
theorem smd_H_makeOver_28 : decode prog_2_method_11_code 28 = .ok (.if_icmp .gt 73, 3) := by decide +kernel
theorem smd_H_makeOver_31 : decode prog_2_method_11_code 31 = .ok (.aload_n 0, 1) := by decide +kernel
theorem smd_H_makeOver_32 : decode prog_2_method_11_code 32 = .ok (.iload 5, 2) := by decide +kernel
theorem smd_H_makeOver_34 : decode prog_2_method_11_code 34 = .ok (.invokevirtual 28, 3) := by decide +kernel
theorem smd_H_makeOver_37 : decode prog_2_method_11_code 37 = .ok (.ifCond .eq 58, 3) := by decide +kernel
theorem smd_H_makeOver_40 : decode prog_2_method_11_code 40 = .ok (.aload_n 1, 1) := by decide +kernel
theorem smd_H_makeOver_41 : decode prog_2_method_11_code 41 = .ok (.getfield 46, 3) := by decide +kernel
theorem smd_H_makeOver_44 : decode prog_2_method_11_code 44 = .ok (.aload_n 0, 1) := by decide +kernel
theorem smd_H_makeOver_45 : decode prog_2_method_11_code 45 = .ok (.getfield 9, 3) := by decide +kernel
theorem smd_H_makeOver_48 : decode prog_2_method_11_code 48 = .ok (.iload 5, 2) := by decide +kernel
theorem smd_H_makeOver_50 : decode prog_2_method_11_code 50 = .ok (.iaload, 1) := by decide +kernel
theorem smd_H_makeOver_51 : decode prog_2_method_11_code 51 = .ok (.baload, 1) := by decide +kernel
theorem smd_H_makeOver_52 : decode prog_2_method_11_code 52 = .ok (.ifCond .eq 43, 3) := by decide +kernel
theorem smd_H_makeOver_55 : decode prog_2_method_11_code 55 = .ok (.aload_n 2, 1) := by decide +kernel
theorem smd_H_makeOver_56 : decode prog_2_method_11_code 56 = .ok (.getfield 51, 3) := by decide +kernel
theorem smd_H_makeOver_59 : decode prog_2_method_11_code 59 = .ok (.aload_n 0, 1) := by decide +kernel
theorem smd_H_makeOver_60 : decode prog_2_method_11_code 60 = .ok (.getfield 9, 3) := by decide +kernel
theorem smd_H_makeOver_63 : decode prog_2_method_11_code 63 = .ok (.iload 5, 2) := by decide +kernel
theorem smd_H_makeOver_65 : decode prog_2_method_11_code 65 = .ok (.iaload, 1) := by decide +kernel
theorem smd_H_makeOver_66 : decode prog_2_method_11_code 66 = .ok (.iaload, 1) := by decide +kernel
theorem smd_H_makeOver_67 : decode prog_2_method_11_code 67 = .ok (.istore 6, 2) := by decide +kernel
theorem smd_H_makeOver_69 : decode prog_2_method_11_code 69 = .ok (.iload 4, 2) := by decide +kernel
theorem smd_H_makeOver_71 : decode prog_2_method_11_code 71 = .ok (.iload 6, 2) := by decide +kernel
theorem smd_H_makeOver_73 : decode prog_2_method_11_code 73 = .ok (.if_icmp .lt 13, 3) := by decide +kernel
theorem smd_H_makeOver_76 : decode prog_2_method_11_code 76 = .ok (.aload_n 0, 1) := by decide +kernel
theorem smd_H_makeOver_77 : decode prog_2_method_11_code 77 = .ok (.iload 5, 2) := by decide +kernel
theorem smd_H_makeOver_79 : decode prog_2_method_11_code 79 = .ok (.aload_n 1, 1) := by decide +kernel
theorem smd_H_makeOver_80 : decode prog_2_method_11_code 80 = .ok (.invokevirtual 56, 3) := by decide +kernel
theorem smd_H_makeOver_83 : decode prog_2_method_11_code 83 = .ok (.ifCond .ne 5, 3) := by decide +kernel
theorem smd_H_makeOver_86 : decode prog_2_method_11_code 86 = .ok (.iconst 0, 1) := by decide +kernel
theorem smd_H_makeOver_87 : decode prog_2_method_11_code 87 = .ok (.ireturn, 1) := by decide +kernel
theorem smd_H_makeOver_88 : decode prog_2_method_11_code 88 = .ok (.iload 4, 2) := by decide +kernel
theorem smd_H_makeOver_90 : decode prog_2_method_11_code 90 = .ok (.iload 6, 2) := by decide +kernel
theorem smd_H_makeOver_92 : decode prog_2_method_11_code 92 = .ok (.isub, 1) := by decide +kernel
theorem smd_H_makeOver_93 : decode prog_2_method_11_code 93 = .ok (.istore 4, 2) := by decide +kernel
theorem smd_H_makeOver_95 : decode prog_2_method_11_code 95 = .ok (.iinc 5 1, 3) := by decide +kernel
theorem smd_H_makeOver_98 : decode prog_2_method_11_code 98 = .ok (.goto (-74), 3) := by decide +kernel
theorem smd_H_makeOver_101 : decode prog_2_method_11_code 101 = .ok (.aload_n 0, 1) := by decide +kernel
theorem smd_H_makeOver_102 : decode prog_2_method_11_code 102 = .ok (.getfield 18, 3) := by decide +kernel
theorem smd_H_makeOver_105 : decode prog_2_method_11_code 105 = .ok (.iconst 0, 1) := by decide +kernel
theorem smd_H_makeOver_106 : decode prog_2_method_11_code 106 = .ok (.aload_n 0, 1) := by decide +kernel
theorem smd_H_makeOver_107 : decode prog_2_method_11_code 107 = .ok (.getfield 15, 3) := by decide +kernel
theorem smd_H_makeOver_110 : decode prog_2_method_11_code 110 = .ok (.iconst 0, 1) := by decide +kernel
theorem smd_H_makeOver_111 : decode prog_2_method_11_code 111 = .ok (.aload_n 0, 1) := by decide +kernel
theorem smd_H_makeOver_112 : decode prog_2_method_11_code 112 = .ok (.getfield 15, 3) := by decide +kernel
theorem smd_H_makeOver_115 : decode prog_2_method_11_code 115 = .ok (.arraylength, 1) := by decide +kernel
theorem smd_H_makeOver_116 : decode prog_2_method_11_code 116 = .ok (.invokestatic 40, 3) := by decide +kernel
theorem smd_H_makeOver_119 : decode prog_2_method_11_code 119 = .ok (.iconst 1, 1) := by decide +kernel
theorem smd_H_makeOver_120 : decode prog_2_method_11_code 120 = .ok (.ireturn, 1) := by decide +kernel
theorem smd_H_makeOverOne_0 : decode prog_2_method_12_code 0 = .ok (.iload_n 1, 1) := by decide +kernel
theorem smd_H_makeOverOne_1 : decode prog_2_method_12_code 1 = .ok (.iconst 4, 1) := by decide +kernel
theorem smd_H_makeOverOne_2 : decode prog_2_method_12_code 2 = .ok (.imul, 1) := by decide +kernel
theorem smd_H_makeOverOne_3 : decode prog_2_method_12_code 3 = .ok (.istore_n 3, 1) := by decide +kernel
theorem smd_H_makeOverOne_4 : decode prog_2_method_12_code 4 = .ok (.iconst 0, 1) := by decide +kernel
theorem smd_H_makeOverOne_5 : decode prog_2_method_12_code 5 = .ok (.istore 4, 2) := by decide +kernel
theorem smd_H_makeOverOne_7 : decode prog_2_method_12_code 7 = .ok (.iload 4, 2) := by decide +kernel
theorem smd_H_makeOverOne_9 : decode prog_2_method_12_code 9 = .ok (.iconst 4, 1) := by decide +kernel
theorem smd_H_makeOverOne_10 : decode prog_2_method_12_code 10 = .ok (.if_icmp .ge 58, 3) := by decide +kernel
theorem smd_H_makeOverOne_13 : decode prog_2_method_12_code 13 = .ok (.aload_n 0, 1) := by decide +kernel
theorem smd_H_makeOverOne_14 : decode prog_2_method_12_code 14 = .ok (.getfield 9, 3) := by decide +kernel
theorem smd_H_makeOverOne_17 : decode prog_2_method_12_code 17 = .ok (.iload_n 1, 1) := by decide +kernel
theorem smd_H_makeOverOne_18 : decode prog_2_method_12_code 18 = .ok (.iaload, 1) := by decide +kernel
theorem smd_H_makeOverOne_19 : decode prog_2_method_12_code 19 = .ok (.iconst 4, 1) := by decide +kernel
theorem smd_H_makeOverOne_20 : decode prog_2_method_12_code 20 = .ok (.imul, 1) := by decide +kernel
theorem smd_H_makeOverOne_21 : decode prog_2_method_12_code 21 = .ok (.iload 4, 2) := by decide +kernel
theorem smd_H_makeOverOne_23 : decode prog_2_method_12_code 23 = .ok (.iadd, 1) := by decide +kernel
theorem smd_H_makeOverOne_24 : decode prog_2_method_12_code 24 = .ok (.istore 5, 2) := by decide +kernel
theorem smd_H_makeOverOne_26 : decode prog_2_method_12_code 26 = .ok (.aload_n 2, 1) := by decide +kernel
theorem smd_H_makeOverOne_27 : decode prog_2_method_12_code 27 = .ok (.iload 5, 2) := by decide +kernel
theorem smd_H_makeOverOne_29 : decode prog_2_method_12_code 29 = .ok (.aload_n 0, 1) := by decide +kernel
theorem smd_H_makeOverOne_30 : decode prog_2_method_12_code 30 = .ok (.getfield 15, 3) := by decide +kernel
theorem smd_H_makeOverOne_33 : decode prog_2_method_12_code 33 = .ok (.iload_n 3, 1) := by decide +kernel
theorem smd_H_makeOverOne_34 : decode prog_2_method_12_code 34 = .ok (.invokevirtual 60, 3) := by decide +kernel
theorem smd_H_makeOverOne_37 : decode prog_2_method_12_code 37 = .ok (.ifCond .eq 5, 3) := by decide +kernel
theorem smd_H_makeOverOne_40 : decode prog_2_method_12_code 40 = .ok (.iconst 0, 1) := by decide +kernel
theorem smd_H_makeOverOne_41 : decode prog_2_method_12_code 41 = .ok (.ireturn, 1) := by decide +kernel
theorem smd_H_makeOverOne_42 : decode prog_2_method_12_code 42 = .ok (.aload_n 0, 1) := by decide +kernel
theorem smd_H_makeOverOne_43 : decode prog_2_method_12_code 43 = .ok (.getfield 18, 3) := by decide +kernel
theorem smd_H_makeOverOne_46 : decode prog_2_method_12_code 46 = .ok (.iload_n 3, 1) := by decide +kernel
theorem smd_H_makeOverOne_47 : decode prog_2_method_12_code 47 = .ok (.iload 4, 2) := by decide +kernel
theorem smd_H_makeOverOne_49 : decode prog_2_method_12_code 49 = .ok (.iadd, 1) := by decide +kernel
theorem smd_H_makeOverOne_50 : decode prog_2_method_12_code 50 = .ok (.aload_n 2, 1) := by decide +kernel
theorem smd_H_makeOverOne_51 : decode prog_2_method_12_code 51 = .ok (.iload 5, 2) := by decide +kernel
theorem smd_H_makeOverOne_53 : decode prog_2_method_12_code 53 = .ok (.aload_n 0, 1) := by decide +kernel
theorem smd_H_makeOverOne_54 : decode prog_2_method_12_code 54 = .ok (.getfield 15, 3) := by decide +kernel
theorem smd_H_makeOverOne_57 : decode prog_2_method_12_code 57 = .ok (.iload_n 3, 1) := by decide +kernel
theorem smd_H_makeOverOne_58 : decode prog_2_method_12_code 58 = .ok (.invokevirtual 64, 3) := by decide +kernel
theorem smd_H_makeOverOne_61 : decode prog_2_method_12_code 61 = .ok (.iastore, 1) := by decide +kernel
theorem smd_H_makeOverOne_62 : decode prog_2_method_12_code 62 = .ok (.iinc 4 1, 3) := by decide +kernel
theorem smd_H_makeOverOne_65 : decode prog_2_method_12_code 65 = .ok (.goto (-58), 3) := by decide +kernel
theorem smd_H_makeOverOne_68 : decode prog_2_method_12_code 68 = .ok (.iconst 1, 1) := by decide +kernel
theorem smd_H_makeOverOne_69 : decode prog_2_method_12_code 69 = .ok (.ireturn, 1) := by decide +kernel
theorem smd_R_init_0 : decode prog_3_method_1_code 0 = .ok (.aload_n 0, 1) := by decide +kernel
theorem smd_R_init_1 : decode prog_3_method_1_code 1 = .ok (.invokespecial 3, 3) := by decide +kernel
theorem smd_R_init_4 : decode prog_3_method_1_code 4 = .ok (.aload_n 0, 1) := by decide +kernel
theorem smd_R_init_5 : decode prog_3_method_1_code 5 = .ok (.iconst 3, 1) := by decide +kernel
theorem smd_R_init_6 : decode prog_3_method_1_code 6 = .ok (.newarray .boolean, 2) := by decide +kernel
theorem smd_R_init_8 : decode prog_3_method_1_code 8 = .ok (.putfield 9, 3) := by decide +kernel
theorem smd_R_init_11 : decode prog_3_method_1_code 11 = .ok (.aload_n 0, 1) := by decide +kernel
theorem smd_R_init_12 : decode prog_3_method_1_code 12 = .ok (.bipush 12, 2) := by decide +kernel
theorem smd_R_init_14 : decode prog_3_method_1_code 14 = .ok (.newarray .int, 2) := by decide +kernel
theorem smd_R_init_16 : decode prog_3_method_1_code 16 = .ok (.putfield 15, 3) := by decide +kernel
theorem smd_R_init_19 : decode prog_3_method_1_code 19 = .ok (.aload_n 0, 1) := by decide +kernel
theorem smd_R_init_20 : decode prog_3_method_1_code 20 = .ok (.bipush 12, 2) := by decide +kernel
theorem smd_R_init_22 : decode prog_3_method_1_code 22 = .ok (.newarray .int, 2) := by decide +kernel
theorem smd_R_init_24 : decode prog_3_method_1_code 24 = .ok (.putfield 19, 3) := by decide +kernel
theorem smd_R_init_27 : decode prog_3_method_1_code 27 = .ok (.aload_n 0, 1) := by decide +kernel
theorem smd_R_init_28 : decode prog_3_method_1_code 28 = .ok (.bipush 12, 2) := by decide +kernel
theorem smd_R_init_30 : decode prog_3_method_1_code 30 = .ok (.newarray .int, 2) := by decide +kernel
theorem smd_R_init_32 : decode prog_3_method_1_code 32 = .ok (.putfield 22, 3) := by decide +kernel
theorem smd_R_init_35 : decode prog_3_method_1_code 35 = .ok (.return_, 1) := by decide +kernel
theorem smd_R_write_0 : decode prog_3_method_2_code 0 = .ok (.iload_n 1, 1) := by decide +kernel
theorem smd_R_write_1 : decode prog_3_method_2_code 1 = .ok (.iconst 4, 1) := by decide +kernel
theorem smd_R_write_2 : decode prog_3_method_2_code 2 = .ok (.imul, 1) := by decide +kernel
theorem smd_R_write_3 : decode prog_3_method_2_code 3 = .ok (.iload_n 2, 1) := by decide +kernel
theorem smd_R_write_4 : decode prog_3_method_2_code 4 = .ok (.iadd, 1) := by decide +kernel
theorem smd_R_write_5 : decode prog_3_method_2_code 5 = .ok (.istore 6, 2) := by decide +kernel
theorem smd_R_write_7 : decode prog_3_method_2_code 7 = .ok (.aload_n 0, 1) := by decide +kernel
theorem smd_R_write_8 : decode prog_3_method_2_code 8 = .ok (.getfield 15, 3) := by decide +kernel
theorem smd_R_write_11 : decode prog_3_method_2_code 11 = .ok (.iload 6, 2) := by decide +kernel
theorem smd_R_write_13 : decode prog_3_method_2_code 13 = .ok (.iload_n 3, 1) := by decide +kernel
theorem smd_R_write_14 : decode prog_3_method_2_code 14 = .ok (.iastore, 1) := by decide +kernel
theorem smd_R_write_15 : decode prog_3_method_2_code 15 = .ok (.aload_n 0, 1) := by decide +kernel
theorem smd_R_write_16 : decode prog_3_method_2_code 16 = .ok (.getfield 19, 3) := by decide +kernel
theorem smd_R_write_19 : decode prog_3_method_2_code 19 = .ok (.iload 6, 2) := by decide +kernel
theorem smd_R_write_21 : decode prog_3_method_2_code 21 = .ok (.iload 4, 2) := by decide +kernel
theorem smd_R_write_23 : decode prog_3_method_2_code 23 = .ok (.iastore, 1) := by decide +kernel
theorem smd_R_write_24 : decode prog_3_method_2_code 24 = .ok (.aload_n 0, 1) := by decide +kernel
theorem smd_R_write_25 : decode prog_3_method_2_code 25 = .ok (.getfield 22, 3) := by decide +kernel
theorem smd_R_write_28 : decode prog_3_method_2_code 28 = .ok (.iload 6, 2) := by decide +kernel
theorem smd_R_write_30 : decode prog_3_method_2_code 30 = .ok (.iload 5, 2) := by decide +kernel
theorem smd_R_write_32 : decode prog_3_method_2_code 32 = .ok (.iastore, 1) := by decide +kernel
theorem smd_R_write_33 : decode prog_3_method_2_code 33 = .ok (.return_, 1) := by decide +kernel
theorem smd_R_forgetType_0 : decode prog_3_method_3_code 0 = .ok (.iconst 0, 1) := by decide +kernel
theorem smd_R_forgetType_1 : decode prog_3_method_3_code 1 = .ok (.istore_n 2, 1) := by decide +kernel
theorem smd_R_forgetType_2 : decode prog_3_method_3_code 2 = .ok (.iload_n 2, 1) := by decide +kernel
theorem smd_R_forgetType_3 : decode prog_3_method_3_code 3 = .ok (.iconst 4, 1) := by decide +kernel
theorem smd_R_forgetType_4 : decode prog_3_method_3_code 4 = .ok (.if_icmp .ge 18, 3) := by decide +kernel
theorem smd_R_forgetType_7 : decode prog_3_method_3_code 7 = .ok (.aload_n 0, 1) := by decide +kernel
theorem smd_R_forgetType_8 : decode prog_3_method_3_code 8 = .ok (.iload_n 1, 1) := by decide +kernel
theorem smd_R_forgetType_9 : decode prog_3_method_3_code 9 = .ok (.iload_n 2, 1) := by decide +kernel
theorem smd_R_forgetType_10 : decode prog_3_method_3_code 10 = .ok (.iconst 0, 1) := by decide +kernel
theorem smd_R_forgetType_11 : decode prog_3_method_3_code 11 = .ok (.iconst 0, 1) := by decide +kernel
theorem smd_R_forgetType_12 : decode prog_3_method_3_code 12 = .ok (.iconst 0, 1) := by decide +kernel
theorem smd_R_forgetType_13 : decode prog_3_method_3_code 13 = .ok (.invokevirtual 25, 3) := by decide +kernel
theorem smd_R_forgetType_16 : decode prog_3_method_3_code 16 = .ok (.iinc 2 1, 3) := by decide +kernel
theorem smd_R_forgetType_19 : decode prog_3_method_3_code 19 = .ok (.goto (-17), 3) := by decide +kernel
theorem smd_R_forgetType_22 : decode prog_3_method_3_code 22 = .ok (.return_, 1) := by decide +kernel
theorem smd_R_forgetAll_0 : decode prog_3_method_4_code 0 = .ok (.iconst 0, 1) := by decide +kernel
theorem smd_R_forgetAll_1 : decode prog_3_method_4_code 1 = .ok (.istore_n 1, 1) := by decide +kernel
theorem smd_R_forgetAll_2 : decode prog_3_method_4_code 2 = .ok (.iload_n 1, 1) := by decide +kernel
theorem smd_R_forgetAll_3 : decode prog_3_method_4_code 3 = .ok (.iconst 3, 1) := by decide +kernel
theorem smd_R_forgetAll_4 : decode prog_3_method_4_code 4 = .ok (.if_icmp .ge 21, 3) := by decide +kernel
theorem smd_R_forgetAll_7 : decode prog_3_method_4_code 7 = .ok (.aload_n 0, 1) := by decide +kernel
theorem smd_R_forgetAll_8 : decode prog_3_method_4_code 8 = .ok (.iload_n 1, 1) := by decide +kernel
theorem smd_R_forgetAll_9 : decode prog_3_method_4_code 9 = .ok (.invokevirtual 29, 3) := by decide +kernel
theorem smd_R_forgetAll_12 : decode prog_3_method_4_code 12 = .ok (.aload_n 0, 1) := by decide +kernel
theorem smd_R_forgetAll_13 : decode prog_3_method_4_code 13 = .ok (.getfield 9, 3) := by decide +kernel
theorem smd_R_forgetAll_16 : decode prog_3_method_4_code 16 = .ok (.iload_n 1, 1) := by decide +kernel
theorem smd_R_forgetAll_17 : decode prog_3_method_4_code 17 = .ok (.iconst 0, 1) := by decide +kernel
theorem smd_R_forgetAll_18 : decode prog_3_method_4_code 18 = .ok (.bastore, 1) := by decide +kernel
theorem smd_R_forgetAll_19 : decode prog_3_method_4_code 19 = .ok (.iinc 1 1, 3) := by decide +kernel
theorem smd_R_forgetAll_22 : decode prog_3_method_4_code 22 = .ok (.goto (-20), 3) := by decide +kernel
theorem smd_R_forgetAll_25 : decode prog_3_method_4_code 25 = .ok (.return_, 1) := by decide +kernel
theorem smd_R_firstWithoutSource_0 : decode prog_3_method_5_code 0 = .ok (.iconst 0, 1) := by decide +kernel
theorem smd_R_firstWithoutSource_1 : decode prog_3_method_5_code 1 = .ok (.istore_n 3, 1) := by decide +kernel
theorem smd_R_firstWithoutSource_2 : decode prog_3_method_5_code 2 = .ok (.iload_n 3, 1) := by decide +kernel
theorem smd_R_firstWithoutSource_3 : decode prog_3_method_5_code 3 = .ok (.iconst 3, 1) := by decide +kernel
theorem smd_R_firstWithoutSource_4 : decode prog_3_method_5_code 4 = .ok (.if_icmp .ge 66, 3) := by decide +kernel
theorem smd_R_firstWithoutSource_7 : decode prog_3_method_5_code 7 = .ok (.iconst 0, 1) := by decide +kernel
theorem smd_R_firstWithoutSource_8 : decode prog_3_method_5_code 8 = .ok (.istore 4, 2) := by decide +kernel
theorem smd_R_firstWithoutSource_10 : decode prog_3_method_5_code 10 = .ok (.iload 4, 2) := by decide +kernel
theorem smd_R_firstWithoutSource_12 : decode prog_3_method_5_code 12 = .ok (.aload_n 2, 1) := by decide +kernel
theorem smd_R_firstWithoutSource_13 : decode prog_3_method_5_code 13 = .ok (.getfield 33, 3) := by decide +kernel
theorem smd_R_firstWithoutSource_16 : decode prog_3_method_5_code 16 = .ok (.iload_n 3, 1) := by decide +kernel
theorem smd_R_firstWithoutSource_17 : decode prog_3_method_5_code 17 = .ok (.iaload, 1) := by decide +kernel
theorem smd_R_firstWithoutSource_18 : decode prog_3_method_5_code 18 = .ok (.if_icmp .ge 46, 3) := by decide +kernel
theorem smd_R_firstWithoutSource_21 : decode prog_3_method_5_code 21 = .ok (.iload_n 3, 1) := by decide +kernel
theorem smd_R_firstWithoutSource_22 : decode prog_3_method_5_code 22 = .ok (.iconst 4, 1) := by decide +kernel
theorem smd_R_firstWithoutSource_23 : decode prog_3_method_5_code 23 = .ok (.imul, 1) := by decide +kernel
theorem smd_R_firstWithoutSource_24 : decode prog_3_method_5_code 24 = .ok (.iload 4, 2) := by decide +kernel
theorem smd_R_firstWithoutSource_26 : decode prog_3_method_5_code 26 = .ok (.iadd, 1) := by decide +kernel
theorem smd_R_firstWithoutSource_27 : decode prog_3_method_5_code 27 = .ok (.istore 5, 2) := by decide +kernel
theorem smd_R_firstWithoutSource_29 : decode prog_3_method_5_code 29 = .ok (.aload_n 0, 1) := by decide +kernel
theorem smd_R_firstWithoutSource_30 : decode prog_3_method_5_code 30 = .ok (.getfield 15, 3) := by decide +kernel
theorem smd_R_firstWithoutSource_33 : decode prog_3_method_5_code 33 = .ok (.iload 5, 2) := by decide +kernel
theorem smd_R_firstWithoutSource_35 : decode prog_3_method_5_code 35 = .ok (.iaload, 1) := by decide +kernel
theorem smd_R_firstWithoutSource_36 : decode prog_3_method_5_code 36 = .ok (.ifCond .eq 22, 3) := by decide +kernel
theorem smd_R_firstWithoutSource_39 : decode prog_3_method_5_code 39 = .ok (.aload_n 0, 1) := by decide +kernel
theorem smd_R_firstWithoutSource_40 : decode prog_3_method_5_code 40 = .ok (.getfield 19, 3) := by decide +kernel
theorem smd_R_firstWithoutSource_43 : decode prog_3_method_5_code 43 = .ok (.iload 5, 2) := by decide +kernel
theorem smd_R_firstWithoutSource_45 : decode prog_3_method_5_code 45 = .ok (.iaload, 1) := by decide +kernel
theorem smd_R_firstWithoutSource_46 : decode prog_3_method_5_code 46 = .ok (.aload_n 1, 1) := by decide +kernel
theorem smd_R_firstWithoutSource_47 : decode prog_3_method_5_code 47 = .ok (.getfield 33, 3) := by decide +kernel
theorem smd_R_firstWithoutSource_50 : decode prog_3_method_5_code 50 = .ok (.iload_n 3, 1) := by decide +kernel
theorem smd_R_firstWithoutSource_51 : decode prog_3_method_5_code 51 = .ok (.iaload, 1) := by decide +kernel
theorem smd_R_firstWithoutSource_52 : decode prog_3_method_5_code 52 = .ok (.if_icmp .lt 6, 3) := by decide +kernel
theorem smd_R_firstWithoutSource_55 : decode prog_3_method_5_code 55 = .ok (.iload 5, 2) := by decide +kernel
theorem smd_R_firstWithoutSource_57 : decode prog_3_method_5_code 57 = .ok (.ireturn, 1) := by decide +kernel
theorem smd_R_firstWithoutSource_58 : decode prog_3_method_5_code 58 = .ok (.iinc 4 1, 3) := by decide +kernel
theorem smd_R_firstWithoutSource_61 : decode prog_3_method_5_code 61 = .ok (.goto (-51), 3) := by decide +kernel
theorem smd_R_firstWithoutSource_64 : decode prog_3_method_5_code 64 = .ok (.iinc 3 1, 3) := by decide +kernel
theorem smd_R_firstWithoutSource_67 : decode prog_3_method_5_code 67 = .ok (.goto (-65), 3) := by decide +kernel
theorem smd_R_firstWithoutSource_70 : decode prog_3_method_5_code 70 = .ok (.iconst (-1), 1) := by decide +kernel
theorem smd_R_firstWithoutSource_71 : decode prog_3_method_5_code 71 = .ok (.ireturn, 1) := by decide +kernel
theorem smd_R_isFaulty_0 : decode prog_3_method_6_code 0 = .ok (.aload_n 0, 1) := by decide +kernel
theorem smd_R_isFaulty_1 : decode prog_3_method_6_code 1 = .ok (.getfield 15, 3) := by decide +kernel
theorem smd_R_isFaulty_4 : decode prog_3_method_6_code 4 = .ok (.iload_n 1, 1) := by decide +kernel
theorem smd_R_isFaulty_5 : decode prog_3_method_6_code 5 = .ok (.iaload, 1) := by decide +kernel
theorem smd_R_isFaulty_6 : decode prog_3_method_6_code 6 = .ok (.iconst 2, 1) := by decide +kernel
theorem smd_R_isFaulty_7 : decode prog_3_method_6_code 7 = .ok (.if_icmp .ne 20, 3) := by decide +kernel
theorem smd_R_isFaulty_10 : decode prog_3_method_6_code 10 = .ok (.aload_n 2, 1) := by decide +kernel
theorem smd_R_isFaulty_11 : decode prog_3_method_6_code 11 = .ok (.iload_n 3, 1) := by decide +kernel
theorem smd_R_isFaulty_12 : decode prog_3_method_6_code 12 = .ok (.aload_n 0, 1) := by decide +kernel
theorem smd_R_isFaulty_13 : decode prog_3_method_6_code 13 = .ok (.getfield 19, 3) := by decide +kernel
theorem smd_R_isFaulty_16 : decode prog_3_method_6_code 16 = .ok (.iload_n 1, 1) := by decide +kernel
theorem smd_R_isFaulty_17 : decode prog_3_method_6_code 17 = .ok (.iaload, 1) := by decide +kernel
theorem smd_R_isFaulty_18 : decode prog_3_method_6_code 18 = .ok (.iadd, 1) := by decide +kernel
theorem smd_R_isFaulty_19 : decode prog_3_method_6_code 19 = .ok (.iaload, 1) := by decide +kernel
theorem smd_R_isFaulty_20 : decode prog_3_method_6_code 20 = .ok (.ifCond .ne 7, 3) := by decide +kernel
theorem smd_R_isFaulty_23 : decode prog_3_method_6_code 23 = .ok (.iconst 1, 1) := by decide +kernel
theorem smd_R_isFaulty_24 : decode prog_3_method_6_code 24 = .ok (.goto 4, 3) := by decide +kernel
theorem smd_R_isFaulty_27 : decode prog_3_method_6_code 27 = .ok (.iconst 0, 1) := by decide +kernel
theorem smd_R_isFaulty_28 : decode prog_3_method_6_code 28 = .ok (.ireturn, 1) := by decide +kernel
theorem smd_R_valueOf_0 : decode prog_3_method_7_code 0 = .ok (.aload_n 2, 1) := by decide +kernel
theorem smd_R_valueOf_1 : decode prog_3_method_7_code 1 = .ok (.iload_n 3, 1) := by decide +kernel
theorem smd_R_valueOf_2 : decode prog_3_method_7_code 2 = .ok (.aload_n 0, 1) := by decide +kernel
theorem smd_R_valueOf_3 : decode prog_3_method_7_code 3 = .ok (.getfield 19, 3) := by decide +kernel
theorem smd_R_valueOf_6 : decode prog_3_method_7_code 6 = .ok (.iload_n 1, 1) := by decide +kernel
theorem smd_R_valueOf_7 : decode prog_3_method_7_code 7 = .ok (.iaload, 1) := by decide +kernel
theorem smd_R_valueOf_8 : decode prog_3_method_7_code 8 = .ok (.iadd, 1) := by decide +kernel
theorem smd_R_valueOf_9 : decode prog_3_method_7_code 9 = .ok (.iaload, 1) := by decide +kernel
theorem smd_R_valueOf_10 : decode prog_3_method_7_code 10 = .ok (.istore 4, 2) := by decide +kernel
theorem smd_R_valueOf_12 : decode prog_3_method_7_code 12 = .ok (.aload_n 0, 1) := by decide +kernel
theorem smd_R_valueOf_13 : decode prog_3_method_7_code 13 = .ok (.getfield 15, 3) := by decide +kernel
theorem smd_R_valueOf_16 : decode prog_3_method_7_code 16 = .ok (.iload_n 1, 1) := by decide +kernel
theorem smd_R_valueOf_17 : decode prog_3_method_7_code 17 = .ok (.iaload, 1) := by decide +kernel
theorem smd_R_valueOf_18 : decode prog_3_method_7_code 18 = .ok (.lookupswitch 55 #[(1, 26), (2, 36)], 26) := by decide +kernel
theorem smd_R_valueOf_44 : decode prog_3_method_7_code 44 = .ok (.iload 4, 2) := by decide +kernel
theorem smd_R_valueOf_46 : decode prog_3_method_7_code 46 = .ok (.aload_n 0, 1) := by decide +kernel
theorem smd_R_valueOf_47 : decode prog_3_method_7_code 47 = .ok (.getfield 22, 3) := by decide +kernel
theorem smd_R_valueOf_50 : decode prog_3_method_7_code 50 = .ok (.iload_n 1, 1) := by decide +kernel
theorem smd_R_valueOf_51 : decode prog_3_method_7_code 51 = .ok (.iaload, 1) := by decide +kernel
theorem smd_R_valueOf_52 : decode prog_3_method_7_code 52 = .ok (.iadd, 1) := by decide +kernel
theorem smd_R_valueOf_53 : decode prog_3_method_7_code 53 = .ok (.ireturn, 1) := by decide +kernel
theorem smd_R_valueOf_54 : decode prog_3_method_7_code 54 = .ok (.iload 4, 2) := by decide +kernel
theorem smd_R_valueOf_56 : decode prog_3_method_7_code 56 = .ok (.ifCond .ne 7, 3) := by decide +kernel
theorem smd_R_valueOf_59 : decode prog_3_method_7_code 59 = .ok (.iconst 0, 1) := by decide +kernel
theorem smd_R_valueOf_60 : decode prog_3_method_7_code 60 = .ok (.goto 12, 3) := by decide +kernel
theorem smd_R_valueOf_63 : decode prog_3_method_7_code 63 = .ok (.aload_n 0, 1) := by decide +kernel
theorem smd_R_valueOf_64 : decode prog_3_method_7_code 64 = .ok (.getfield 22, 3) := by decide +kernel
theorem smd_R_valueOf_67 : decode prog_3_method_7_code 67 = .ok (.iload_n 1, 1) := by decide +kernel
theorem smd_R_valueOf_68 : decode prog_3_method_7_code 68 = .ok (.iaload, 1) := by decide +kernel
theorem smd_R_valueOf_69 : decode prog_3_method_7_code 69 = .ok (.iload 4, 2) := by decide +kernel
theorem smd_R_valueOf_71 : decode prog_3_method_7_code 71 = .ok (.idiv, 1) := by decide +kernel
theorem smd_R_valueOf_72 : decode prog_3_method_7_code 72 = .ok (.ireturn, 1) := by decide +kernel
theorem smd_R_valueOf_73 : decode prog_3_method_7_code 73 = .ok (.aload_n 0, 1) := by decide +kernel
theorem smd_R_valueOf_74 : decode prog_3_method_7_code 74 = .ok (.getfield 22, 3) := by decide +kernel
theorem smd_R_valueOf_77 : decode prog_3_method_7_code 77 = .ok (.iload_n 1, 1) := by decide +kernel
theorem smd_R_valueOf_78 : decode prog_3_method_7_code 78 = .ok (.iaload, 1) := by decide +kernel
theorem smd_R_valueOf_79 : decode prog_3_method_7_code 79 = .ok (.ireturn, 1) := by decide +kernel
theorem smd_T_init_0 : decode prog_4_method_1_code 0 = .ok (.aload_n 0, 1) := by decide +kernel
theorem smd_T_init_1 : decode prog_4_method_1_code 1 = .ok (.invokespecial 3, 3) := by decide +kernel
theorem smd_T_init_4 : decode prog_4_method_1_code 4 = .ok (.aload_n 0, 1) := by decide +kernel
theorem smd_T_init_5 : decode prog_4_method_1_code 5 = .ok (.bipush 6, 2) := by decide +kernel
theorem smd_T_init_7 : decode prog_4_method_1_code 7 = .ok (.newarray .int, 2) := by decide +kernel
theorem smd_T_init_9 : decode prog_4_method_1_code 9 = .ok (.putfield 9, 3) := by decide +kernel
theorem smd_T_init_12 : decode prog_4_method_1_code 12 = .ok (.aload_n 0, 1) := by decide +kernel
theorem smd_T_init_13 : decode prog_4_method_1_code 13 = .ok (.bipush 6, 2) := by decide +kernel
theorem smd_T_init_15 : decode prog_4_method_1_code 15 = .ok (.newarray .int, 2) := by decide +kernel
theorem smd_T_init_17 : decode prog_4_method_1_code 17 = .ok (.putfield 15, 3) := by decide +kernel
theorem smd_T_init_20 : decode prog_4_method_1_code 20 = .ok (.aload_n 0, 1) := by decide +kernel
theorem smd_T_init_21 : decode prog_4_method_1_code 21 = .ok (.bipush 18, 2) := by decide +kernel
theorem smd_T_init_23 : decode prog_4_method_1_code 23 = .ok (.newarray .int, 2) := by decide +kernel
theorem smd_T_init_25 : decode prog_4_method_1_code 25 = .ok (.putfield 18, 3) := by decide +kernel
theorem smd_T_init_28 : decode prog_4_method_1_code 28 = .ok (.aload_n 0, 1) := by decide +kernel
theorem smd_T_init_29 : decode prog_4_method_1_code 29 = .ok (.bipush 6, 2) := by decide +kernel
theorem smd_T_init_31 : decode prog_4_method_1_code 31 = .ok (.newarray .int, 2) := by decide +kernel
theorem smd_T_init_33 : decode prog_4_method_1_code 33 = .ok (.putfield 21, 3) := by decide +kernel
theorem smd_T_init_36 : decode prog_4_method_1_code 36 = .ok (.aload_n 0, 1) := by decide +kernel
theorem smd_T_init_37 : decode prog_4_method_1_code 37 = .ok (.bipush 8, 2) := by decide +kernel
theorem smd_T_init_39 : decode prog_4_method_1_code 39 = .ok (.newarray .int, 2) := by decide +kernel
theorem smd_T_init_41 : decode prog_4_method_1_code 41 = .ok (.putfield 24, 3) := by decide +kernel
theorem smd_T_init_44 : decode prog_4_method_1_code 44 = .ok (.return_, 1) := by decide +kernel
theorem smd_T_local_0 : decode prog_4_method_2_code 0 = .ok (.aload_n 0, 1) := by decide +kernel
theorem smd_T_local_1 : decode prog_4_method_2_code 1 = .ok (.getfield 18, 3) := by decide +kernel
theorem smd_T_local_4 : decode prog_4_method_2_code 4 = .ok (.aload_n 0, 1) := by decide +kernel
theorem smd_T_local_5 : decode prog_4_method_2_code 5 = .ok (.getfield 27, 3) := by decide +kernel
theorem smd_T_local_8 : decode prog_4_method_2_code 8 = .ok (.iconst 1, 1) := by decide +kernel
theorem smd_T_local_9 : decode prog_4_method_2_code 9 = .ok (.isub, 1) := by decide +kernel
theorem smd_T_local_10 : decode prog_4_method_2_code 10 = .ok (.iconst 3, 1) := by decide +kernel
theorem smd_T_local_11 : decode prog_4_method_2_code 11 = .ok (.imul, 1) := by decide +kernel
theorem smd_T_local_12 : decode prog_4_method_2_code 12 = .ok (.iload_n 1, 1) := by decide +kernel
theorem smd_T_local_13 : decode prog_4_method_2_code 13 = .ok (.iadd, 1) := by decide +kernel
theorem smd_T_local_14 : decode prog_4_method_2_code 14 = .ok (.iaload, 1) := by decide +kernel
theorem smd_T_local_15 : decode prog_4_method_2_code 15 = .ok (.ireturn, 1) := by decide +kernel
theorem smd_T_setLocal_0 : decode prog_4_method_3_code 0 = .ok (.aload_n 0, 1) := by decide +kernel
theorem smd_T_setLocal_1 : decode prog_4_method_3_code 1 = .ok (.getfield 18, 3) := by decide +kernel
theorem smd_T_setLocal_4 : decode prog_4_method_3_code 4 = .ok (.aload_n 0, 1) := by decide +kernel
theorem smd_T_setLocal_5 : decode prog_4_method_3_code 5 = .ok (.getfield 27, 3) := by decide +kernel
theorem smd_T_setLocal_8 : decode prog_4_method_3_code 8 = .ok (.iconst 1, 1) := by decide +kernel
theorem smd_T_setLocal_9 : decode prog_4_method_3_code 9 = .ok (.isub, 1) := by decide +kernel
theorem smd_T_setLocal_10 : decode prog_4_method_3_code 10 = .ok (.iconst 3, 1) := by decide +kernel
theorem smd_T_setLocal_11 : decode prog_4_method_3_code 11 = .ok (.imul, 1) := by decide +kernel
theorem smd_T_setLocal_12 : decode prog_4_method_3_code 12 = .ok (.iload_n 1, 1) := by decide +kernel
theorem smd_T_setLocal_13 : decode prog_4_method_3_code 13 = .ok (.iadd, 1) := by decide +kernel
theorem smd_T_setLocal_14 : decode prog_4_method_3_code 14 = .ok (.iload_n 2, 1) := by decide +kernel
theorem smd_T_setLocal_15 : decode prog_4_method_3_code 15 = .ok (.iastore, 1) := by decide +kernel
theorem smd_T_setLocal_16 : decode prog_4_method_3_code 16 = .ok (.return_, 1) := by decide +kernel
theorem smd_T_push_0 : decode prog_4_method_4_code 0 = .ok (.aload_n 0, 1) := by decide +kernel
theorem smd_T_push_1 : decode prog_4_method_4_code 1 = .ok (.getfield 9, 3) := by decide +kernel
theorem smd_T_push_4 : decode prog_4_method_4_code 4 = .ok (.aload_n 0, 1) := by decide +kernel
theorem smd_T_push_5 : decode prog_4_method_4_code 5 = .ok (.getfield 27, 3) := by decide +kernel
theorem smd_T_push_8 : decode prog_4_method_4_code 8 = .ok (.iload_n 1, 1) := by decide +kernel
theorem smd_T_push_9 : decode prog_4_method_4_code 9 = .ok (.iastore, 1) := by decide +kernel
theorem smd_T_push_10 : decode prog_4_method_4_code 10 = .ok (.aload_n 0, 1) := by decide +kernel
theorem smd_T_push_11 : decode prog_4_method_4_code 11 = .ok (.getfield 15, 3) := by decide +kernel
theorem smd_T_push_14 : decode prog_4_method_4_code 14 = .ok (.aload_n 0, 1) := by decide +kernel
theorem smd_T_push_15 : decode prog_4_method_4_code 15 = .ok (.getfield 27, 3) := by decide +kernel
theorem smd_T_push_18 : decode prog_4_method_4_code 18 = .ok (.iconst 0, 1) := by decide +kernel
theorem smd_T_push_19 : decode prog_4_method_4_code 19 = .ok (.iastore, 1) := by decide +kernel
theorem smd_T_push_20 : decode prog_4_method_4_code 20 = .ok (.aload_n 0, 1) := by decide +kernel
theorem smd_T_push_21 : decode prog_4_method_4_code 21 = .ok (.getfield 21, 3) := by decide +kernel
theorem smd_T_push_24 : decode prog_4_method_4_code 24 = .ok (.aload_n 0, 1) := by decide +kernel
theorem smd_T_push_25 : decode prog_4_method_4_code 25 = .ok (.getfield 27, 3) := by decide +kernel
theorem smd_T_push_28 : decode prog_4_method_4_code 28 = .ok (.iload_n 3, 1) := by decide +kernel
theorem smd_T_push_29 : decode prog_4_method_4_code 29 = .ok (.iastore, 1) := by decide +kernel
theorem smd_T_push_30 : decode prog_4_method_4_code 30 = .ok (.aload_n 0, 1) := by decide +kernel
theorem smd_T_push_31 : decode prog_4_method_4_code 31 = .ok (.dup, 1) := by decide +kernel
theorem smd_T_push_32 : decode prog_4_method_4_code 32 = .ok (.getfield 27, 3) := by decide +kernel
theorem smd_T_push_35 : decode prog_4_method_4_code 35 = .ok (.iconst 1, 1) := by decide +kernel
theorem smd_T_push_36 : decode prog_4_method_4_code 36 = .ok (.iadd, 1) := by decide +kernel
theorem smd_T_push_37 : decode prog_4_method_4_code 37 = .ok (.putfield 27, 3) := by decide +kernel
theorem smd_T_push_40 : decode prog_4_method_4_code 40 = .ok (.aload_n 0, 1) := by decide +kernel
theorem smd_T_push_41 : decode prog_4_method_4_code 41 = .ok (.iconst 0, 1) := by decide +kernel
theorem smd_T_push_42 : decode prog_4_method_4_code 42 = .ok (.iload_n 2, 1) := by decide +kernel
theorem smd_T_push_43 : decode prog_4_method_4_code 43 = .ok (.invokevirtual 31, 3) := by decide +kernel
theorem smd_T_push_46 : decode prog_4_method_4_code 46 = .ok (.iconst 1, 1) := by decide +kernel
theorem smd_T_push_47 : decode prog_4_method_4_code 47 = .ok (.istore 4, 2) := by decide +kernel
theorem smd_T_push_49 : decode prog_4_method_4_code 49 = .ok (.iload 4, 2) := by decide +kernel
theorem smd_T_push_51 : decode prog_4_method_4_code 51 = .ok (.iconst 3, 1) := by decide +kernel
theorem smd_T_push_52 : decode prog_4_method_4_code 52 = .ok (.if_icmp .ge 16, 3) := by decide +kernel
theorem smd_T_push_55 : decode prog_4_method_4_code 55 = .ok (.aload_n 0, 1) := by decide +kernel
theorem smd_T_push_56 : decode prog_4_method_4_code 56 = .ok (.iload 4, 2) := by decide +kernel
theorem smd_T_push_58 : decode prog_4_method_4_code 58 = .ok (.iconst 0, 1) := by decide +kernel
theorem smd_T_push_59 : decode prog_4_method_4_code 59 = .ok (.invokevirtual 31, 3) := by decide +kernel
theorem smd_T_push_62 : decode prog_4_method_4_code 62 = .ok (.iinc 4 1, 3) := by decide +kernel
theorem smd_T_push_65 : decode prog_4_method_4_code 65 = .ok (.goto (-16), 3) := by decide +kernel
theorem smd_T_push_68 : decode prog_4_method_4_code 68 = .ok (.return_, 1) := by decide +kernel
theorem smd_T_giveBack_0 : decode prog_4_method_5_code 0 = .ok (.aload_n 0, 1) := by decide +kernel
theorem smd_T_giveBack_1 : decode prog_4_method_5_code 1 = .ok (.dup, 1) := by decide +kernel
theorem smd_T_giveBack_2 : decode prog_4_method_5_code 2 = .ok (.getfield 27, 3) := by decide +kernel
theorem smd_T_giveBack_5 : decode prog_4_method_5_code 5 = .ok (.iconst 1, 1) := by decide +kernel
theorem smd_T_giveBack_6 : decode prog_4_method_5_code 6 = .ok (.isub, 1) := by decide +kernel
theorem smd_T_giveBack_7 : decode prog_4_method_5_code 7 = .ok (.putfield 27, 3) := by decide +kernel
theorem smd_T_giveBack_10 : decode prog_4_method_5_code 10 = .ok (.aload_n 0, 1) := by decide +kernel
theorem smd_T_giveBack_11 : decode prog_4_method_5_code 11 = .ok (.getfield 27, 3) := by decide +kernel
theorem smd_T_giveBack_14 : decode prog_4_method_5_code 14 = .ok (.ifCond .ne 16, 3) := by decide +kernel
theorem smd_T_giveBack_17 : decode prog_4_method_5_code 17 = .ok (.aload_n 0, 1) := by decide +kernel
theorem smd_T_giveBack_18 : decode prog_4_method_5_code 18 = .ok (.iconst 2, 1) := by decide +kernel
theorem smd_T_giveBack_19 : decode prog_4_method_5_code 19 = .ok (.putfield 35, 3) := by decide +kernel
theorem smd_T_giveBack_22 : decode prog_4_method_5_code 22 = .ok (.aload_n 0, 1) := by decide +kernel
theorem smd_T_giveBack_23 : decode prog_4_method_5_code 23 = .ok (.iload_n 1, 1) := by decide +kernel
theorem smd_T_giveBack_24 : decode prog_4_method_5_code 24 = .ok (.putfield 38, 3) := by decide +kernel
theorem smd_T_giveBack_27 : decode prog_4_method_5_code 27 = .ok (.goto 17, 3) := by decide +kernel
theorem smd_T_giveBack_30 : decode prog_4_method_5_code 30 = .ok (.aload_n 0, 1) := by decide +kernel
theorem smd_T_giveBack_31 : decode prog_4_method_5_code 31 = .ok (.aload_n 0, 1) := by decide +kernel
theorem smd_T_giveBack_32 : decode prog_4_method_5_code 32 = .ok (.getfield 21, 3) := by decide +kernel
theorem smd_T_giveBack_35 : decode prog_4_method_5_code 35 = .ok (.aload_n 0, 1) := by decide +kernel
theorem smd_T_giveBack_36 : decode prog_4_method_5_code 36 = .ok (.getfield 27, 3) := by decide +kernel
theorem smd_T_giveBack_39 : decode prog_4_method_5_code 39 = .ok (.iaload, 1) := by decide +kernel
theorem smd_T_giveBack_40 : decode prog_4_method_5_code 40 = .ok (.iload_n 1, 1) := by decide +kernel
theorem smd_T_giveBack_41 : decode prog_4_method_5_code 41 = .ok (.invokevirtual 31, 3) := by decide +kernel
theorem smd_T_giveBack_44 : decode prog_4_method_5_code 44 = .ok (.return_, 1) := by decide +kernel
theorem smd_T_fail_0 : decode prog_4_method_6_code 0 = .ok (.aload_n 0, 1) := by decide +kernel
theorem smd_T_fail_1 : decode prog_4_method_6_code 1 = .ok (.iconst 0, 1) := by decide +kernel
theorem smd_T_fail_2 : decode prog_4_method_6_code 2 = .ok (.putfield 27, 3) := by decide +kernel
theorem smd_T_fail_5 : decode prog_4_method_6_code 5 = .ok (.aload_n 0, 1) := by decide +kernel
theorem smd_T_fail_6 : decode prog_4_method_6_code 6 = .ok (.iconst 3, 1) := by decide +kernel
theorem smd_T_fail_7 : decode prog_4_method_6_code 7 = .ok (.putfield 35, 3) := by decide +kernel
theorem smd_T_fail_10 : decode prog_4_method_6_code 10 = .ok (.return_, 1) := by decide +kernel
theorem smd_T_enqueue_0 : decode prog_4_method_7_code 0 = .ok (.aload_n 0, 1) := by decide +kernel
theorem smd_T_enqueue_1 : decode prog_4_method_7_code 1 = .ok (.getfield 24, 3) := by decide +kernel
theorem smd_T_enqueue_4 : decode prog_4_method_7_code 4 = .ok (.aload_n 0, 1) := by decide +kernel
theorem smd_T_enqueue_5 : decode prog_4_method_7_code 5 = .ok (.getfield 41, 3) := by decide +kernel
theorem smd_T_enqueue_8 : decode prog_4_method_7_code 8 = .ok (.iload_n 1, 1) := by decide +kernel
theorem smd_T_enqueue_9 : decode prog_4_method_7_code 9 = .ok (.iastore, 1) := by decide +kernel
theorem smd_T_enqueue_10 : decode prog_4_method_7_code 10 = .ok (.aload_n 0, 1) := by decide +kernel
theorem smd_T_enqueue_11 : decode prog_4_method_7_code 11 = .ok (.dup, 1) := by decide +kernel
theorem smd_T_enqueue_12 : decode prog_4_method_7_code 12 = .ok (.getfield 41, 3) := by decide +kernel
theorem smd_T_enqueue_15 : decode prog_4_method_7_code 15 = .ok (.iconst 1, 1) := by decide +kernel
theorem smd_T_enqueue_16 : decode prog_4_method_7_code 16 = .ok (.iadd, 1) := by decide +kernel
theorem smd_T_enqueue_17 : decode prog_4_method_7_code 17 = .ok (.putfield 41, 3) := by decide +kernel
theorem smd_T_enqueue_20 : decode prog_4_method_7_code 20 = .ok (.return_, 1) := by decide +kernel
theorem smd_T_takeOldest_0 : decode prog_4_method_8_code 0 = .ok (.aload_n 0, 1) := by decide +kernel
theorem smd_T_takeOldest_1 : decode prog_4_method_8_code 1 = .ok (.getfield 24, 3) := by decide +kernel
theorem smd_T_takeOldest_4 : decode prog_4_method_8_code 4 = .ok (.iconst 0, 1) := by decide +kernel
theorem smd_T_takeOldest_5 : decode prog_4_method_8_code 5 = .ok (.iaload, 1) := by decide +kernel
theorem smd_T_takeOldest_6 : decode prog_4_method_8_code 6 = .ok (.istore_n 1, 1) := by decide +kernel
theorem smd_T_takeOldest_7 : decode prog_4_method_8_code 7 = .ok (.iconst 1, 1) := by decide +kernel
theorem smd_T_takeOldest_8 : decode prog_4_method_8_code 8 = .ok (.istore_n 2, 1) := by decide +kernel
theorem smd_T_takeOldest_9 : decode prog_4_method_8_code 9 = .ok (.iload_n 2, 1) := by decide +kernel
theorem smd_T_takeOldest_10 : decode prog_4_method_8_code 10 = .ok (.aload_n 0, 1) := by decide +kernel
theorem smd_T_takeOldest_11 : decode prog_4_method_8_code 11 = .ok (.getfield 41, 3) := by decide +kernel
theorem smd_T_takeOldest_14 : decode prog_4_method_8_code 14 = .ok (.if_icmp .ge 23, 3) := by decide +kernel
theorem smd_T_takeOldest_17 : decode prog_4_method_8_code 17 = .ok (.aload_n 0, 1) := by decide +kernel
theorem smd_T_takeOldest_18 : decode prog_4_method_8_code 18 = .ok (.getfield 24, 3) := by decide +kernel
theorem smd_T_takeOldest_21 : decode prog_4_method_8_code 21 = .ok (.iload_n 2, 1) := by decide +kernel
theorem smd_T_takeOldest_22 : decode prog_4_method_8_code 22 = .ok (.iconst 1, 1) := by decide +kernel
theorem smd_T_takeOldest_23 : decode prog_4_method_8_code 23 = .ok (.isub, 1) := by decide +kernel
theorem smd_T_takeOldest_24 : decode prog_4_method_8_code 24 = .ok (.aload_n 0, 1) := by decide +kernel
theorem smd_T_takeOldest_25 : decode prog_4_method_8_code 25 = .ok (.getfield 24, 3) := by decide +kernel
theorem smd_T_takeOldest_28 : decode prog_4_method_8_code 28 = .ok (.iload_n 2, 1) := by decide +kernel
theorem smd_T_takeOldest_29 : decode prog_4_method_8_code 29 = .ok (.iaload, 1) := by decide +kernel
theorem smd_T_takeOldest_30 : decode prog_4_method_8_code 30 = .ok (.iastore, 1) := by decide +kernel
theorem smd_T_takeOldest_31 : decode prog_4_method_8_code 31 = .ok (.iinc 2 1, 3) := by decide +kernel
theorem smd_T_takeOldest_34 : decode prog_4_method_8_code 34 = .ok (.goto (-25), 3) := by decide +kernel
theorem smd_T_takeOldest_37 : decode prog_4_method_8_code 37 = .ok (.aload_n 0, 1) := by decide +kernel
theorem smd_T_takeOldest_38 : decode prog_4_method_8_code 38 = .ok (.dup, 1) := by decide +kernel
theorem smd_T_takeOldest_39 : decode prog_4_method_8_code 39 = .ok (.getfield 41, 3) := by decide +kernel
theorem smd_T_takeOldest_42 : decode prog_4_method_8_code 42 = .ok (.iconst 1, 1) := by decide +kernel
theorem smd_T_takeOldest_43 : decode prog_4_method_8_code 43 = .ok (.isub, 1) := by decide +kernel
theorem smd_T_takeOldest_44 : decode prog_4_method_8_code 44 = .ok (.putfield 41, 3) := by decide +kernel
theorem smd_T_takeOldest_47 : decode prog_4_method_8_code 47 = .ok (.iload_n 1, 1) := by decide +kernel
theorem smd_T_takeOldest_48 : decode prog_4_method_8_code 48 = .ok (.ireturn, 1) := by decide +kernel
theorem smd_V_init_0 : decode prog_5_method_1_code 0 = .ok (.aload_n 0, 1) := by decide +kernel
theorem smd_V_init_1 : decode prog_5_method_1_code 1 = .ok (.invokespecial 3, 3) := by decide +kernel
theorem smd_V_init_4 : decode prog_5_method_1_code 4 = .ok (.aload_n 0, 1) := by decide +kernel
theorem smd_V_init_5 : decode prog_5_method_1_code 5 = .ok (.bipush 6, 2) := by decide +kernel
theorem smd_V_init_7 : decode prog_5_method_1_code 7 = .ok (.newarray .int, 2) := by decide +kernel
theorem smd_V_init_9 : decode prog_5_method_1_code 9 = .ok (.putfield 9, 3) := by decide +kernel
theorem smd_V_init_12 : decode prog_5_method_1_code 12 = .ok (.aload_n 0, 1) := by decide +kernel
theorem smd_V_init_13 : decode prog_5_method_1_code 13 = .ok (.bipush 72, 2) := by decide +kernel
theorem smd_V_init_15 : decode prog_5_method_1_code 15 = .ok (.newarray .int, 2) := by decide +kernel
theorem smd_V_init_17 : decode prog_5_method_1_code 17 = .ok (.putfield 15, 3) := by decide +kernel
theorem smd_V_init_20 : decode prog_5_method_1_code 20 = .ok (.aload_n 0, 1) := by decide +kernel
theorem smd_V_init_21 : decode prog_5_method_1_code 21 = .ok (.bipush 72, 2) := by decide +kernel
theorem smd_V_init_23 : decode prog_5_method_1_code 23 = .ok (.newarray .int, 2) := by decide +kernel
theorem smd_V_init_25 : decode prog_5_method_1_code 25 = .ok (.putfield 18, 3) := by decide +kernel
theorem smd_V_init_28 : decode prog_5_method_1_code 28 = .ok (.aload_n 0, 1) := by decide +kernel
theorem smd_V_init_29 : decode prog_5_method_1_code 29 = .ok (.bipush 72, 2) := by decide +kernel
theorem smd_V_init_31 : decode prog_5_method_1_code 31 = .ok (.newarray .int, 2) := by decide +kernel
theorem smd_V_init_33 : decode prog_5_method_1_code 33 = .ok (.putfield 21, 3) := by decide +kernel
theorem smd_V_init_36 : decode prog_5_method_1_code 36 = .ok (.aload_n 0, 1) := by decide +kernel
theorem smd_V_init_37 : decode prog_5_method_1_code 37 = .ok (.bipush 72, 2) := by decide +kernel
theorem smd_V_init_39 : decode prog_5_method_1_code 39 = .ok (.newarray .int, 2) := by decide +kernel
theorem smd_V_init_41 : decode prog_5_method_1_code 41 = .ok (.putfield 24, 3) := by decide +kernel
theorem smd_V_init_44 : decode prog_5_method_1_code 44 = .ok (.aload_n 0, 1) := by decide +kernel
theorem smd_V_init_45 : decode prog_5_method_1_code 45 = .ok (.iconst 3, 1) := by decide +kernel
theorem smd_V_init_46 : decode prog_5_method_1_code 46 = .ok (.newarray .int, 2) := by decide +kernel
theorem smd_V_init_48 : decode prog_5_method_1_code 48 = .ok (.putfield 27, 3) := by decide +kernel
theorem smd_V_init_51 : decode prog_5_method_1_code 51 = .ok (.return_, 1) := by decide +kernel
theorem smd_V_at_0 : decode prog_5_method_2_code 0 = .ok (.iload_n 0, 1) := by decide +kernel
theorem smd_V_at_1 : decode prog_5_method_2_code 1 = .ok (.bipush 12, 2) := by decide +kernel
theorem smd_V_at_3 : decode prog_5_method_2_code 3 = .ok (.imul, 1) := by decide +kernel
theorem smd_V_at_4 : decode prog_5_method_2_code 4 = .ok (.iload_n 1, 1) := by decide +kernel
theorem smd_V_at_5 : decode prog_5_method_2_code 5 = .ok (.iadd, 1) := by decide +kernel
theorem smd_V_at_6 : decode prog_5_method_2_code 6 = .ok (.ireturn, 1) := by decide +kernel
theorem smd_V_hasProcedure_0 : decode prog_5_method_3_code 0 = .ok (.iload_n 1, 1) := by decide +kernel
theorem smd_V_hasProcedure_1 : decode prog_5_method_3_code 1 = .ok (.bipush 6, 2) := by decide +kernel
theorem smd_V_hasProcedure_3 : decode prog_5_method_3_code 3 = .ok (.invokestatic 30, 3) := by decide +kernel
theorem smd_V_hasProcedure_6 : decode prog_5_method_3_code 6 = .ok (.ifCond .eq 16, 3) := by decide +kernel
theorem smd_V_hasProcedure_9 : decode prog_5_method_3_code 9 = .ok (.aload_n 0, 1) := by decide +kernel
theorem smd_V_hasProcedure_10 : decode prog_5_method_3_code 10 = .ok (.getfield 9, 3) := by decide +kernel
theorem smd_V_hasProcedure_13 : decode prog_5_method_3_code 13 = .ok (.iload_n 1, 1) := by decide +kernel
theorem smd_V_hasProcedure_14 : decode prog_5_method_3_code 14 = .ok (.iaload, 1) := by decide +kernel
theorem smd_V_hasProcedure_15 : decode prog_5_method_3_code 15 = .ok (.ifCond .le 7, 3) := by decide +kernel
theorem smd_V_hasProcedure_18 : decode prog_5_method_3_code 18 = .ok (.iconst 1, 1) := by decide +kernel
theorem smd_V_hasProcedure_19 : decode prog_5_method_3_code 19 = .ok (.goto 4, 3) := by decide +kernel
theorem smd_V_hasProcedure_22 : decode prog_5_method_3_code 22 = .ok (.iconst 0, 1) := by decide +kernel
theorem smd_V_hasProcedure_23 : decode prog_5_method_3_code 23 = .ok (.ireturn, 1) := by decide +kernel
theorem smd_V_write_0 : decode prog_5_method_4_code 0 = .ok (.iload_n 1, 1) := by decide +kernel
theorem smd_V_write_1 : decode prog_5_method_4_code 1 = .ok (.iload_n 2, 1) := by decide +kernel
theorem smd_V_write_2 : decode prog_5_method_4_code 2 = .ok (.invokestatic 34, 3) := by decide +kernel
theorem smd_V_write_5 : decode prog_5_method_4_code 5 = .ok (.istore 7, 2) := by decide +kernel
theorem smd_V_write_7 : decode prog_5_method_4_code 7 = .ok (.aload_n 0, 1) := by decide +kernel
theorem smd_V_write_8 : decode prog_5_method_4_code 8 = .ok (.getfield 15, 3) := by decide +kernel
theorem smd_V_write_11 : decode prog_5_method_4_code 11 = .ok (.iload 7, 2) := by decide +kernel
theorem smd_V_write_13 : decode prog_5_method_4_code 13 = .ok (.iload_n 3, 1) := by decide +kernel
theorem smd_V_write_14 : decode prog_5_method_4_code 14 = .ok (.iastore, 1) := by decide +kernel
theorem smd_V_write_15 : decode prog_5_method_4_code 15 = .ok (.aload_n 0, 1) := by decide +kernel
theorem smd_V_write_16 : decode prog_5_method_4_code 16 = .ok (.getfield 18, 3) := by decide +kernel
theorem smd_V_write_19 : decode prog_5_method_4_code 19 = .ok (.iload 7, 2) := by decide +kernel
theorem smd_V_write_21 : decode prog_5_method_4_code 21 = .ok (.iload 4, 2) := by decide +kernel
theorem smd_V_write_23 : decode prog_5_method_4_code 23 = .ok (.iastore, 1) := by decide +kernel
theorem smd_V_write_24 : decode prog_5_method_4_code 24 = .ok (.aload_n 0, 1) := by decide +kernel
theorem smd_V_write_25 : decode prog_5_method_4_code 25 = .ok (.getfield 21, 3) := by decide +kernel
theorem smd_V_write_28 : decode prog_5_method_4_code 28 = .ok (.iload 7, 2) := by decide +kernel
theorem smd_V_write_30 : decode prog_5_method_4_code 30 = .ok (.iload 5, 2) := by decide +kernel
theorem smd_V_write_32 : decode prog_5_method_4_code 32 = .ok (.iastore, 1) := by decide +kernel
theorem smd_V_write_33 : decode prog_5_method_4_code 33 = .ok (.aload_n 0, 1) := by decide +kernel
theorem smd_V_write_34 : decode prog_5_method_4_code 34 = .ok (.getfield 24, 3) := by decide +kernel
theorem smd_V_write_37 : decode prog_5_method_4_code 37 = .ok (.iload 7, 2) := by decide +kernel
theorem smd_V_write_39 : decode prog_5_method_4_code 39 = .ok (.iload 6, 2) := by decide +kernel
theorem smd_V_write_41 : decode prog_5_method_4_code 41 = .ok (.iastore, 1) := by decide +kernel
theorem smd_V_write_42 : decode prog_5_method_4_code 42 = .ok (.aload_n 0, 1) := by decide +kernel
theorem smd_V_write_43 : decode prog_5_method_4_code 43 = .ok (.getfield 9, 3) := by decide +kernel
theorem smd_V_write_46 : decode prog_5_method_4_code 46 = .ok (.iload_n 1, 1) := by decide +kernel
theorem smd_V_write_47 : decode prog_5_method_4_code 47 = .ok (.aload_n 0, 1) := by decide +kernel
theorem smd_V_write_48 : decode prog_5_method_4_code 48 = .ok (.getfield 9, 3) := by decide +kernel
theorem smd_V_write_51 : decode prog_5_method_4_code 51 = .ok (.iload_n 1, 1) := by decide +kernel
theorem smd_V_write_52 : decode prog_5_method_4_code 52 = .ok (.iaload, 1) := by decide +kernel
theorem smd_V_write_53 : decode prog_5_method_4_code 53 = .ok (.iload_n 2, 1) := by decide +kernel
theorem smd_V_write_54 : decode prog_5_method_4_code 54 = .ok (.iconst 1, 1) := by decide +kernel
theorem smd_V_write_55 : decode prog_5_method_4_code 55 = .ok (.iadd, 1) := by decide +kernel
theorem smd_V_write_56 : decode prog_5_method_4_code 56 = .ok (.invokestatic 38, 3) := by decide +kernel
theorem smd_V_write_59 : decode prog_5_method_4_code 59 = .ok (.iastore, 1) := by decide +kernel
theorem smd_V_write_60 : decode prog_5_method_4_code 60 = .ok (.return_, 1) := by decide +kernel
theorem smd_V_copyFrom_0 : decode prog_5_method_5_code 0 = .ok (.aload_n 1, 1) := by decide +kernel
theorem smd_V_copyFrom_1 : decode prog_5_method_5_code 1 = .ok (.getfield 9, 3) := by decide +kernel
theorem smd_V_copyFrom_4 : decode prog_5_method_5_code 4 = .ok (.iconst 0, 1) := by decide +kernel
theorem smd_V_copyFrom_5 : decode prog_5_method_5_code 5 = .ok (.aload_n 0, 1) := by decide +kernel
theorem smd_V_copyFrom_6 : decode prog_5_method_5_code 6 = .ok (.getfield 9, 3) := by decide +kernel
theorem smd_V_copyFrom_9 : decode prog_5_method_5_code 9 = .ok (.iconst 0, 1) := by decide +kernel
theorem smd_V_copyFrom_10 : decode prog_5_method_5_code 10 = .ok (.aload_n 0, 1) := by decide +kernel
theorem smd_V_copyFrom_11 : decode prog_5_method_5_code 11 = .ok (.getfield 9, 3) := by decide +kernel
theorem smd_V_copyFrom_14 : decode prog_5_method_5_code 14 = .ok (.arraylength, 1) := by decide +kernel
theorem smd_V_copyFrom_15 : decode prog_5_method_5_code 15 = .ok (.invokestatic 43, 3) := by decide +kernel
theorem smd_V_copyFrom_18 : decode prog_5_method_5_code 18 = .ok (.aload_n 1, 1) := by decide +kernel
theorem smd_V_copyFrom_19 : decode prog_5_method_5_code 19 = .ok (.getfield 15, 3) := by decide +kernel
theorem smd_V_copyFrom_22 : decode prog_5_method_5_code 22 = .ok (.iconst 0, 1) := by decide +kernel
theorem smd_V_copyFrom_23 : decode prog_5_method_5_code 23 = .ok (.aload_n 0, 1) := by decide +kernel
theorem smd_V_copyFrom_24 : decode prog_5_method_5_code 24 = .ok (.getfield 15, 3) := by decide +kernel
theorem smd_V_copyFrom_27 : decode prog_5_method_5_code 27 = .ok (.iconst 0, 1) := by decide +kernel
theorem smd_V_copyFrom_28 : decode prog_5_method_5_code 28 = .ok (.aload_n 0, 1) := by decide +kernel
theorem smd_V_copyFrom_29 : decode prog_5_method_5_code 29 = .ok (.getfield 15, 3) := by decide +kernel
theorem smd_V_copyFrom_32 : decode prog_5_method_5_code 32 = .ok (.arraylength, 1) := by decide +kernel
theorem smd_V_copyFrom_33 : decode prog_5_method_5_code 33 = .ok (.invokestatic 43, 3) := by decide +kernel
theorem smd_V_copyFrom_36 : decode prog_5_method_5_code 36 = .ok (.aload_n 1, 1) := by decide +kernel
theorem smd_V_copyFrom_37 : decode prog_5_method_5_code 37 = .ok (.getfield 18, 3) := by decide +kernel
theorem smd_V_copyFrom_40 : decode prog_5_method_5_code 40 = .ok (.iconst 0, 1) := by decide +kernel
theorem smd_V_copyFrom_41 : decode prog_5_method_5_code 41 = .ok (.aload_n 0, 1) := by decide +kernel
theorem smd_V_copyFrom_42 : decode prog_5_method_5_code 42 = .ok (.getfield 18, 3) := by decide +kernel
theorem smd_V_copyFrom_45 : decode prog_5_method_5_code 45 = .ok (.iconst 0, 1) := by decide +kernel
theorem smd_V_copyFrom_46 : decode prog_5_method_5_code 46 = .ok (.aload_n 0, 1) := by decide +kernel
theorem smd_V_copyFrom_47 : decode prog_5_method_5_code 47 = .ok (.getfield 18, 3) := by decide +kernel
theorem smd_V_copyFrom_50 : decode prog_5_method_5_code 50 = .ok (.arraylength, 1) := by decide +kernel
theorem smd_V_copyFrom_51 : decode prog_5_method_5_code 51 = .ok (.invokestatic 43, 3) := by decide +kernel
theorem smd_V_copyFrom_54 : decode prog_5_method_5_code 54 = .ok (.aload_n 1, 1) := by decide +kernel
theorem smd_V_copyFrom_55 : decode prog_5_method_5_code 55 = .ok (.getfield 21, 3) := by decide +kernel
theorem smd_V_copyFrom_58 : decode prog_5_method_5_code 58 = .ok (.iconst 0, 1) := by decide +kernel
theorem smd_V_copyFrom_59 : decode prog_5_method_5_code 59 = .ok (.aload_n 0, 1) := by decide +kernel
theorem smd_V_copyFrom_60 : decode prog_5_method_5_code 60 = .ok (.getfield 21, 3) := by decide +kernel
theorem smd_V_copyFrom_63 : decode prog_5_method_5_code 63 = .ok (.iconst 0, 1) := by decide +kernel
theorem smd_V_copyFrom_64 : decode prog_5_method_5_code 64 = .ok (.aload_n 0, 1) := by decide +kernel
theorem smd_V_copyFrom_65 : decode prog_5_method_5_code 65 = .ok (.getfield 21, 3) := by decide +kernel
theorem smd_V_copyFrom_68 : decode prog_5_method_5_code 68 = .ok (.arraylength, 1) := by decide +kernel
theorem smd_V_copyFrom_69 : decode prog_5_method_5_code 69 = .ok (.invokestatic 43, 3) := by decide +kernel
theorem smd_V_copyFrom_72 : decode prog_5_method_5_code 72 = .ok (.aload_n 1, 1) := by decide +kernel
theorem smd_V_copyFrom_73 : decode prog_5_method_5_code 73 = .ok (.getfield 24, 3) := by decide +kernel
theorem smd_V_copyFrom_76 : decode prog_5_method_5_code 76 = .ok (.iconst 0, 1) := by decide +kernel
theorem smd_V_copyFrom_77 : decode prog_5_method_5_code 77 = .ok (.aload_n 0, 1) := by decide +kernel
theorem smd_V_copyFrom_78 : decode prog_5_method_5_code 78 = .ok (.getfield 24, 3) := by decide +kernel
theorem smd_V_copyFrom_81 : decode prog_5_method_5_code 81 = .ok (.iconst 0, 1) := by decide +kernel
theorem smd_V_copyFrom_82 : decode prog_5_method_5_code 82 = .ok (.aload_n 0, 1) := by decide +kernel
theorem smd_V_copyFrom_83 : decode prog_5_method_5_code 83 = .ok (.getfield 24, 3) := by decide +kernel
theorem smd_V_copyFrom_86 : decode prog_5_method_5_code 86 = .ok (.arraylength, 1) := by decide +kernel
theorem smd_V_copyFrom_87 : decode prog_5_method_5_code 87 = .ok (.invokestatic 43, 3) := by decide +kernel
theorem smd_V_copyFrom_90 : decode prog_5_method_5_code 90 = .ok (.aload_n 1, 1) := by decide +kernel
theorem smd_V_copyFrom_91 : decode prog_5_method_5_code 91 = .ok (.getfield 27, 3) := by decide +kernel
theorem smd_V_copyFrom_94 : decode prog_5_method_5_code 94 = .ok (.iconst 0, 1) := by decide +kernel
theorem smd_V_copyFrom_95 : decode prog_5_method_5_code 95 = .ok (.aload_n 0, 1) := by decide +kernel
theorem smd_V_copyFrom_96 : decode prog_5_method_5_code 96 = .ok (.getfield 27, 3) := by decide +kernel
theorem smd_V_copyFrom_99 : decode prog_5_method_5_code 99 = .ok (.iconst 0, 1) := by decide +kernel
theorem smd_V_copyFrom_100 : decode prog_5_method_5_code 100 = .ok (.aload_n 0, 1) := by decide +kernel
theorem smd_V_copyFrom_101 : decode prog_5_method_5_code 101 = .ok (.getfield 27, 3) := by decide +kernel
theorem smd_V_copyFrom_104 : decode prog_5_method_5_code 104 = .ok (.arraylength, 1) := by decide +kernel
theorem smd_V_copyFrom_105 : decode prog_5_method_5_code 105 = .ok (.invokestatic 43, 3) := by decide +kernel
theorem smd_V_copyFrom_108 : decode prog_5_method_5_code 108 = .ok (.return_, 1) := by decide +kernel
theorem smd_V_hasSameProcedure_0 : decode prog_5_method_6_code 0 = .ok (.aload_n 0, 1) := by decide +kernel
theorem smd_V_hasSameProcedure_1 : decode prog_5_method_6_code 1 = .ok (.getfield 9, 3) := by decide +kernel
theorem smd_V_hasSameProcedure_4 : decode prog_5_method_6_code 4 = .ok (.iload_n 2, 1) := by decide +kernel
theorem smd_V_hasSameProcedure_5 : decode prog_5_method_6_code 5 = .ok (.iaload, 1) := by decide +kernel
theorem smd_V_hasSameProcedure_6 : decode prog_5_method_6_code 6 = .ok (.aload_n 1, 1) := by decide +kernel
theorem smd_V_hasSameProcedure_7 : decode prog_5_method_6_code 7 = .ok (.getfield 9, 3) := by decide +kernel
theorem smd_V_hasSameProcedure_10 : decode prog_5_method_6_code 10 = .ok (.iload_n 2, 1) := by decide +kernel
theorem smd_V_hasSameProcedure_11 : decode prog_5_method_6_code 11 = .ok (.iaload, 1) := by decide +kernel
theorem smd_V_hasSameProcedure_12 : decode prog_5_method_6_code 12 = .ok (.if_icmp .eq 5, 3) := by decide +kernel
theorem smd_V_hasSameProcedure_15 : decode prog_5_method_6_code 15 = .ok (.iconst 0, 1) := by decide +kernel
theorem smd_V_hasSameProcedure_16 : decode prog_5_method_6_code 16 = .ok (.ireturn, 1) := by decide +kernel
theorem smd_V_hasSameProcedure_17 : decode prog_5_method_6_code 17 = .ok (.iload_n 2, 1) := by decide +kernel
theorem smd_V_hasSameProcedure_18 : decode prog_5_method_6_code 18 = .ok (.iconst 0, 1) := by decide +kernel
theorem smd_V_hasSameProcedure_19 : decode prog_5_method_6_code 19 = .ok (.invokestatic 34, 3) := by decide +kernel
theorem smd_V_hasSameProcedure_22 : decode prog_5_method_6_code 22 = .ok (.istore_n 3, 1) := by decide +kernel
theorem smd_V_hasSameProcedure_23 : decode prog_5_method_6_code 23 = .ok (.iload_n 3, 1) := by decide +kernel
theorem smd_V_hasSameProcedure_24 : decode prog_5_method_6_code 24 = .ok (.iload_n 2, 1) := by decide +kernel
theorem smd_V_hasSameProcedure_25 : decode prog_5_method_6_code 25 = .ok (.aload_n 0, 1) := by decide +kernel
theorem smd_V_hasSameProcedure_26 : decode prog_5_method_6_code 26 = .ok (.getfield 9, 3) := by decide +kernel
theorem smd_V_hasSameProcedure_29 : decode prog_5_method_6_code 29 = .ok (.iload_n 2, 1) := by decide +kernel
theorem smd_V_hasSameProcedure_30 : decode prog_5_method_6_code 30 = .ok (.iaload, 1) := by decide +kernel
theorem smd_V_hasSameProcedure_31 : decode prog_5_method_6_code 31 = .ok (.invokestatic 34, 3) := by decide +kernel
theorem smd_V_hasSameProcedure_34 : decode prog_5_method_6_code 34 = .ok (.if_icmp .ge 71, 3) := by decide +kernel
theorem smd_V_hasSameProcedure_37 : decode prog_5_method_6_code 37 = .ok (.aload_n 0, 1) := by decide +kernel
theorem smd_V_hasSameProcedure_38 : decode prog_5_method_6_code 38 = .ok (.getfield 15, 3) := by decide +kernel
theorem smd_V_hasSameProcedure_41 : decode prog_5_method_6_code 41 = .ok (.iload_n 3, 1) := by decide +kernel
theorem smd_V_hasSameProcedure_42 : decode prog_5_method_6_code 42 = .ok (.iaload, 1) := by decide +kernel
theorem smd_V_hasSameProcedure_43 : decode prog_5_method_6_code 43 = .ok (.aload_n 1, 1) := by decide +kernel
theorem smd_V_hasSameProcedure_44 : decode prog_5_method_6_code 44 = .ok (.getfield 15, 3) := by decide +kernel
theorem smd_V_hasSameProcedure_47 : decode prog_5_method_6_code 47 = .ok (.iload_n 3, 1) := by decide +kernel
theorem smd_V_hasSameProcedure_48 : decode prog_5_method_6_code 48 = .ok (.iaload, 1) := by decide +kernel
theorem smd_V_hasSameProcedure_49 : decode prog_5_method_6_code 49 = .ok (.if_icmp .ne 48, 3) := by decide +kernel
theorem smd_V_hasSameProcedure_52 : decode prog_5_method_6_code 52 = .ok (.aload_n 0, 1) := by decide +kernel
theorem smd_V_hasSameProcedure_53 : decode prog_5_method_6_code 53 = .ok (.getfield 18, 3) := by decide +kernel
theorem smd_V_hasSameProcedure_56 : decode prog_5_method_6_code 56 = .ok (.iload_n 3, 1) := by decide +kernel
theorem smd_V_hasSameProcedure_57 : decode prog_5_method_6_code 57 = .ok (.iaload, 1) := by decide +kernel
theorem smd_V_hasSameProcedure_58 : decode prog_5_method_6_code 58 = .ok (.aload_n 1, 1) := by decide +kernel
theorem smd_V_hasSameProcedure_59 : decode prog_5_method_6_code 59 = .ok (.getfield 18, 3) := by decide +kernel
theorem smd_V_hasSameProcedure_62 : decode prog_5_method_6_code 62 = .ok (.iload_n 3, 1) := by decide +kernel
theorem smd_V_hasSameProcedure_63 : decode prog_5_method_6_code 63 = .ok (.iaload, 1) := by decide +kernel
theorem smd_V_hasSameProcedure_64 : decode prog_5_method_6_code 64 = .ok (.if_icmp .ne 33, 3) := by decide +kernel
theorem smd_V_hasSameProcedure_67 : decode prog_5_method_6_code 67 = .ok (.aload_n 0, 1) := by decide +kernel
theorem smd_V_hasSameProcedure_68 : decode prog_5_method_6_code 68 = .ok (.getfield 21, 3) := by decide +kernel
theorem smd_V_hasSameProcedure_71 : decode prog_5_method_6_code 71 = .ok (.iload_n 3, 1) := by decide +kernel
theorem smd_V_hasSameProcedure_72 : decode prog_5_method_6_code 72 = .ok (.iaload, 1) := by decide +kernel
theorem smd_V_hasSameProcedure_73 : decode prog_5_method_6_code 73 = .ok (.aload_n 1, 1) := by decide +kernel
theorem smd_V_hasSameProcedure_74 : decode prog_5_method_6_code 74 = .ok (.getfield 21, 3) := by decide +kernel
theorem smd_V_hasSameProcedure_77 : decode prog_5_method_6_code 77 = .ok (.iload_n 3, 1) := by decide +kernel
theorem smd_V_hasSameProcedure_78 : decode prog_5_method_6_code 78 = .ok (.iaload, 1) := by decide +kernel
theorem smd_V_hasSameProcedure_79 : decode prog_5_method_6_code 79 = .ok (.if_icmp .ne 18, 3) := by decide +kernel
theorem smd_V_hasSameProcedure_82 : decode prog_5_method_6_code 82 = .ok (.aload_n 0, 1) := by decide +kernel
theorem smd_V_hasSameProcedure_83 : decode prog_5_method_6_code 83 = .ok (.getfield 24, 3) := by decide +kernel
theorem smd_V_hasSameProcedure_86 : decode prog_5_method_6_code 86 = .ok (.iload_n 3, 1) := by decide +kernel
theorem smd_V_hasSameProcedure_87 : decode prog_5_method_6_code 87 = .ok (.iaload, 1) := by decide +kernel
theorem smd_V_hasSameProcedure_88 : decode prog_5_method_6_code 88 = .ok (.aload_n 1, 1) := by decide +kernel
theorem smd_V_hasSameProcedure_89 : decode prog_5_method_6_code 89 = .ok (.getfield 24, 3) := by decide +kernel
theorem smd_V_hasSameProcedure_92 : decode prog_5_method_6_code 92 = .ok (.iload_n 3, 1) := by decide +kernel
theorem smd_V_hasSameProcedure_93 : decode prog_5_method_6_code 93 = .ok (.iaload, 1) := by decide +kernel
theorem smd_V_hasSameProcedure_94 : decode prog_5_method_6_code 94 = .ok (.if_icmp .eq 5, 3) := by decide +kernel
theorem smd_V_hasSameProcedure_97 : decode prog_5_method_6_code 97 = .ok (.iconst 0, 1) := by decide +kernel
theorem smd_V_hasSameProcedure_98 : decode prog_5_method_6_code 98 = .ok (.ireturn, 1) := by decide +kernel
theorem smd_V_hasSameProcedure_99 : decode prog_5_method_6_code 99 = .ok (.iinc 3 1, 3) := by decide +kernel
theorem smd_V_hasSameProcedure_102 : decode prog_5_method_6_code 102 = .ok (.goto (-79), 3) := by decide +kernel
theorem smd_V_hasSameProcedure_105 : decode prog_5_method_6_code 105 = .ok (.iconst 1, 1) := by decide +kernel
theorem smd_V_hasSameProcedure_106 : decode prog_5_method_6_code 106 = .ok (.ireturn, 1) := by decide +kernel
theorem smd_V_usesTouchedType_0 : decode prog_5_method_7_code 0 = .ok (.iload_n 1, 1) := by decide +kernel
theorem smd_V_usesTouchedType_1 : decode prog_5_method_7_code 1 = .ok (.iconst 0, 1) := by decide +kernel
theorem smd_V_usesTouchedType_2 : decode prog_5_method_7_code 2 = .ok (.invokestatic 34, 3) := by decide +kernel
theorem smd_V_usesTouchedType_5 : decode prog_5_method_7_code 5 = .ok (.istore_n 3, 1) := by decide +kernel
theorem smd_V_usesTouchedType_6 : decode prog_5_method_7_code 6 = .ok (.iload_n 3, 1) := by decide +kernel
theorem smd_V_usesTouchedType_7 : decode prog_5_method_7_code 7 = .ok (.iload_n 1, 1) := by decide +kernel
theorem smd_V_usesTouchedType_8 : decode prog_5_method_7_code 8 = .ok (.aload_n 0, 1) := by decide +kernel
theorem smd_V_usesTouchedType_9 : decode prog_5_method_7_code 9 = .ok (.getfield 9, 3) := by decide +kernel
theorem smd_V_usesTouchedType_12 : decode prog_5_method_7_code 12 = .ok (.iload_n 1, 1) := by decide +kernel
theorem smd_V_usesTouchedType_13 : decode prog_5_method_7_code 13 = .ok (.iaload, 1) := by decide +kernel
theorem smd_V_usesTouchedType_14 : decode prog_5_method_7_code 14 = .ok (.invokestatic 34, 3) := by decide +kernel
theorem smd_V_usesTouchedType_17 : decode prog_5_method_7_code 17 = .ok (.if_icmp .ge 31, 3) := by decide +kernel
theorem smd_V_usesTouchedType_20 : decode prog_5_method_7_code 20 = .ok (.aload_n 0, 1) := by decide +kernel
theorem smd_V_usesTouchedType_21 : decode prog_5_method_7_code 21 = .ok (.iload_n 3, 1) := by decide +kernel
theorem smd_V_usesTouchedType_22 : decode prog_5_method_7_code 22 = .ok (.invokevirtual 49, 3) := by decide +kernel
theorem smd_V_usesTouchedType_25 : decode prog_5_method_7_code 25 = .ok (.istore 4, 2) := by decide +kernel
theorem smd_V_usesTouchedType_27 : decode prog_5_method_7_code 27 = .ok (.iload 4, 2) := by decide +kernel
theorem smd_V_usesTouchedType_29 : decode prog_5_method_7_code 29 = .ok (.iconst (-1), 1) := by decide +kernel
theorem smd_V_usesTouchedType_30 : decode prog_5_method_7_code 30 = .ok (.if_icmp .eq 12, 3) := by decide +kernel
theorem smd_V_usesTouchedType_33 : decode prog_5_method_7_code 33 = .ok (.aload_n 2, 1) := by decide +kernel
theorem smd_V_usesTouchedType_34 : decode prog_5_method_7_code 34 = .ok (.iload 4, 2) := by decide +kernel
theorem smd_V_usesTouchedType_36 : decode prog_5_method_7_code 36 = .ok (.baload, 1) := by decide +kernel
theorem smd_V_usesTouchedType_37 : decode prog_5_method_7_code 37 = .ok (.ifCond .eq 5, 3) := by decide +kernel
theorem smd_V_usesTouchedType_40 : decode prog_5_method_7_code 40 = .ok (.iconst 1, 1) := by decide +kernel
theorem smd_V_usesTouchedType_41 : decode prog_5_method_7_code 41 = .ok (.ireturn, 1) := by decide +kernel
theorem smd_V_usesTouchedType_42 : decode prog_5_method_7_code 42 = .ok (.iinc 3 1, 3) := by decide +kernel
theorem smd_V_usesTouchedType_45 : decode prog_5_method_7_code 45 = .ok (.goto (-39), 3) := by decide +kernel
theorem smd_V_usesTouchedType_48 : decode prog_5_method_7_code 48 = .ok (.iconst 0, 1) := by decide +kernel
theorem smd_V_usesTouchedType_49 : decode prog_5_method_7_code 49 = .ok (.ireturn, 1) := by decide +kernel
theorem smd_V_typeUsed_0 : decode prog_5_method_8_code 0 = .ok (.aload_n 0, 1) := by decide +kernel
theorem smd_V_typeUsed_1 : decode prog_5_method_8_code 1 = .ok (.getfield 15, 3) := by decide +kernel
theorem smd_V_typeUsed_4 : decode prog_5_method_8_code 4 = .ok (.iload_n 1, 1) := by decide +kernel
theorem smd_V_typeUsed_5 : decode prog_5_method_8_code 5 = .ok (.iaload, 1) := by decide +kernel
theorem smd_V_typeUsed_6 : decode prog_5_method_8_code 6 = .ok (.tableswitch 42 6 8 #[26, 33, 33], 26) := by decide +kernel
theorem smd_V_typeUsed_32 : decode prog_5_method_8_code 32 = .ok (.aload_n 0, 1) := by decide +kernel
theorem smd_V_typeUsed_33 : decode prog_5_method_8_code 33 = .ok (.getfield 21, 3) := by decide +kernel
theorem smd_V_typeUsed_36 : decode prog_5_method_8_code 36 = .ok (.iload_n 1, 1) := by decide +kernel
theorem smd_V_typeUsed_37 : decode prog_5_method_8_code 37 = .ok (.iaload, 1) := by decide +kernel
theorem smd_V_typeUsed_38 : decode prog_5_method_8_code 38 = .ok (.ireturn, 1) := by decide +kernel
theorem smd_V_typeUsed_39 : decode prog_5_method_8_code 39 = .ok (.aload_n 0, 1) := by decide +kernel
theorem smd_V_typeUsed_40 : decode prog_5_method_8_code 40 = .ok (.getfield 24, 3) := by decide +kernel
theorem smd_V_typeUsed_43 : decode prog_5_method_8_code 43 = .ok (.iload_n 1, 1) := by decide +kernel
theorem smd_V_typeUsed_44 : decode prog_5_method_8_code 44 = .ok (.iaload, 1) := by decide +kernel
theorem smd_V_typeUsed_45 : decode prog_5_method_8_code 45 = .ok (.iconst 4, 1) := by decide +kernel
theorem smd_V_typeUsed_46 : decode prog_5_method_8_code 46 = .ok (.idiv, 1) := by decide +kernel
theorem smd_V_typeUsed_47 : decode prog_5_method_8_code 47 = .ok (.ireturn, 1) := by decide +kernel
theorem smd_V_typeUsed_48 : decode prog_5_method_8_code 48 = .ok (.iconst (-1), 1) := by decide +kernel
theorem smd_V_typeUsed_49 : decode prog_5_method_8_code 49 = .ok (.ireturn, 1) := by decide +kernel
end
section
theorem smd_V_firstPoint_0 : decode prog_5_method_9_code 0 = .ok (.iconst 0, 1) := by decide +kernel
theorem smd_V_firstPoint_1 : decode prog_5_method_9_code 1 = .ok (.istore_n 3, 1) := by decide +kernel
theorem smd_V_firstPoint_2 : decode prog_5_method_9_code 2 = .ok (.iload_n 3, 1) := by decide +kernel
theorem smd_V_firstPoint_3 : decode prog_5_method_9_code 3 = .ok (.aload_n 0, 1) := by decide +kernel
theorem smd_V_firstPoint_4 : decode prog_5_method_9_code 4 = .ok (.getfield 9, 3) := by decide +kernel
theorem smd_V_firstPoint_7 : decode prog_5_method_9_code 7 = .ok (.iload_n 1, 1) := by decide +kernel
theorem smd_V_firstPoint_8 : decode prog_5_method_9_code 8 = .ok (.iaload, 1) := by decide +kernel
theorem smd_V_firstPoint_9 : decode prog_5_method_9_code 9 = .ok (.if_icmp .ge 40, 3) := by decide +kernel
theorem smd_V_firstPoint_12 : decode prog_5_method_9_code 12 = .ok (.aload_n 0, 1) := by decide +kernel
theorem smd_V_firstPoint_13 : decode prog_5_method_9_code 13 = .ok (.getfield 15, 3) := by decide +kernel
theorem smd_V_firstPoint_16 : decode prog_5_method_9_code 16 = .ok (.iload_n 1, 1) := by decide +kernel
theorem smd_V_firstPoint_17 : decode prog_5_method_9_code 17 = .ok (.iload_n 3, 1) := by decide +kernel
theorem smd_V_firstPoint_18 : decode prog_5_method_9_code 18 = .ok (.invokestatic 34, 3) := by decide +kernel
theorem smd_V_firstPoint_21 : decode prog_5_method_9_code 21 = .ok (.iaload, 1) := by decide +kernel
theorem smd_V_firstPoint_22 : decode prog_5_method_9_code 22 = .ok (.bipush 12, 2) := by decide +kernel
theorem smd_V_firstPoint_24 : decode prog_5_method_9_code 24 = .ok (.if_icmp .ne 19, 3) := by decide +kernel
theorem smd_V_firstPoint_27 : decode prog_5_method_9_code 27 = .ok (.aload_n 0, 1) := by decide +kernel
theorem smd_V_firstPoint_28 : decode prog_5_method_9_code 28 = .ok (.getfield 18, 3) := by decide +kernel
theorem smd_V_firstPoint_31 : decode prog_5_method_9_code 31 = .ok (.iload_n 1, 1) := by decide +kernel
theorem smd_V_firstPoint_32 : decode prog_5_method_9_code 32 = .ok (.iload_n 3, 1) := by decide +kernel
theorem smd_V_firstPoint_33 : decode prog_5_method_9_code 33 = .ok (.invokestatic 34, 3) := by decide +kernel
theorem smd_V_firstPoint_36 : decode prog_5_method_9_code 36 = .ok (.iaload, 1) := by decide +kernel
theorem smd_V_firstPoint_37 : decode prog_5_method_9_code 37 = .ok (.iload_n 2, 1) := by decide +kernel
theorem smd_V_firstPoint_38 : decode prog_5_method_9_code 38 = .ok (.if_icmp .ne 5, 3) := by decide +kernel
theorem smd_V_firstPoint_41 : decode prog_5_method_9_code 41 = .ok (.iload_n 3, 1) := by decide +kernel
theorem smd_V_firstPoint_42 : decode prog_5_method_9_code 42 = .ok (.ireturn, 1) := by decide +kernel
theorem smd_V_firstPoint_43 : decode prog_5_method_9_code 43 = .ok (.iinc 3 1, 3) := by decide +kernel
theorem smd_V_firstPoint_46 : decode prog_5_method_9_code 46 = .ok (.goto (-44), 3) := by decide +kernel
theorem smd_V_firstPoint_49 : decode prog_5_method_9_code 49 = .ok (.iconst (-1), 1) := by decide +kernel
theorem smd_V_firstPoint_50 : decode prog_5_method_9_code 50 = .ok (.ireturn, 1) := by decide +kernel
theorem smd_V_firstWrongWord_0 : decode prog_5_method_10_code 0 = .ok (.iconst 0, 1) := by decide +kernel
theorem smd_V_firstWrongWord_1 : decode prog_5_method_10_code 1 = .ok (.istore_n 1, 1) := by decide +kernel
theorem smd_V_firstWrongWord_2 : decode prog_5_method_10_code 2 = .ok (.iload_n 1, 1) := by decide +kernel
theorem smd_V_firstWrongWord_3 : decode prog_5_method_10_code 3 = .ok (.bipush 6, 2) := by decide +kernel
theorem smd_V_firstWrongWord_5 : decode prog_5_method_10_code 5 = .ok (.if_icmp .ge 77, 3) := by decide +kernel
theorem smd_V_firstWrongWord_8 : decode prog_5_method_10_code 8 = .ok (.iconst 0, 1) := by decide +kernel
theorem smd_V_firstWrongWord_9 : decode prog_5_method_10_code 9 = .ok (.istore_n 2, 1) := by decide +kernel
theorem smd_V_firstWrongWord_10 : decode prog_5_method_10_code 10 = .ok (.iload_n 2, 1) := by decide +kernel
theorem smd_V_firstWrongWord_11 : decode prog_5_method_10_code 11 = .ok (.aload_n 0, 1) := by decide +kernel
theorem smd_V_firstWrongWord_12 : decode prog_5_method_10_code 12 = .ok (.getfield 9, 3) := by decide +kernel
theorem smd_V_firstWrongWord_15 : decode prog_5_method_10_code 15 = .ok (.iload_n 1, 1) := by decide +kernel
theorem smd_V_firstWrongWord_16 : decode prog_5_method_10_code 16 = .ok (.iaload, 1) := by decide +kernel
theorem smd_V_firstWrongWord_17 : decode prog_5_method_10_code 17 = .ok (.if_icmp .ge 59, 3) := by decide +kernel
theorem smd_V_firstWrongWord_20 : decode prog_5_method_10_code 20 = .ok (.iload_n 1, 1) := by decide +kernel
theorem smd_V_firstWrongWord_21 : decode prog_5_method_10_code 21 = .ok (.iload_n 2, 1) := by decide +kernel
theorem smd_V_firstWrongWord_22 : decode prog_5_method_10_code 22 = .ok (.invokestatic 34, 3) := by decide +kernel
theorem smd_V_firstWrongWord_25 : decode prog_5_method_10_code 25 = .ok (.istore_n 3, 1) := by decide +kernel
theorem smd_V_firstWrongWord_26 : decode prog_5_method_10_code 26 = .ok (.iload_n 2, 1) := by decide +kernel
theorem smd_V_firstWrongWord_27 : decode prog_5_method_10_code 27 = .ok (.aload_n 0, 1) := by decide +kernel
theorem smd_V_firstWrongWord_28 : decode prog_5_method_10_code 28 = .ok (.getfield 9, 3) := by decide +kernel
theorem smd_V_firstWrongWord_31 : decode prog_5_method_10_code 31 = .ok (.iload_n 1, 1) := by decide +kernel
theorem smd_V_firstWrongWord_32 : decode prog_5_method_10_code 32 = .ok (.iaload, 1) := by decide +kernel
theorem smd_V_firstWrongWord_33 : decode prog_5_method_10_code 33 = .ok (.iconst 1, 1) := by decide +kernel
theorem smd_V_firstWrongWord_34 : decode prog_5_method_10_code 34 = .ok (.isub, 1) := by decide +kernel
theorem smd_V_firstWrongWord_35 : decode prog_5_method_10_code 35 = .ok (.if_icmp .ne 16, 3) := by decide +kernel
theorem smd_V_firstWrongWord_38 : decode prog_5_method_10_code 38 = .ok (.aload_n 0, 1) := by decide +kernel
theorem smd_V_firstWrongWord_39 : decode prog_5_method_10_code 39 = .ok (.getfield 15, 3) := by decide +kernel
theorem smd_V_firstWrongWord_42 : decode prog_5_method_10_code 42 = .ok (.iload_n 3, 1) := by decide +kernel
theorem smd_V_firstWrongWord_43 : decode prog_5_method_10_code 43 = .ok (.iaload, 1) := by decide +kernel
theorem smd_V_firstWrongWord_44 : decode prog_5_method_10_code 44 = .ok (.ifCond .eq 7, 3) := by decide +kernel
theorem smd_V_firstWrongWord_47 : decode prog_5_method_10_code 47 = .ok (.iconst 1, 1) := by decide +kernel
theorem smd_V_firstWrongWord_48 : decode prog_5_method_10_code 48 = .ok (.goto 4, 3) := by decide +kernel
theorem smd_V_firstWrongWord_51 : decode prog_5_method_10_code 51 = .ok (.iconst 0, 1) := by decide +kernel
theorem smd_V_firstWrongWord_52 : decode prog_5_method_10_code 52 = .ok (.istore 4, 2) := by decide +kernel
theorem smd_V_firstWrongWord_54 : decode prog_5_method_10_code 54 = .ok (.iload 4, 2) := by decide +kernel
theorem smd_V_firstWrongWord_56 : decode prog_5_method_10_code 56 = .ok (.ifCond .ne 12, 3) := by decide +kernel
theorem smd_V_firstWrongWord_59 : decode prog_5_method_10_code 59 = .ok (.aload_n 0, 1) := by decide +kernel
theorem smd_V_firstWrongWord_60 : decode prog_5_method_10_code 60 = .ok (.iload_n 1, 1) := by decide +kernel
theorem smd_V_firstWrongWord_61 : decode prog_5_method_10_code 61 = .ok (.iload_n 3, 1) := by decide +kernel
theorem smd_V_firstWrongWord_62 : decode prog_5_method_10_code 62 = .ok (.invokevirtual 53, 3) := by decide +kernel
theorem smd_V_firstWrongWord_65 : decode prog_5_method_10_code 65 = .ok (.ifCond .ne 5, 3) := by decide +kernel
theorem smd_V_firstWrongWord_68 : decode prog_5_method_10_code 68 = .ok (.iload_n 3, 1) := by decide +kernel
theorem smd_V_firstWrongWord_69 : decode prog_5_method_10_code 69 = .ok (.ireturn, 1) := by decide +kernel
theorem smd_V_firstWrongWord_70 : decode prog_5_method_10_code 70 = .ok (.iinc 2 1, 3) := by decide +kernel
theorem smd_V_firstWrongWord_73 : decode prog_5_method_10_code 73 = .ok (.goto (-63), 3) := by decide +kernel
theorem smd_V_firstWrongWord_76 : decode prog_5_method_10_code 76 = .ok (.iinc 1 1, 3) := by decide +kernel
theorem smd_V_firstWrongWord_79 : decode prog_5_method_10_code 79 = .ok (.goto (-77), 3) := by decide +kernel
theorem smd_V_firstWrongWord_82 : decode prog_5_method_10_code 82 = .ok (.iconst (-1), 1) := by decide +kernel
theorem smd_V_firstWrongWord_83 : decode prog_5_method_10_code 83 = .ok (.ireturn, 1) := by decide +kernel
theorem smd_V_isRight_0 : decode prog_5_method_11_code 0 = .ok (.aload_n 0, 1) := by decide +kernel
theorem smd_V_isRight_1 : decode prog_5_method_11_code 1 = .ok (.getfield 15, 3) := by decide +kernel
theorem smd_V_isRight_4 : decode prog_5_method_11_code 4 = .ok (.iload_n 2, 1) := by decide +kernel
theorem smd_V_isRight_5 : decode prog_5_method_11_code 5 = .ok (.iaload, 1) := by decide +kernel
theorem smd_V_isRight_6 : decode prog_5_method_11_code 6 = .ok (.tableswitch 327 0 12 #[66, 66, 76, 76, 118, 154, 197, 242, 242, 285, 285, 66, 316], 66) := by decide +kernel
theorem smd_V_isRight_72 : decode prog_5_method_11_code 72 = .ok (.aload_n 0, 1) := by decide +kernel
theorem smd_V_isRight_73 : decode prog_5_method_11_code 73 = .ok (.getfield 18, 3) := by decide +kernel
theorem smd_V_isRight_76 : decode prog_5_method_11_code 76 = .ok (.iload_n 2, 1) := by decide +kernel
theorem smd_V_isRight_77 : decode prog_5_method_11_code 77 = .ok (.iaload, 1) := by decide +kernel
theorem smd_V_isRight_78 : decode prog_5_method_11_code 78 = .ok (.invokestatic 56, 3) := by decide +kernel
theorem smd_V_isRight_81 : decode prog_5_method_11_code 81 = .ok (.ireturn, 1) := by decide +kernel
theorem smd_V_isRight_82 : decode prog_5_method_11_code 82 = .ok (.aload_n 0, 1) := by decide +kernel
theorem smd_V_isRight_83 : decode prog_5_method_11_code 83 = .ok (.getfield 18, 3) := by decide +kernel
theorem smd_V_isRight_86 : decode prog_5_method_11_code 86 = .ok (.iload_n 2, 1) := by decide +kernel
theorem smd_V_isRight_87 : decode prog_5_method_11_code 87 = .ok (.iaload, 1) := by decide +kernel
theorem smd_V_isRight_88 : decode prog_5_method_11_code 88 = .ok (.invokestatic 56, 3) := by decide +kernel
theorem smd_V_isRight_91 : decode prog_5_method_11_code 91 = .ok (.ifCond .eq 31, 3) := by decide +kernel
theorem smd_V_isRight_94 : decode prog_5_method_11_code 94 = .ok (.aload_n 0, 1) := by decide +kernel
theorem smd_V_isRight_95 : decode prog_5_method_11_code 95 = .ok (.getfield 21, 3) := by decide +kernel
theorem smd_V_isRight_98 : decode prog_5_method_11_code 98 = .ok (.iload_n 2, 1) := by decide +kernel
theorem smd_V_isRight_99 : decode prog_5_method_11_code 99 = .ok (.iaload, 1) := by decide +kernel
theorem smd_V_isRight_100 : decode prog_5_method_11_code 100 = .ok (.invokestatic 56, 3) := by decide +kernel
theorem smd_V_isRight_103 : decode prog_5_method_11_code 103 = .ok (.ifCond .eq 19, 3) := by decide +kernel
theorem smd_V_isRight_106 : decode prog_5_method_11_code 106 = .ok (.aload_n 0, 1) := by decide +kernel
theorem smd_V_isRight_107 : decode prog_5_method_11_code 107 = .ok (.getfield 24, 3) := by decide +kernel
theorem smd_V_isRight_110 : decode prog_5_method_11_code 110 = .ok (.iload_n 2, 1) := by decide +kernel
theorem smd_V_isRight_111 : decode prog_5_method_11_code 111 = .ok (.iaload, 1) := by decide +kernel
theorem smd_V_isRight_112 : decode prog_5_method_11_code 112 = .ok (.invokestatic 56, 3) := by decide +kernel
theorem smd_V_isRight_115 : decode prog_5_method_11_code 115 = .ok (.ifCond .eq 7, 3) := by decide +kernel
theorem smd_V_isRight_118 : decode prog_5_method_11_code 118 = .ok (.iconst 1, 1) := by decide +kernel
theorem smd_V_isRight_119 : decode prog_5_method_11_code 119 = .ok (.goto 4, 3) := by decide +kernel
theorem smd_V_isRight_122 : decode prog_5_method_11_code 122 = .ok (.iconst 0, 1) := by decide +kernel
theorem smd_V_isRight_123 : decode prog_5_method_11_code 123 = .ok (.ireturn, 1) := by decide +kernel
theorem smd_V_isRight_124 : decode prog_5_method_11_code 124 = .ok (.aload_n 0, 1) := by decide +kernel
theorem smd_V_isRight_125 : decode prog_5_method_11_code 125 = .ok (.getfield 18, 3) := by decide +kernel
theorem smd_V_isRight_128 : decode prog_5_method_11_code 128 = .ok (.iload_n 2, 1) := by decide +kernel
theorem smd_V_isRight_129 : decode prog_5_method_11_code 129 = .ok (.iaload, 1) := by decide +kernel
theorem smd_V_isRight_130 : decode prog_5_method_11_code 130 = .ok (.invokestatic 56, 3) := by decide +kernel
theorem smd_V_isRight_133 : decode prog_5_method_11_code 133 = .ok (.ifCond .eq 25, 3) := by decide +kernel
theorem smd_V_isRight_136 : decode prog_5_method_11_code 136 = .ok (.aload_n 0, 1) := by decide +kernel
theorem smd_V_isRight_137 : decode prog_5_method_11_code 137 = .ok (.getfield 21, 3) := by decide +kernel
theorem smd_V_isRight_140 : decode prog_5_method_11_code 140 = .ok (.iload_n 2, 1) := by decide +kernel
theorem smd_V_isRight_141 : decode prog_5_method_11_code 141 = .ok (.iaload, 1) := by decide +kernel
theorem smd_V_isRight_142 : decode prog_5_method_11_code 142 = .ok (.aload_n 0, 1) := by decide +kernel
theorem smd_V_isRight_143 : decode prog_5_method_11_code 143 = .ok (.getfield 9, 3) := by decide +kernel
theorem smd_V_isRight_146 : decode prog_5_method_11_code 146 = .ok (.iload_n 1, 1) := by decide +kernel
theorem smd_V_isRight_147 : decode prog_5_method_11_code 147 = .ok (.iaload, 1) := by decide +kernel
theorem smd_V_isRight_148 : decode prog_5_method_11_code 148 = .ok (.invokestatic 30, 3) := by decide +kernel
theorem smd_V_isRight_151 : decode prog_5_method_11_code 151 = .ok (.ifCond .eq 7, 3) := by decide +kernel
theorem smd_V_isRight_154 : decode prog_5_method_11_code 154 = .ok (.iconst 1, 1) := by decide +kernel
theorem smd_V_isRight_155 : decode prog_5_method_11_code 155 = .ok (.goto 4, 3) := by decide +kernel
theorem smd_V_isRight_158 : decode prog_5_method_11_code 158 = .ok (.iconst 0, 1) := by decide +kernel
theorem smd_V_isRight_159 : decode prog_5_method_11_code 159 = .ok (.ireturn, 1) := by decide +kernel
theorem smd_V_isRight_160 : decode prog_5_method_11_code 160 = .ok (.aload_n 0, 1) := by decide +kernel
theorem smd_V_isRight_161 : decode prog_5_method_11_code 161 = .ok (.getfield 18, 3) := by decide +kernel
theorem smd_V_isRight_164 : decode prog_5_method_11_code 164 = .ok (.iload_n 2, 1) := by decide +kernel
theorem smd_V_isRight_165 : decode prog_5_method_11_code 165 = .ok (.iaload, 1) := by decide +kernel
theorem smd_V_isRight_166 : decode prog_5_method_11_code 166 = .ok (.invokestatic 56, 3) := by decide +kernel
theorem smd_V_isRight_169 : decode prog_5_method_11_code 169 = .ok (.ifCond .eq 32, 3) := by decide +kernel
theorem smd_V_isRight_172 : decode prog_5_method_11_code 172 = .ok (.aload_n 0, 1) := by decide +kernel
theorem smd_V_isRight_173 : decode prog_5_method_11_code 173 = .ok (.aload_n 0, 1) := by decide +kernel
theorem smd_V_isRight_174 : decode prog_5_method_11_code 174 = .ok (.getfield 21, 3) := by decide +kernel
theorem smd_V_isRight_177 : decode prog_5_method_11_code 177 = .ok (.iload_n 2, 1) := by decide +kernel
theorem smd_V_isRight_178 : decode prog_5_method_11_code 178 = .ok (.iaload, 1) := by decide +kernel
theorem smd_V_isRight_179 : decode prog_5_method_11_code 179 = .ok (.invokevirtual 60, 3) := by decide +kernel
theorem smd_V_isRight_182 : decode prog_5_method_11_code 182 = .ok (.ifCond .eq 19, 3) := by decide +kernel
theorem smd_V_isRight_185 : decode prog_5_method_11_code 185 = .ok (.aload_n 0, 1) := by decide +kernel
theorem smd_V_isRight_186 : decode prog_5_method_11_code 186 = .ok (.getfield 24, 3) := by decide +kernel
theorem smd_V_isRight_189 : decode prog_5_method_11_code 189 = .ok (.iload_n 2, 1) := by decide +kernel
theorem smd_V_isRight_190 : decode prog_5_method_11_code 190 = .ok (.iaload, 1) := by decide +kernel
theorem smd_V_isRight_191 : decode prog_5_method_11_code 191 = .ok (.invokestatic 56, 3) := by decide +kernel
theorem smd_V_isRight_194 : decode prog_5_method_11_code 194 = .ok (.ifCond .eq 7, 3) := by decide +kernel
theorem smd_V_isRight_197 : decode prog_5_method_11_code 197 = .ok (.iconst 1, 1) := by decide +kernel
theorem smd_V_isRight_198 : decode prog_5_method_11_code 198 = .ok (.goto 4, 3) := by decide +kernel
theorem smd_V_isRight_201 : decode prog_5_method_11_code 201 = .ok (.iconst 0, 1) := by decide +kernel
theorem smd_V_isRight_202 : decode prog_5_method_11_code 202 = .ok (.ireturn, 1) := by decide +kernel
theorem smd_V_isRight_203 : decode prog_5_method_11_code 203 = .ok (.aload_n 0, 1) := by decide +kernel
theorem smd_V_isRight_204 : decode prog_5_method_11_code 204 = .ok (.getfield 18, 3) := by decide +kernel
theorem smd_V_isRight_207 : decode prog_5_method_11_code 207 = .ok (.iload_n 2, 1) := by decide +kernel
theorem smd_V_isRight_208 : decode prog_5_method_11_code 208 = .ok (.iaload, 1) := by decide +kernel
theorem smd_V_isRight_209 : decode prog_5_method_11_code 209 = .ok (.invokestatic 56, 3) := by decide +kernel
theorem smd_V_isRight_212 : decode prog_5_method_11_code 212 = .ok (.ifCond .eq 34, 3) := by decide +kernel
theorem smd_V_isRight_215 : decode prog_5_method_11_code 215 = .ok (.aload_n 0, 1) := by decide +kernel
theorem smd_V_isRight_216 : decode prog_5_method_11_code 216 = .ok (.getfield 21, 3) := by decide +kernel
theorem smd_V_isRight_219 : decode prog_5_method_11_code 219 = .ok (.iload_n 2, 1) := by decide +kernel
theorem smd_V_isRight_220 : decode prog_5_method_11_code 220 = .ok (.iaload, 1) := by decide +kernel
theorem smd_V_isRight_221 : decode prog_5_method_11_code 221 = .ok (.iconst 3, 1) := by decide +kernel
theorem smd_V_isRight_222 : decode prog_5_method_11_code 222 = .ok (.invokestatic 30, 3) := by decide +kernel
theorem smd_V_isRight_225 : decode prog_5_method_11_code 225 = .ok (.ifCond .eq 21, 3) := by decide +kernel
theorem smd_V_isRight_228 : decode prog_5_method_11_code 228 = .ok (.aload_n 0, 1) := by decide +kernel
theorem smd_V_isRight_229 : decode prog_5_method_11_code 229 = .ok (.getfield 27, 3) := by decide +kernel
theorem smd_V_isRight_232 : decode prog_5_method_11_code 232 = .ok (.aload_n 0, 1) := by decide +kernel
theorem smd_V_isRight_233 : decode prog_5_method_11_code 233 = .ok (.getfield 21, 3) := by decide +kernel
theorem smd_V_isRight_236 : decode prog_5_method_11_code 236 = .ok (.iload_n 2, 1) := by decide +kernel
theorem smd_V_isRight_237 : decode prog_5_method_11_code 237 = .ok (.iaload, 1) := by decide +kernel
theorem smd_V_isRight_238 : decode prog_5_method_11_code 238 = .ok (.iaload, 1) := by decide +kernel
theorem smd_V_isRight_239 : decode prog_5_method_11_code 239 = .ok (.ifCond .le 7, 3) := by decide +kernel
theorem smd_V_isRight_242 : decode prog_5_method_11_code 242 = .ok (.iconst 1, 1) := by decide +kernel
theorem smd_V_isRight_243 : decode prog_5_method_11_code 243 = .ok (.goto 4, 3) := by decide +kernel
theorem smd_V_isRight_246 : decode prog_5_method_11_code 246 = .ok (.iconst 0, 1) := by decide +kernel
theorem smd_V_isRight_247 : decode prog_5_method_11_code 247 = .ok (.ireturn, 1) := by decide +kernel
theorem smd_V_isRight_248 : decode prog_5_method_11_code 248 = .ok (.aload_n 0, 1) := by decide +kernel
theorem smd_V_isRight_249 : decode prog_5_method_11_code 249 = .ok (.getfield 18, 3) := by decide +kernel
theorem smd_V_isRight_252 : decode prog_5_method_11_code 252 = .ok (.iload_n 2, 1) := by decide +kernel
theorem smd_V_isRight_253 : decode prog_5_method_11_code 253 = .ok (.iaload, 1) := by decide +kernel
theorem smd_V_isRight_254 : decode prog_5_method_11_code 254 = .ok (.invokestatic 56, 3) := by decide +kernel
theorem smd_V_isRight_257 : decode prog_5_method_11_code 257 = .ok (.ifCond .eq 32, 3) := by decide +kernel
theorem smd_V_isRight_260 : decode prog_5_method_11_code 260 = .ok (.aload_n 0, 1) := by decide +kernel
theorem smd_V_isRight_261 : decode prog_5_method_11_code 261 = .ok (.getfield 21, 3) := by decide +kernel
theorem smd_V_isRight_264 : decode prog_5_method_11_code 264 = .ok (.iload_n 2, 1) := by decide +kernel
theorem smd_V_isRight_265 : decode prog_5_method_11_code 265 = .ok (.iaload, 1) := by decide +kernel
theorem smd_V_isRight_266 : decode prog_5_method_11_code 266 = .ok (.invokestatic 56, 3) := by decide +kernel
theorem smd_V_isRight_269 : decode prog_5_method_11_code 269 = .ok (.ifCond .eq 20, 3) := by decide +kernel
theorem smd_V_isRight_272 : decode prog_5_method_11_code 272 = .ok (.aload_n 0, 1) := by decide +kernel
theorem smd_V_isRight_273 : decode prog_5_method_11_code 273 = .ok (.aload_n 0, 1) := by decide +kernel
theorem smd_V_isRight_274 : decode prog_5_method_11_code 274 = .ok (.getfield 24, 3) := by decide +kernel
theorem smd_V_isRight_277 : decode prog_5_method_11_code 277 = .ok (.iload_n 2, 1) := by decide +kernel
theorem smd_V_isRight_278 : decode prog_5_method_11_code 278 = .ok (.iaload, 1) := by decide +kernel
theorem smd_V_isRight_279 : decode prog_5_method_11_code 279 = .ok (.invokevirtual 63, 3) := by decide +kernel
theorem smd_V_isRight_282 : decode prog_5_method_11_code 282 = .ok (.ifCond .eq 7, 3) := by decide +kernel
theorem smd_V_isRight_285 : decode prog_5_method_11_code 285 = .ok (.iconst 1, 1) := by decide +kernel
theorem smd_V_isRight_286 : decode prog_5_method_11_code 286 = .ok (.goto 4, 3) := by decide +kernel
theorem smd_V_isRight_289 : decode prog_5_method_11_code 289 = .ok (.iconst 0, 1) := by decide +kernel
theorem smd_V_isRight_290 : decode prog_5_method_11_code 290 = .ok (.ireturn, 1) := by decide +kernel
theorem smd_V_isRight_291 : decode prog_5_method_11_code 291 = .ok (.aload_n 0, 1) := by decide +kernel
theorem smd_V_isRight_292 : decode prog_5_method_11_code 292 = .ok (.getfield 18, 3) := by decide +kernel
theorem smd_V_isRight_295 : decode prog_5_method_11_code 295 = .ok (.iload_n 2, 1) := by decide +kernel
theorem smd_V_isRight_296 : decode prog_5_method_11_code 296 = .ok (.iaload, 1) := by decide +kernel
theorem smd_V_isRight_297 : decode prog_5_method_11_code 297 = .ok (.invokestatic 56, 3) := by decide +kernel
theorem smd_V_isRight_300 : decode prog_5_method_11_code 300 = .ok (.ifCond .eq 20, 3) := by decide +kernel
theorem smd_V_isRight_303 : decode prog_5_method_11_code 303 = .ok (.aload_n 0, 1) := by decide +kernel
theorem smd_V_isRight_304 : decode prog_5_method_11_code 304 = .ok (.getfield 21, 3) := by decide +kernel
theorem smd_V_isRight_307 : decode prog_5_method_11_code 307 = .ok (.iload_n 2, 1) := by decide +kernel
theorem smd_V_isRight_308 : decode prog_5_method_11_code 308 = .ok (.iaload, 1) := by decide +kernel
theorem smd_V_isRight_309 : decode prog_5_method_11_code 309 = .ok (.iconst 4, 1) := by decide +kernel
theorem smd_V_isRight_310 : decode prog_5_method_11_code 310 = .ok (.invokestatic 30, 3) := by decide +kernel
theorem smd_V_isRight_313 : decode prog_5_method_11_code 313 = .ok (.ifCond .eq 7, 3) := by decide +kernel
theorem smd_V_isRight_316 : decode prog_5_method_11_code 316 = .ok (.iconst 1, 1) := by decide +kernel
theorem smd_V_isRight_317 : decode prog_5_method_11_code 317 = .ok (.goto 4, 3) := by decide +kernel
theorem smd_V_isRight_320 : decode prog_5_method_11_code 320 = .ok (.iconst 0, 1) := by decide +kernel
theorem smd_V_isRight_321 : decode prog_5_method_11_code 321 = .ok (.ireturn, 1) := by decide +kernel
theorem smd_V_isRight_322 : decode prog_5_method_11_code 322 = .ok (.aload_n 0, 1) := by decide +kernel
theorem smd_V_isRight_323 : decode prog_5_method_11_code 323 = .ok (.getfield 18, 3) := by decide +kernel
theorem smd_V_isRight_326 : decode prog_5_method_11_code 326 = .ok (.iload_n 2, 1) := by decide +kernel
theorem smd_V_isRight_327 : decode prog_5_method_11_code 327 = .ok (.iaload, 1) := by decide +kernel
theorem smd_V_isRight_328 : decode prog_5_method_11_code 328 = .ok (.iconst 4, 1) := by decide +kernel
theorem smd_V_isRight_329 : decode prog_5_method_11_code 329 = .ok (.invokestatic 30, 3) := by decide +kernel
theorem smd_V_isRight_332 : decode prog_5_method_11_code 332 = .ok (.ireturn, 1) := by decide +kernel
theorem smd_V_isRight_333 : decode prog_5_method_11_code 333 = .ok (.iconst 0, 1) := by decide +kernel
theorem smd_V_isRight_334 : decode prog_5_method_11_code 334 = .ok (.ireturn, 1) := by decide +kernel
theorem smd_V_isLocal_0 : decode prog_5_method_12_code 0 = .ok (.iload_n 0, 1) := by decide +kernel
theorem smd_V_isLocal_1 : decode prog_5_method_12_code 1 = .ok (.iconst 3, 1) := by decide +kernel
theorem smd_V_isLocal_2 : decode prog_5_method_12_code 2 = .ok (.invokestatic 30, 3) := by decide +kernel
theorem smd_V_isLocal_5 : decode prog_5_method_12_code 5 = .ok (.ireturn, 1) := by decide +kernel
theorem smd_V_isFieldOfType_0 : decode prog_5_method_13_code 0 = .ok (.iload_n 1, 1) := by decide +kernel
theorem smd_V_isFieldOfType_1 : decode prog_5_method_13_code 1 = .ok (.bipush 12, 2) := by decide +kernel
theorem smd_V_isFieldOfType_3 : decode prog_5_method_13_code 3 = .ok (.invokestatic 30, 3) := by decide +kernel
theorem smd_V_isFieldOfType_6 : decode prog_5_method_13_code 6 = .ok (.ifCond .eq 21, 3) := by decide +kernel
theorem smd_V_isFieldOfType_9 : decode prog_5_method_13_code 9 = .ok (.iload_n 1, 1) := by decide +kernel
theorem smd_V_isFieldOfType_10 : decode prog_5_method_13_code 10 = .ok (.iconst 4, 1) := by decide +kernel
theorem smd_V_isFieldOfType_11 : decode prog_5_method_13_code 11 = .ok (.irem, 1) := by decide +kernel
theorem smd_V_isFieldOfType_12 : decode prog_5_method_13_code 12 = .ok (.aload_n 0, 1) := by decide +kernel
theorem smd_V_isFieldOfType_13 : decode prog_5_method_13_code 13 = .ok (.getfield 27, 3) := by decide +kernel
theorem smd_V_isFieldOfType_16 : decode prog_5_method_13_code 16 = .ok (.iload_n 1, 1) := by decide +kernel
theorem smd_V_isFieldOfType_17 : decode prog_5_method_13_code 17 = .ok (.iconst 4, 1) := by decide +kernel
theorem smd_V_isFieldOfType_18 : decode prog_5_method_13_code 18 = .ok (.idiv, 1) := by decide +kernel
theorem smd_V_isFieldOfType_19 : decode prog_5_method_13_code 19 = .ok (.iaload, 1) := by decide +kernel
theorem smd_V_isFieldOfType_20 : decode prog_5_method_13_code 20 = .ok (.if_icmp .ge 7, 3) := by decide +kernel
theorem smd_V_isFieldOfType_23 : decode prog_5_method_13_code 23 = .ok (.iconst 1, 1) := by decide +kernel
theorem smd_V_isFieldOfType_24 : decode prog_5_method_13_code 24 = .ok (.goto 4, 3) := by decide +kernel
theorem smd_V_isFieldOfType_27 : decode prog_5_method_13_code 27 = .ok (.iconst 0, 1) := by decide +kernel
theorem smd_V_isFieldOfType_28 : decode prog_5_method_13_code 28 = .ok (.ireturn, 1) := by decide +kernel
theorem smd_L_law_0 : decode code 0 = .ok (.new 7, 3) := by decide +kernel
theorem smd_L_law_3 : decode code 3 = .ok (.dup, 1) := by decide +kernel
theorem smd_L_law_4 : decode code 4 = .ok (.invokespecial 9, 3) := by decide +kernel
theorem smd_L_law_7 : decode code 7 = .ok (.astore_n 1, 1) := by decide +kernel
theorem smd_L_law_8 : decode code 8 = .ok (.new 10, 3) := by decide +kernel
theorem smd_L_law_11 : decode code 11 = .ok (.dup, 1) := by decide +kernel
theorem smd_L_law_12 : decode code 12 = .ok (.invokespecial 12, 3) := by decide +kernel
theorem smd_L_law_15 : decode code 15 = .ok (.astore_n 2, 1) := by decide +kernel
theorem smd_L_law_16 : decode code 16 = .ok (.iconst 0, 1) := by decide +kernel
theorem smd_L_law_17 : decode code 17 = .ok (.istore_n 3, 1) := by decide +kernel
theorem smd_L_law_18 : decode code 18 = .ok (.iload_n 3, 1) := by decide +kernel
theorem smd_L_law_19 : decode code 19 = .ok (.aload_n 0, 1) := by decide +kernel
theorem smd_L_law_20 : decode code 20 = .ok (.arraylength, 1) := by decide +kernel
theorem smd_L_law_21 : decode code 21 = .ok (.bipush 7, 2) := by decide +kernel
theorem smd_L_law_23 : decode code 23 = .ok (.isub, 1) := by decide +kernel
theorem smd_L_law_24 : decode code 24 = .ok (.if_icmp .gt 763, 3) := by decide +kernel
theorem smd_L_law_27 : decode code 27 = .ok (.aload_n 0, 1) := by decide +kernel
theorem smd_L_law_28 : decode code 28 = .ok (.iload_n 3, 1) := by decide +kernel
theorem smd_L_law_29 : decode code 29 = .ok (.iaload, 1) := by decide +kernel
theorem smd_L_law_30 : decode code 30 = .ok (.bipush 31, 2) := by decide +kernel
theorem smd_L_law_32 : decode code 32 = .ok (.iand, 1) := by decide +kernel
theorem smd_L_law_33 : decode code 33 = .ok (.tableswitch 748 0 22 #[107, 182, 215, 248, 311, 324, 337, 350, 373, 396, 419, 432, 465, 498, 531, 554, 577, 600, 643, 666, 689, 722, 735], 107) := by decide +kernel
theorem smd_L_law_140 : decode code 140 = .ok (.aload_n 1, 1) := by decide +kernel
theorem smd_L_law_141 : decode code 141 = .ok (.aload_n 0, 1) := by decide +kernel
theorem smd_L_law_142 : decode code 142 = .ok (.iload_n 3, 1) := by decide +kernel
theorem smd_L_law_143 : decode code 143 = .ok (.iconst 1, 1) := by decide +kernel
theorem smd_L_law_144 : decode code 144 = .ok (.iadd, 1) := by decide +kernel
theorem smd_L_law_145 : decode code 145 = .ok (.iaload, 1) := by decide +kernel
theorem smd_L_law_146 : decode code 146 = .ok (.aload_n 0, 1) := by decide +kernel
theorem smd_L_law_147 : decode code 147 = .ok (.iload_n 3, 1) := by decide +kernel
theorem smd_L_law_148 : decode code 148 = .ok (.iconst 2, 1) := by decide +kernel
theorem smd_L_law_149 : decode code 149 = .ok (.iadd, 1) := by decide +kernel
theorem smd_L_law_150 : decode code 150 = .ok (.iaload, 1) := by decide +kernel
theorem smd_L_law_151 : decode code 151 = .ok (.aload_n 0, 1) := by decide +kernel
theorem smd_L_law_152 : decode code 152 = .ok (.iload_n 3, 1) := by decide +kernel
theorem smd_L_law_153 : decode code 153 = .ok (.iconst 3, 1) := by decide +kernel
theorem smd_L_law_154 : decode code 154 = .ok (.iadd, 1) := by decide +kernel
theorem smd_L_law_155 : decode code 155 = .ok (.iaload, 1) := by decide +kernel
theorem smd_L_law_156 : decode code 156 = .ok (.aload_n 0, 1) := by decide +kernel
theorem smd_L_law_157 : decode code 157 = .ok (.iload_n 3, 1) := by decide +kernel
theorem smd_L_law_158 : decode code 158 = .ok (.iconst 4, 1) := by decide +kernel
theorem smd_L_law_159 : decode code 159 = .ok (.iadd, 1) := by decide +kernel
theorem smd_L_law_160 : decode code 160 = .ok (.iaload, 1) := by decide +kernel
theorem smd_L_law_161 : decode code 161 = .ok (.aload_n 0, 1) := by decide +kernel
theorem smd_L_law_162 : decode code 162 = .ok (.iload_n 3, 1) := by decide +kernel
theorem smd_L_law_163 : decode code 163 = .ok (.iconst 5, 1) := by decide +kernel
theorem smd_L_law_164 : decode code 164 = .ok (.iadd, 1) := by decide +kernel
theorem smd_L_law_165 : decode code 165 = .ok (.iaload, 1) := by decide +kernel
theorem smd_L_law_166 : decode code 166 = .ok (.aload_n 0, 1) := by decide +kernel
theorem smd_L_law_167 : decode code 167 = .ok (.iload_n 3, 1) := by decide +kernel
theorem smd_L_law_168 : decode code 168 = .ok (.bipush 6, 2) := by decide +kernel
theorem smd_L_law_170 : decode code 170 = .ok (.iadd, 1) := by decide +kernel
theorem smd_L_law_171 : decode code 171 = .ok (.iaload, 1) := by decide +kernel
theorem smd_L_law_172 : decode code 172 = .ok (.invokevirtual 13, 3) := by decide +kernel
theorem smd_L_law_175 : decode code 175 = .ok (.aload_n 2, 1) := by decide +kernel
theorem smd_L_law_176 : decode code 176 = .ok (.aload_n 0, 1) := by decide +kernel
theorem smd_L_law_177 : decode code 177 = .ok (.iload_n 3, 1) := by decide +kernel
theorem smd_L_law_178 : decode code 178 = .ok (.iconst 1, 1) := by decide +kernel
theorem smd_L_law_179 : decode code 179 = .ok (.iadd, 1) := by decide +kernel
theorem smd_L_law_180 : decode code 180 = .ok (.iaload, 1) := by decide +kernel
theorem smd_L_law_181 : decode code 181 = .ok (.aload_n 0, 1) := by decide +kernel
theorem smd_L_law_182 : decode code 182 = .ok (.iload_n 3, 1) := by decide +kernel
theorem smd_L_law_183 : decode code 183 = .ok (.iconst 2, 1) := by decide +kernel
theorem smd_L_law_184 : decode code 184 = .ok (.iadd, 1) := by decide +kernel
theorem smd_L_law_185 : decode code 185 = .ok (.iaload, 1) := by decide +kernel
theorem smd_L_law_186 : decode code 186 = .ok (.aload_n 0, 1) := by decide +kernel
theorem smd_L_law_187 : decode code 187 = .ok (.iload_n 3, 1) := by decide +kernel
theorem smd_L_law_188 : decode code 188 = .ok (.iconst 3, 1) := by decide +kernel
theorem smd_L_law_189 : decode code 189 = .ok (.iadd, 1) := by decide +kernel
theorem smd_L_law_190 : decode code 190 = .ok (.iaload, 1) := by decide +kernel
theorem smd_L_law_191 : decode code 191 = .ok (.aload_n 0, 1) := by decide +kernel
theorem smd_L_law_192 : decode code 192 = .ok (.iload_n 3, 1) := by decide +kernel
theorem smd_L_law_193 : decode code 193 = .ok (.iconst 4, 1) := by decide +kernel
theorem smd_L_law_194 : decode code 194 = .ok (.iadd, 1) := by decide +kernel
theorem smd_L_law_195 : decode code 195 = .ok (.iaload, 1) := by decide +kernel
theorem smd_L_law_196 : decode code 196 = .ok (.aload_n 0, 1) := by decide +kernel
theorem smd_L_law_197 : decode code 197 = .ok (.iload_n 3, 1) := by decide +kernel
theorem smd_L_law_198 : decode code 198 = .ok (.iconst 5, 1) := by decide +kernel
theorem smd_L_law_199 : decode code 199 = .ok (.iadd, 1) := by decide +kernel
theorem smd_L_law_200 : decode code 200 = .ok (.iaload, 1) := by decide +kernel
theorem smd_L_law_201 : decode code 201 = .ok (.aload_n 0, 1) := by decide +kernel
theorem smd_L_law_202 : decode code 202 = .ok (.iload_n 3, 1) := by decide +kernel
theorem smd_L_law_203 : decode code 203 = .ok (.bipush 6, 2) := by decide +kernel
theorem smd_L_law_205 : decode code 205 = .ok (.iadd, 1) := by decide +kernel
theorem smd_L_law_206 : decode code 206 = .ok (.iaload, 1) := by decide +kernel
theorem smd_L_law_207 : decode code 207 = .ok (.invokevirtual 17, 3) := by decide +kernel
theorem smd_L_law_210 : decode code 210 = .ok (.if_icmp .eq 571, 3) := by decide +kernel
theorem smd_L_law_213 : decode code 213 = .ok (.iconst 0, 1) := by decide +kernel
theorem smd_L_law_214 : decode code 214 = .ok (.ireturn, 1) := by decide +kernel
theorem smd_L_law_215 : decode code 215 = .ok (.aload_n 1, 1) := by decide +kernel
theorem smd_L_law_216 : decode code 216 = .ok (.aload_n 0, 1) := by decide +kernel
theorem smd_L_law_217 : decode code 217 = .ok (.iload_n 3, 1) := by decide +kernel
theorem smd_L_law_218 : decode code 218 = .ok (.iconst 1, 1) := by decide +kernel
theorem smd_L_law_219 : decode code 219 = .ok (.iadd, 1) := by decide +kernel
theorem smd_L_law_220 : decode code 220 = .ok (.iaload, 1) := by decide +kernel
theorem smd_L_law_221 : decode code 221 = .ok (.aload_n 0, 1) := by decide +kernel
theorem smd_L_law_222 : decode code 222 = .ok (.iload_n 3, 1) := by decide +kernel
theorem smd_L_law_223 : decode code 223 = .ok (.iconst 2, 1) := by decide +kernel
theorem smd_L_law_224 : decode code 224 = .ok (.iadd, 1) := by decide +kernel
theorem smd_L_law_225 : decode code 225 = .ok (.iaload, 1) := by decide +kernel
theorem smd_L_law_226 : decode code 226 = .ok (.invokevirtual 18, 3) := by decide +kernel
theorem smd_L_law_229 : decode code 229 = .ok (.aload_n 2, 1) := by decide +kernel
theorem smd_L_law_230 : decode code 230 = .ok (.aload_n 0, 1) := by decide +kernel
theorem smd_L_law_231 : decode code 231 = .ok (.iload_n 3, 1) := by decide +kernel
theorem smd_L_law_232 : decode code 232 = .ok (.iconst 1, 1) := by decide +kernel
theorem smd_L_law_233 : decode code 233 = .ok (.iadd, 1) := by decide +kernel
theorem smd_L_law_234 : decode code 234 = .ok (.iaload, 1) := by decide +kernel
theorem smd_L_law_235 : decode code 235 = .ok (.aload_n 0, 1) := by decide +kernel
theorem smd_L_law_236 : decode code 236 = .ok (.iload_n 3, 1) := by decide +kernel
theorem smd_L_law_237 : decode code 237 = .ok (.iconst 2, 1) := by decide +kernel
theorem smd_L_law_238 : decode code 238 = .ok (.iadd, 1) := by decide +kernel
theorem smd_L_law_239 : decode code 239 = .ok (.iaload, 1) := by decide +kernel
theorem smd_L_law_240 : decode code 240 = .ok (.invokevirtual 22, 3) := by decide +kernel
theorem smd_L_law_243 : decode code 243 = .ok (.if_icmp .eq 538, 3) := by decide +kernel
theorem smd_L_law_246 : decode code 246 = .ok (.iconst 0, 1) := by decide +kernel
theorem smd_L_law_247 : decode code 247 = .ok (.ireturn, 1) := by decide +kernel
theorem smd_L_law_248 : decode code 248 = .ok (.aload_n 1, 1) := by decide +kernel
theorem smd_L_law_249 : decode code 249 = .ok (.aload_n 0, 1) := by decide +kernel
theorem smd_L_law_250 : decode code 250 = .ok (.iload_n 3, 1) := by decide +kernel
theorem smd_L_law_251 : decode code 251 = .ok (.iconst 1, 1) := by decide +kernel
theorem smd_L_law_252 : decode code 252 = .ok (.iadd, 1) := by decide +kernel
theorem smd_L_law_253 : decode code 253 = .ok (.iaload, 1) := by decide +kernel
theorem smd_L_law_254 : decode code 254 = .ok (.aload_n 0, 1) := by decide +kernel
theorem smd_L_law_255 : decode code 255 = .ok (.iload_n 3, 1) := by decide +kernel
theorem smd_L_law_256 : decode code 256 = .ok (.iconst 2, 1) := by decide +kernel
theorem smd_L_law_257 : decode code 257 = .ok (.iadd, 1) := by decide +kernel
theorem smd_L_law_258 : decode code 258 = .ok (.iaload, 1) := by decide +kernel
theorem smd_L_law_259 : decode code 259 = .ok (.invokevirtual 23, 3) := by decide +kernel
theorem smd_L_law_262 : decode code 262 = .ok (.aload_n 2, 1) := by decide +kernel
theorem smd_L_law_263 : decode code 263 = .ok (.aload_n 0, 1) := by decide +kernel
theorem smd_L_law_264 : decode code 264 = .ok (.iload_n 3, 1) := by decide +kernel
theorem smd_L_law_265 : decode code 265 = .ok (.iconst 1, 1) := by decide +kernel
theorem smd_L_law_266 : decode code 266 = .ok (.iadd, 1) := by decide +kernel
theorem smd_L_law_267 : decode code 267 = .ok (.iaload, 1) := by decide +kernel
theorem smd_L_law_268 : decode code 268 = .ok (.aload_n 0, 1) := by decide +kernel
theorem smd_L_law_269 : decode code 269 = .ok (.iload_n 3, 1) := by decide +kernel
theorem smd_L_law_270 : decode code 270 = .ok (.iconst 2, 1) := by decide +kernel
theorem smd_L_law_271 : decode code 271 = .ok (.iadd, 1) := by decide +kernel
theorem smd_L_law_272 : decode code 272 = .ok (.iaload, 1) := by decide +kernel
theorem smd_L_law_273 : decode code 273 = .ok (.invokevirtual 26, 3) := by decide +kernel
theorem smd_L_law_276 : decode code 276 = .ok (.if_icmp .eq 505, 3) := by decide +kernel
theorem smd_L_law_279 : decode code 279 = .ok (.iconst 0, 1) := by decide +kernel
theorem smd_L_law_280 : decode code 280 = .ok (.ireturn, 1) := by decide +kernel
theorem smd_L_law_281 : decode code 281 = .ok (.aload_n 1, 1) := by decide +kernel
theorem smd_L_law_282 : decode code 282 = .ok (.aload_n 0, 1) := by decide +kernel
theorem smd_L_law_283 : decode code 283 = .ok (.iload_n 3, 1) := by decide +kernel
theorem smd_L_law_284 : decode code 284 = .ok (.iconst 1, 1) := by decide +kernel
theorem smd_L_law_285 : decode code 285 = .ok (.iadd, 1) := by decide +kernel
theorem smd_L_law_286 : decode code 286 = .ok (.iaload, 1) := by decide +kernel
theorem smd_L_law_287 : decode code 287 = .ok (.aload_n 0, 1) := by decide +kernel
theorem smd_L_law_288 : decode code 288 = .ok (.iload_n 3, 1) := by decide +kernel
theorem smd_L_law_289 : decode code 289 = .ok (.iconst 2, 1) := by decide +kernel
theorem smd_L_law_290 : decode code 290 = .ok (.iadd, 1) := by decide +kernel
theorem smd_L_law_291 : decode code 291 = .ok (.iaload, 1) := by decide +kernel
theorem smd_L_law_292 : decode code 292 = .ok (.aload_n 0, 1) := by decide +kernel
theorem smd_L_law_293 : decode code 293 = .ok (.iload_n 3, 1) := by decide +kernel
theorem smd_L_law_294 : decode code 294 = .ok (.iconst 3, 1) := by decide +kernel
theorem smd_L_law_295 : decode code 295 = .ok (.iadd, 1) := by decide +kernel
theorem smd_L_law_296 : decode code 296 = .ok (.iaload, 1) := by decide +kernel
theorem smd_L_law_297 : decode code 297 = .ok (.aload_n 0, 1) := by decide +kernel
theorem smd_L_law_298 : decode code 298 = .ok (.iload_n 3, 1) := by decide +kernel
theorem smd_L_law_299 : decode code 299 = .ok (.iconst 4, 1) := by decide +kernel
theorem smd_L_law_300 : decode code 300 = .ok (.iadd, 1) := by decide +kernel
theorem smd_L_law_301 : decode code 301 = .ok (.iaload, 1) := by decide +kernel
theorem smd_L_law_302 : decode code 302 = .ok (.aload_n 0, 1) := by decide +kernel
theorem smd_L_law_303 : decode code 303 = .ok (.iload_n 3, 1) := by decide +kernel
theorem smd_L_law_304 : decode code 304 = .ok (.iconst 5, 1) := by decide +kernel
theorem smd_L_law_305 : decode code 305 = .ok (.iadd, 1) := by decide +kernel
theorem smd_L_law_306 : decode code 306 = .ok (.iaload, 1) := by decide +kernel
theorem smd_L_law_307 : decode code 307 = .ok (.invokevirtual 27, 3) := by decide +kernel
theorem smd_L_law_310 : decode code 310 = .ok (.aload_n 2, 1) := by decide +kernel
theorem smd_L_law_311 : decode code 311 = .ok (.aload_n 0, 1) := by decide +kernel
theorem smd_L_law_312 : decode code 312 = .ok (.iload_n 3, 1) := by decide +kernel
theorem smd_L_law_313 : decode code 313 = .ok (.iconst 1, 1) := by decide +kernel
theorem smd_L_law_314 : decode code 314 = .ok (.iadd, 1) := by decide +kernel
theorem smd_L_law_315 : decode code 315 = .ok (.iaload, 1) := by decide +kernel
theorem smd_L_law_316 : decode code 316 = .ok (.aload_n 0, 1) := by decide +kernel
theorem smd_L_law_317 : decode code 317 = .ok (.iload_n 3, 1) := by decide +kernel
theorem smd_L_law_318 : decode code 318 = .ok (.iconst 2, 1) := by decide +kernel
theorem smd_L_law_319 : decode code 319 = .ok (.iadd, 1) := by decide +kernel
theorem smd_L_law_320 : decode code 320 = .ok (.iaload, 1) := by decide +kernel
theorem smd_L_law_321 : decode code 321 = .ok (.aload_n 0, 1) := by decide +kernel
theorem smd_L_law_322 : decode code 322 = .ok (.iload_n 3, 1) := by decide +kernel
theorem smd_L_law_323 : decode code 323 = .ok (.iconst 3, 1) := by decide +kernel
theorem smd_L_law_324 : decode code 324 = .ok (.iadd, 1) := by decide +kernel
theorem smd_L_law_325 : decode code 325 = .ok (.iaload, 1) := by decide +kernel
theorem smd_L_law_326 : decode code 326 = .ok (.aload_n 0, 1) := by decide +kernel
theorem smd_L_law_327 : decode code 327 = .ok (.iload_n 3, 1) := by decide +kernel
theorem smd_L_law_328 : decode code 328 = .ok (.iconst 4, 1) := by decide +kernel
theorem smd_L_law_329 : decode code 329 = .ok (.iadd, 1) := by decide +kernel
theorem smd_L_law_330 : decode code 330 = .ok (.iaload, 1) := by decide +kernel
theorem smd_L_law_331 : decode code 331 = .ok (.aload_n 0, 1) := by decide +kernel
theorem smd_L_law_332 : decode code 332 = .ok (.iload_n 3, 1) := by decide +kernel
theorem smd_L_law_333 : decode code 333 = .ok (.iconst 5, 1) := by decide +kernel
theorem smd_L_law_334 : decode code 334 = .ok (.iadd, 1) := by decide +kernel
theorem smd_L_law_335 : decode code 335 = .ok (.iaload, 1) := by decide +kernel
theorem smd_L_law_336 : decode code 336 = .ok (.invokevirtual 31, 3) := by decide +kernel
theorem smd_L_law_339 : decode code 339 = .ok (.if_icmp .eq 442, 3) := by decide +kernel
theorem smd_L_law_342 : decode code 342 = .ok (.iconst 0, 1) := by decide +kernel
theorem smd_L_law_343 : decode code 343 = .ok (.ireturn, 1) := by decide +kernel
theorem smd_L_law_344 : decode code 344 = .ok (.aload_n 1, 1) := by decide +kernel
theorem smd_L_law_345 : decode code 345 = .ok (.invokevirtual 32, 3) := by decide +kernel
theorem smd_L_law_348 : decode code 348 = .ok (.aload_n 2, 1) := by decide +kernel
theorem smd_L_law_349 : decode code 349 = .ok (.invokevirtual 36, 3) := by decide +kernel
theorem smd_L_law_352 : decode code 352 = .ok (.if_icmp .eq 429, 3) := by decide +kernel
theorem smd_L_law_355 : decode code 355 = .ok (.iconst 0, 1) := by decide +kernel
theorem smd_L_law_356 : decode code 356 = .ok (.ireturn, 1) := by decide +kernel
theorem smd_L_law_357 : decode code 357 = .ok (.aload_n 1, 1) := by decide +kernel
theorem smd_L_law_358 : decode code 358 = .ok (.invokevirtual 37, 3) := by decide +kernel
theorem smd_L_law_361 : decode code 361 = .ok (.aload_n 2, 1) := by decide +kernel
theorem smd_L_law_362 : decode code 362 = .ok (.invokevirtual 41, 3) := by decide +kernel
theorem smd_L_law_365 : decode code 365 = .ok (.if_icmp .eq 416, 3) := by decide +kernel
theorem smd_L_law_368 : decode code 368 = .ok (.iconst 0, 1) := by decide +kernel
theorem smd_L_law_369 : decode code 369 = .ok (.ireturn, 1) := by decide +kernel
theorem smd_L_law_370 : decode code 370 = .ok (.aload_n 1, 1) := by decide +kernel
theorem smd_L_law_371 : decode code 371 = .ok (.invokevirtual 42, 3) := by decide +kernel
theorem smd_L_law_374 : decode code 374 = .ok (.aload_n 2, 1) := by decide +kernel
theorem smd_L_law_375 : decode code 375 = .ok (.invokevirtual 45, 3) := by decide +kernel
theorem smd_L_law_378 : decode code 378 = .ok (.if_icmp .eq 403, 3) := by decide +kernel
theorem smd_L_law_381 : decode code 381 = .ok (.iconst 0, 1) := by decide +kernel
theorem smd_L_law_382 : decode code 382 = .ok (.ireturn, 1) := by decide +kernel
theorem smd_L_law_383 : decode code 383 = .ok (.aload_n 1, 1) := by decide +kernel
theorem smd_L_law_384 : decode code 384 = .ok (.aload_n 0, 1) := by decide +kernel
theorem smd_L_law_385 : decode code 385 = .ok (.iload_n 3, 1) := by decide +kernel
theorem smd_L_law_386 : decode code 386 = .ok (.iconst 1, 1) := by decide +kernel
theorem smd_L_law_387 : decode code 387 = .ok (.iadd, 1) := by decide +kernel
theorem smd_L_law_388 : decode code 388 = .ok (.iaload, 1) := by decide +kernel
theorem smd_L_law_389 : decode code 389 = .ok (.invokevirtual 46, 3) := by decide +kernel
theorem smd_L_law_392 : decode code 392 = .ok (.aload_n 2, 1) := by decide +kernel
theorem smd_L_law_393 : decode code 393 = .ok (.aload_n 0, 1) := by decide +kernel
theorem smd_L_law_394 : decode code 394 = .ok (.iload_n 3, 1) := by decide +kernel
theorem smd_L_law_395 : decode code 395 = .ok (.iconst 1, 1) := by decide +kernel
theorem smd_L_law_396 : decode code 396 = .ok (.iadd, 1) := by decide +kernel
theorem smd_L_law_397 : decode code 397 = .ok (.iaload, 1) := by decide +kernel
theorem smd_L_law_398 : decode code 398 = .ok (.invokevirtual 50, 3) := by decide +kernel
theorem smd_L_law_401 : decode code 401 = .ok (.if_icmp .eq 380, 3) := by decide +kernel
theorem smd_L_law_404 : decode code 404 = .ok (.iconst 0, 1) := by decide +kernel
theorem smd_L_law_405 : decode code 405 = .ok (.ireturn, 1) := by decide +kernel
theorem smd_L_law_406 : decode code 406 = .ok (.aload_n 1, 1) := by decide +kernel
theorem smd_L_law_407 : decode code 407 = .ok (.aload_n 0, 1) := by decide +kernel
theorem smd_L_law_408 : decode code 408 = .ok (.iload_n 3, 1) := by decide +kernel
theorem smd_L_law_409 : decode code 409 = .ok (.iconst 1, 1) := by decide +kernel
theorem smd_L_law_410 : decode code 410 = .ok (.iadd, 1) := by decide +kernel
theorem smd_L_law_411 : decode code 411 = .ok (.iaload, 1) := by decide +kernel
theorem smd_L_law_412 : decode code 412 = .ok (.invokevirtual 51, 3) := by decide +kernel
theorem smd_L_law_415 : decode code 415 = .ok (.aload_n 2, 1) := by decide +kernel
theorem smd_L_law_416 : decode code 416 = .ok (.aload_n 0, 1) := by decide +kernel
theorem smd_L_law_417 : decode code 417 = .ok (.iload_n 3, 1) := by decide +kernel
theorem smd_L_law_418 : decode code 418 = .ok (.iconst 1, 1) := by decide +kernel
theorem smd_L_law_419 : decode code 419 = .ok (.iadd, 1) := by decide +kernel
theorem smd_L_law_420 : decode code 420 = .ok (.iaload, 1) := by decide +kernel
theorem smd_L_law_421 : decode code 421 = .ok (.invokevirtual 55, 3) := by decide +kernel
theorem smd_L_law_424 : decode code 424 = .ok (.if_icmp .eq 357, 3) := by decide +kernel
theorem smd_L_law_427 : decode code 427 = .ok (.iconst 0, 1) := by decide +kernel
theorem smd_L_law_428 : decode code 428 = .ok (.ireturn, 1) := by decide +kernel
theorem smd_L_law_429 : decode code 429 = .ok (.aload_n 1, 1) := by decide +kernel
theorem smd_L_law_430 : decode code 430 = .ok (.aload_n 0, 1) := by decide +kernel
theorem smd_L_law_431 : decode code 431 = .ok (.iload_n 3, 1) := by decide +kernel
theorem smd_L_law_432 : decode code 432 = .ok (.iconst 1, 1) := by decide +kernel
theorem smd_L_law_433 : decode code 433 = .ok (.iadd, 1) := by decide +kernel
theorem smd_L_law_434 : decode code 434 = .ok (.iaload, 1) := by decide +kernel
theorem smd_L_law_435 : decode code 435 = .ok (.invokevirtual 56, 3) := by decide +kernel
theorem smd_L_law_438 : decode code 438 = .ok (.aload_n 2, 1) := by decide +kernel
theorem smd_L_law_439 : decode code 439 = .ok (.aload_n 0, 1) := by decide +kernel
theorem smd_L_law_440 : decode code 440 = .ok (.iload_n 3, 1) := by decide +kernel
theorem smd_L_law_441 : decode code 441 = .ok (.iconst 1, 1) := by decide +kernel
theorem smd_L_law_442 : decode code 442 = .ok (.iadd, 1) := by decide +kernel
theorem smd_L_law_443 : decode code 443 = .ok (.iaload, 1) := by decide +kernel
theorem smd_L_law_444 : decode code 444 = .ok (.invokevirtual 59, 3) := by decide +kernel
theorem smd_L_law_447 : decode code 447 = .ok (.if_icmp .eq 334, 3) := by decide +kernel
theorem smd_L_law_450 : decode code 450 = .ok (.iconst 0, 1) := by decide +kernel
theorem smd_L_law_451 : decode code 451 = .ok (.ireturn, 1) := by decide +kernel
theorem smd_L_law_452 : decode code 452 = .ok (.aload_n 1, 1) := by decide +kernel
theorem smd_L_law_453 : decode code 453 = .ok (.invokevirtual 60, 3) := by decide +kernel
theorem smd_L_law_456 : decode code 456 = .ok (.aload_n 2, 1) := by decide +kernel
theorem smd_L_law_457 : decode code 457 = .ok (.invokevirtual 63, 3) := by decide +kernel
theorem smd_L_law_460 : decode code 460 = .ok (.if_icmp .eq 321, 3) := by decide +kernel
theorem smd_L_law_463 : decode code 463 = .ok (.iconst 0, 1) := by decide +kernel
theorem smd_L_law_464 : decode code 464 = .ok (.ireturn, 1) := by decide +kernel
theorem smd_L_law_465 : decode code 465 = .ok (.aload_n 1, 1) := by decide +kernel
theorem smd_L_law_466 : decode code 466 = .ok (.aload_n 0, 1) := by decide +kernel
theorem smd_L_law_467 : decode code 467 = .ok (.iload_n 3, 1) := by decide +kernel
theorem smd_L_law_468 : decode code 468 = .ok (.iconst 1, 1) := by decide +kernel
theorem smd_L_law_469 : decode code 469 = .ok (.iadd, 1) := by decide +kernel
theorem smd_L_law_470 : decode code 470 = .ok (.iaload, 1) := by decide +kernel
theorem smd_L_law_471 : decode code 471 = .ok (.aload_n 0, 1) := by decide +kernel
theorem smd_L_law_472 : decode code 472 = .ok (.iload_n 3, 1) := by decide +kernel
theorem smd_L_law_473 : decode code 473 = .ok (.iconst 2, 1) := by decide +kernel
theorem smd_L_law_474 : decode code 474 = .ok (.iadd, 1) := by decide +kernel
theorem smd_L_law_475 : decode code 475 = .ok (.iaload, 1) := by decide +kernel
theorem smd_L_law_476 : decode code 476 = .ok (.invokevirtual 64, 3) := by decide +kernel
theorem smd_L_law_479 : decode code 479 = .ok (.aload_n 2, 1) := by decide +kernel
theorem smd_L_law_480 : decode code 480 = .ok (.aload_n 0, 1) := by decide +kernel
theorem smd_L_law_481 : decode code 481 = .ok (.iload_n 3, 1) := by decide +kernel
theorem smd_L_law_482 : decode code 482 = .ok (.iconst 1, 1) := by decide +kernel
theorem smd_L_law_483 : decode code 483 = .ok (.iadd, 1) := by decide +kernel
theorem smd_L_law_484 : decode code 484 = .ok (.iaload, 1) := by decide +kernel
theorem smd_L_law_485 : decode code 485 = .ok (.aload_n 0, 1) := by decide +kernel
theorem smd_L_law_486 : decode code 486 = .ok (.iload_n 3, 1) := by decide +kernel
theorem smd_L_law_487 : decode code 487 = .ok (.iconst 2, 1) := by decide +kernel
theorem smd_L_law_488 : decode code 488 = .ok (.iadd, 1) := by decide +kernel
theorem smd_L_law_489 : decode code 489 = .ok (.iaload, 1) := by decide +kernel
theorem smd_L_law_490 : decode code 490 = .ok (.invokevirtual 68, 3) := by decide +kernel
theorem smd_L_law_493 : decode code 493 = .ok (.if_icmp .eq 288, 3) := by decide +kernel
theorem smd_L_law_496 : decode code 496 = .ok (.iconst 0, 1) := by decide +kernel
theorem smd_L_law_497 : decode code 497 = .ok (.ireturn, 1) := by decide +kernel
theorem smd_L_law_498 : decode code 498 = .ok (.aload_n 1, 1) := by decide +kernel
theorem smd_L_law_499 : decode code 499 = .ok (.aload_n 0, 1) := by decide +kernel
theorem smd_L_law_500 : decode code 500 = .ok (.iload_n 3, 1) := by decide +kernel
theorem smd_L_law_501 : decode code 501 = .ok (.iconst 1, 1) := by decide +kernel
theorem smd_L_law_502 : decode code 502 = .ok (.iadd, 1) := by decide +kernel
theorem smd_L_law_503 : decode code 503 = .ok (.iaload, 1) := by decide +kernel
theorem smd_L_law_504 : decode code 504 = .ok (.aload_n 0, 1) := by decide +kernel
theorem smd_L_law_505 : decode code 505 = .ok (.iload_n 3, 1) := by decide +kernel
theorem smd_L_law_506 : decode code 506 = .ok (.iconst 2, 1) := by decide +kernel
theorem smd_L_law_507 : decode code 507 = .ok (.iadd, 1) := by decide +kernel
theorem smd_L_law_508 : decode code 508 = .ok (.iaload, 1) := by decide +kernel
theorem smd_L_law_509 : decode code 509 = .ok (.invokevirtual 69, 3) := by decide +kernel
theorem smd_L_law_512 : decode code 512 = .ok (.aload_n 2, 1) := by decide +kernel
theorem smd_L_law_513 : decode code 513 = .ok (.aload_n 0, 1) := by decide +kernel
theorem smd_L_law_514 : decode code 514 = .ok (.iload_n 3, 1) := by decide +kernel
theorem smd_L_law_515 : decode code 515 = .ok (.iconst 1, 1) := by decide +kernel
theorem smd_L_law_516 : decode code 516 = .ok (.iadd, 1) := by decide +kernel
theorem smd_L_law_517 : decode code 517 = .ok (.iaload, 1) := by decide +kernel
theorem smd_L_law_518 : decode code 518 = .ok (.aload_n 0, 1) := by decide +kernel
theorem smd_L_law_519 : decode code 519 = .ok (.iload_n 3, 1) := by decide +kernel
theorem smd_L_law_520 : decode code 520 = .ok (.iconst 2, 1) := by decide +kernel
theorem smd_L_law_521 : decode code 521 = .ok (.iadd, 1) := by decide +kernel
theorem smd_L_law_522 : decode code 522 = .ok (.iaload, 1) := by decide +kernel
theorem smd_L_law_523 : decode code 523 = .ok (.invokevirtual 72, 3) := by decide +kernel
theorem smd_L_law_526 : decode code 526 = .ok (.if_icmp .eq 255, 3) := by decide +kernel
theorem smd_L_law_529 : decode code 529 = .ok (.iconst 0, 1) := by decide +kernel
theorem smd_L_law_530 : decode code 530 = .ok (.ireturn, 1) := by decide +kernel
theorem smd_L_law_531 : decode code 531 = .ok (.aload_n 1, 1) := by decide +kernel
theorem smd_L_law_532 : decode code 532 = .ok (.aload_n 0, 1) := by decide +kernel
theorem smd_L_law_533 : decode code 533 = .ok (.iload_n 3, 1) := by decide +kernel
theorem smd_L_law_534 : decode code 534 = .ok (.iconst 1, 1) := by decide +kernel
theorem smd_L_law_535 : decode code 535 = .ok (.iadd, 1) := by decide +kernel
theorem smd_L_law_536 : decode code 536 = .ok (.iaload, 1) := by decide +kernel
theorem smd_L_law_537 : decode code 537 = .ok (.aload_n 0, 1) := by decide +kernel
theorem smd_L_law_538 : decode code 538 = .ok (.iload_n 3, 1) := by decide +kernel
theorem smd_L_law_539 : decode code 539 = .ok (.iconst 2, 1) := by decide +kernel
theorem smd_L_law_540 : decode code 540 = .ok (.iadd, 1) := by decide +kernel
theorem smd_L_law_541 : decode code 541 = .ok (.iaload, 1) := by decide +kernel
theorem smd_L_law_542 : decode code 542 = .ok (.invokevirtual 73, 3) := by decide +kernel
theorem smd_L_law_545 : decode code 545 = .ok (.aload_n 2, 1) := by decide +kernel
theorem smd_L_law_546 : decode code 546 = .ok (.aload_n 0, 1) := by decide +kernel
theorem smd_L_law_547 : decode code 547 = .ok (.iload_n 3, 1) := by decide +kernel
theorem smd_L_law_548 : decode code 548 = .ok (.iconst 1, 1) := by decide +kernel
theorem smd_L_law_549 : decode code 549 = .ok (.iadd, 1) := by decide +kernel
theorem smd_L_law_550 : decode code 550 = .ok (.iaload, 1) := by decide +kernel
theorem smd_L_law_551 : decode code 551 = .ok (.aload_n 0, 1) := by decide +kernel
theorem smd_L_law_552 : decode code 552 = .ok (.iload_n 3, 1) := by decide +kernel
theorem smd_L_law_553 : decode code 553 = .ok (.iconst 2, 1) := by decide +kernel
theorem smd_L_law_554 : decode code 554 = .ok (.iadd, 1) := by decide +kernel
theorem smd_L_law_555 : decode code 555 = .ok (.iaload, 1) := by decide +kernel
theorem smd_L_law_556 : decode code 556 = .ok (.invokevirtual 76, 3) := by decide +kernel
theorem smd_L_law_559 : decode code 559 = .ok (.if_icmp .eq 222, 3) := by decide +kernel
theorem smd_L_law_562 : decode code 562 = .ok (.iconst 0, 1) := by decide +kernel
theorem smd_L_law_563 : decode code 563 = .ok (.ireturn, 1) := by decide +kernel
theorem smd_L_law_564 : decode code 564 = .ok (.aload_n 1, 1) := by decide +kernel
theorem smd_L_law_565 : decode code 565 = .ok (.aload_n 0, 1) := by decide +kernel
theorem smd_L_law_566 : decode code 566 = .ok (.iload_n 3, 1) := by decide +kernel
theorem smd_L_law_567 : decode code 567 = .ok (.iconst 1, 1) := by decide +kernel
theorem smd_L_law_568 : decode code 568 = .ok (.iadd, 1) := by decide +kernel
theorem smd_L_law_569 : decode code 569 = .ok (.iaload, 1) := by decide +kernel
theorem smd_L_law_570 : decode code 570 = .ok (.invokevirtual 77, 3) := by decide +kernel
theorem smd_L_law_573 : decode code 573 = .ok (.aload_n 2, 1) := by decide +kernel
theorem smd_L_law_574 : decode code 574 = .ok (.aload_n 0, 1) := by decide +kernel
theorem smd_L_law_575 : decode code 575 = .ok (.iload_n 3, 1) := by decide +kernel
theorem smd_L_law_576 : decode code 576 = .ok (.iconst 1, 1) := by decide +kernel
theorem smd_L_law_577 : decode code 577 = .ok (.iadd, 1) := by decide +kernel
theorem smd_L_law_578 : decode code 578 = .ok (.iaload, 1) := by decide +kernel
theorem smd_L_law_579 : decode code 579 = .ok (.invokevirtual 80, 3) := by decide +kernel
theorem smd_L_law_582 : decode code 582 = .ok (.if_icmp .eq 199, 3) := by decide +kernel
theorem smd_L_law_585 : decode code 585 = .ok (.iconst 0, 1) := by decide +kernel
theorem smd_L_law_586 : decode code 586 = .ok (.ireturn, 1) := by decide +kernel
theorem smd_L_law_587 : decode code 587 = .ok (.aload_n 1, 1) := by decide +kernel
theorem smd_L_law_588 : decode code 588 = .ok (.aload_n 0, 1) := by decide +kernel
theorem smd_L_law_589 : decode code 589 = .ok (.iload_n 3, 1) := by decide +kernel
theorem smd_L_law_590 : decode code 590 = .ok (.iconst 1, 1) := by decide +kernel
theorem smd_L_law_591 : decode code 591 = .ok (.iadd, 1) := by decide +kernel
theorem smd_L_law_592 : decode code 592 = .ok (.iaload, 1) := by decide +kernel
theorem smd_L_law_593 : decode code 593 = .ok (.invokevirtual 81, 3) := by decide +kernel
theorem smd_L_law_596 : decode code 596 = .ok (.aload_n 2, 1) := by decide +kernel
theorem smd_L_law_597 : decode code 597 = .ok (.aload_n 0, 1) := by decide +kernel
theorem smd_L_law_598 : decode code 598 = .ok (.iload_n 3, 1) := by decide +kernel
theorem smd_L_law_599 : decode code 599 = .ok (.iconst 1, 1) := by decide +kernel
theorem smd_L_law_600 : decode code 600 = .ok (.iadd, 1) := by decide +kernel
theorem smd_L_law_601 : decode code 601 = .ok (.iaload, 1) := by decide +kernel
theorem smd_L_law_602 : decode code 602 = .ok (.invokevirtual 84, 3) := by decide +kernel
theorem smd_L_law_605 : decode code 605 = .ok (.if_icmp .eq 176, 3) := by decide +kernel
theorem smd_L_law_608 : decode code 608 = .ok (.iconst 0, 1) := by decide +kernel
theorem smd_L_law_609 : decode code 609 = .ok (.ireturn, 1) := by decide +kernel
theorem smd_L_law_610 : decode code 610 = .ok (.aload_n 1, 1) := by decide +kernel
theorem smd_L_law_611 : decode code 611 = .ok (.aload_n 0, 1) := by decide +kernel
theorem smd_L_law_612 : decode code 612 = .ok (.iload_n 3, 1) := by decide +kernel
theorem smd_L_law_613 : decode code 613 = .ok (.iconst 1, 1) := by decide +kernel
theorem smd_L_law_614 : decode code 614 = .ok (.iadd, 1) := by decide +kernel
theorem smd_L_law_615 : decode code 615 = .ok (.iaload, 1) := by decide +kernel
theorem smd_L_law_616 : decode code 616 = .ok (.invokevirtual 85, 3) := by decide +kernel
theorem smd_L_law_619 : decode code 619 = .ok (.aload_n 2, 1) := by decide +kernel
theorem smd_L_law_620 : decode code 620 = .ok (.aload_n 0, 1) := by decide +kernel
theorem smd_L_law_621 : decode code 621 = .ok (.iload_n 3, 1) := by decide +kernel
theorem smd_L_law_622 : decode code 622 = .ok (.iconst 1, 1) := by decide +kernel
theorem smd_L_law_623 : decode code 623 = .ok (.iadd, 1) := by decide +kernel
theorem smd_L_law_624 : decode code 624 = .ok (.iaload, 1) := by decide +kernel
theorem smd_L_law_625 : decode code 625 = .ok (.invokevirtual 88, 3) := by decide +kernel
theorem smd_L_law_628 : decode code 628 = .ok (.if_icmp .eq 153, 3) := by decide +kernel
theorem smd_L_law_631 : decode code 631 = .ok (.iconst 0, 1) := by decide +kernel
theorem smd_L_law_632 : decode code 632 = .ok (.ireturn, 1) := by decide +kernel
theorem smd_L_law_633 : decode code 633 = .ok (.aload_n 1, 1) := by decide +kernel
theorem smd_L_law_634 : decode code 634 = .ok (.aload_n 0, 1) := by decide +kernel
theorem smd_L_law_635 : decode code 635 = .ok (.iload_n 3, 1) := by decide +kernel
theorem smd_L_law_636 : decode code 636 = .ok (.iconst 1, 1) := by decide +kernel
theorem smd_L_law_637 : decode code 637 = .ok (.iadd, 1) := by decide +kernel
theorem smd_L_law_638 : decode code 638 = .ok (.iaload, 1) := by decide +kernel
theorem smd_L_law_639 : decode code 639 = .ok (.aload_n 0, 1) := by decide +kernel
theorem smd_L_law_640 : decode code 640 = .ok (.iload_n 3, 1) := by decide +kernel
theorem smd_L_law_641 : decode code 641 = .ok (.iconst 2, 1) := by decide +kernel
theorem smd_L_law_642 : decode code 642 = .ok (.iadd, 1) := by decide +kernel
theorem smd_L_law_643 : decode code 643 = .ok (.iaload, 1) := by decide +kernel
theorem smd_L_law_644 : decode code 644 = .ok (.aload_n 0, 1) := by decide +kernel
theorem smd_L_law_645 : decode code 645 = .ok (.iload_n 3, 1) := by decide +kernel
theorem smd_L_law_646 : decode code 646 = .ok (.iconst 3, 1) := by decide +kernel
theorem smd_L_law_647 : decode code 647 = .ok (.iadd, 1) := by decide +kernel
theorem smd_L_law_648 : decode code 648 = .ok (.iaload, 1) := by decide +kernel
theorem smd_L_law_649 : decode code 649 = .ok (.invokevirtual 89, 3) := by decide +kernel
theorem smd_L_law_652 : decode code 652 = .ok (.aload_n 2, 1) := by decide +kernel
theorem smd_L_law_653 : decode code 653 = .ok (.aload_n 0, 1) := by decide +kernel
theorem smd_L_law_654 : decode code 654 = .ok (.iload_n 3, 1) := by decide +kernel
theorem smd_L_law_655 : decode code 655 = .ok (.iconst 1, 1) := by decide +kernel
theorem smd_L_law_656 : decode code 656 = .ok (.iadd, 1) := by decide +kernel
theorem smd_L_law_657 : decode code 657 = .ok (.iaload, 1) := by decide +kernel
theorem smd_L_law_658 : decode code 658 = .ok (.aload_n 0, 1) := by decide +kernel
theorem smd_L_law_659 : decode code 659 = .ok (.iload_n 3, 1) := by decide +kernel
theorem smd_L_law_660 : decode code 660 = .ok (.iconst 2, 1) := by decide +kernel
theorem smd_L_law_661 : decode code 661 = .ok (.iadd, 1) := by decide +kernel
theorem smd_L_law_662 : decode code 662 = .ok (.iaload, 1) := by decide +kernel
theorem smd_L_law_663 : decode code 663 = .ok (.aload_n 0, 1) := by decide +kernel
theorem smd_L_law_664 : decode code 664 = .ok (.iload_n 3, 1) := by decide +kernel
theorem smd_L_law_665 : decode code 665 = .ok (.iconst 3, 1) := by decide +kernel
theorem smd_L_law_666 : decode code 666 = .ok (.iadd, 1) := by decide +kernel
theorem smd_L_law_667 : decode code 667 = .ok (.iaload, 1) := by decide +kernel
theorem smd_L_law_668 : decode code 668 = .ok (.invokevirtual 93, 3) := by decide +kernel
theorem smd_L_law_671 : decode code 671 = .ok (.if_icmp .eq 110, 3) := by decide +kernel
theorem smd_L_law_674 : decode code 674 = .ok (.iconst 0, 1) := by decide +kernel
theorem smd_L_law_675 : decode code 675 = .ok (.ireturn, 1) := by decide +kernel
theorem smd_L_law_676 : decode code 676 = .ok (.aload_n 1, 1) := by decide +kernel
theorem smd_L_law_677 : decode code 677 = .ok (.aload_n 0, 1) := by decide +kernel
theorem smd_L_law_678 : decode code 678 = .ok (.iload_n 3, 1) := by decide +kernel
theorem smd_L_law_679 : decode code 679 = .ok (.iconst 1, 1) := by decide +kernel
theorem smd_L_law_680 : decode code 680 = .ok (.iadd, 1) := by decide +kernel
theorem smd_L_law_681 : decode code 681 = .ok (.iaload, 1) := by decide +kernel
theorem smd_L_law_682 : decode code 682 = .ok (.invokevirtual 94, 3) := by decide +kernel
theorem smd_L_law_685 : decode code 685 = .ok (.aload_n 2, 1) := by decide +kernel
theorem smd_L_law_686 : decode code 686 = .ok (.aload_n 0, 1) := by decide +kernel
theorem smd_L_law_687 : decode code 687 = .ok (.iload_n 3, 1) := by decide +kernel
theorem smd_L_law_688 : decode code 688 = .ok (.iconst 1, 1) := by decide +kernel
theorem smd_L_law_689 : decode code 689 = .ok (.iadd, 1) := by decide +kernel
theorem smd_L_law_690 : decode code 690 = .ok (.iaload, 1) := by decide +kernel
theorem smd_L_law_691 : decode code 691 = .ok (.invokevirtual 97, 3) := by decide +kernel
theorem smd_L_law_694 : decode code 694 = .ok (.if_icmp .eq 87, 3) := by decide +kernel
theorem smd_L_law_697 : decode code 697 = .ok (.iconst 0, 1) := by decide +kernel
theorem smd_L_law_698 : decode code 698 = .ok (.ireturn, 1) := by decide +kernel
theorem smd_L_law_699 : decode code 699 = .ok (.aload_n 1, 1) := by decide +kernel
theorem smd_L_law_700 : decode code 700 = .ok (.aload_n 0, 1) := by decide +kernel
theorem smd_L_law_701 : decode code 701 = .ok (.iload_n 3, 1) := by decide +kernel
theorem smd_L_law_702 : decode code 702 = .ok (.iconst 1, 1) := by decide +kernel
theorem smd_L_law_703 : decode code 703 = .ok (.iadd, 1) := by decide +kernel
theorem smd_L_law_704 : decode code 704 = .ok (.iaload, 1) := by decide +kernel
theorem smd_L_law_705 : decode code 705 = .ok (.invokevirtual 98, 3) := by decide +kernel
theorem smd_L_law_708 : decode code 708 = .ok (.aload_n 2, 1) := by decide +kernel
theorem smd_L_law_709 : decode code 709 = .ok (.aload_n 0, 1) := by decide +kernel
theorem smd_L_law_710 : decode code 710 = .ok (.iload_n 3, 1) := by decide +kernel
theorem smd_L_law_711 : decode code 711 = .ok (.iconst 1, 1) := by decide +kernel
theorem smd_L_law_712 : decode code 712 = .ok (.iadd, 1) := by decide +kernel
theorem smd_L_law_713 : decode code 713 = .ok (.iaload, 1) := by decide +kernel
theorem smd_L_law_714 : decode code 714 = .ok (.invokevirtual 101, 3) := by decide +kernel
theorem smd_L_law_717 : decode code 717 = .ok (.if_icmp .eq 64, 3) := by decide +kernel
theorem smd_L_law_720 : decode code 720 = .ok (.iconst 0, 1) := by decide +kernel
theorem smd_L_law_721 : decode code 721 = .ok (.ireturn, 1) := by decide +kernel
theorem smd_L_law_722 : decode code 722 = .ok (.aload_n 1, 1) := by decide +kernel
theorem smd_L_law_723 : decode code 723 = .ok (.aload_n 0, 1) := by decide +kernel
theorem smd_L_law_724 : decode code 724 = .ok (.iload_n 3, 1) := by decide +kernel
theorem smd_L_law_725 : decode code 725 = .ok (.iconst 1, 1) := by decide +kernel
theorem smd_L_law_726 : decode code 726 = .ok (.iadd, 1) := by decide +kernel
theorem smd_L_law_727 : decode code 727 = .ok (.iaload, 1) := by decide +kernel
theorem smd_L_law_728 : decode code 728 = .ok (.aload_n 0, 1) := by decide +kernel
theorem smd_L_law_729 : decode code 729 = .ok (.iload_n 3, 1) := by decide +kernel
theorem smd_L_law_730 : decode code 730 = .ok (.iconst 2, 1) := by decide +kernel
theorem smd_L_law_731 : decode code 731 = .ok (.iadd, 1) := by decide +kernel
theorem smd_L_law_732 : decode code 732 = .ok (.iaload, 1) := by decide +kernel
theorem smd_L_law_733 : decode code 733 = .ok (.invokevirtual 102, 3) := by decide +kernel
theorem smd_L_law_736 : decode code 736 = .ok (.aload_n 2, 1) := by decide +kernel
theorem smd_L_law_737 : decode code 737 = .ok (.aload_n 0, 1) := by decide +kernel
theorem smd_L_law_738 : decode code 738 = .ok (.iload_n 3, 1) := by decide +kernel
theorem smd_L_law_739 : decode code 739 = .ok (.iconst 1, 1) := by decide +kernel
theorem smd_L_law_740 : decode code 740 = .ok (.iadd, 1) := by decide +kernel
theorem smd_L_law_741 : decode code 741 = .ok (.iaload, 1) := by decide +kernel
theorem smd_L_law_742 : decode code 742 = .ok (.aload_n 0, 1) := by decide +kernel
theorem smd_L_law_743 : decode code 743 = .ok (.iload_n 3, 1) := by decide +kernel
theorem smd_L_law_744 : decode code 744 = .ok (.iconst 2, 1) := by decide +kernel
theorem smd_L_law_745 : decode code 745 = .ok (.iadd, 1) := by decide +kernel
theorem smd_L_law_746 : decode code 746 = .ok (.iaload, 1) := by decide +kernel
theorem smd_L_law_747 : decode code 747 = .ok (.invokevirtual 105, 3) := by decide +kernel
theorem smd_L_law_750 : decode code 750 = .ok (.if_icmp .eq 31, 3) := by decide +kernel
theorem smd_L_law_753 : decode code 753 = .ok (.iconst 0, 1) := by decide +kernel
theorem smd_L_law_754 : decode code 754 = .ok (.ireturn, 1) := by decide +kernel
theorem smd_L_law_755 : decode code 755 = .ok (.aload_n 1, 1) := by decide +kernel
theorem smd_L_law_756 : decode code 756 = .ok (.invokevirtual 106, 3) := by decide +kernel
theorem smd_L_law_759 : decode code 759 = .ok (.aload_n 2, 1) := by decide +kernel
theorem smd_L_law_760 : decode code 760 = .ok (.invokevirtual 109, 3) := by decide +kernel
theorem smd_L_law_763 : decode code 763 = .ok (.if_icmp .eq 18, 3) := by decide +kernel
theorem smd_L_law_766 : decode code 766 = .ok (.iconst 0, 1) := by decide +kernel
theorem smd_L_law_767 : decode code 767 = .ok (.ireturn, 1) := by decide +kernel
theorem smd_L_law_768 : decode code 768 = .ok (.aload_n 1, 1) := by decide +kernel
theorem smd_L_law_769 : decode code 769 = .ok (.invokevirtual 110, 3) := by decide +kernel
theorem smd_L_law_772 : decode code 772 = .ok (.aload_n 2, 1) := by decide +kernel
theorem smd_L_law_773 : decode code 773 = .ok (.invokevirtual 113, 3) := by decide +kernel
theorem smd_L_law_776 : decode code 776 = .ok (.if_icmp .eq 5, 3) := by decide +kernel
theorem smd_L_law_779 : decode code 779 = .ok (.iconst 0, 1) := by decide +kernel
theorem smd_L_law_780 : decode code 780 = .ok (.ireturn, 1) := by decide +kernel
theorem smd_L_law_781 : decode code 781 = .ok (.iinc 3 7, 3) := by decide +kernel
theorem smd_L_law_784 : decode code 784 = .ok (.goto (-766), 3) := by decide +kernel
theorem smd_L_law_787 : decode code 787 = .ok (.iconst 1, 1) := by decide +kernel
theorem smd_L_law_788 : decode code 788 = .ok (.ireturn, 1) := by decide +kernel
end
section
/-! the small machine: one memory of rows of ints, the shape of all objects fixed; a judgement over W with it, a rule an instruction -/
abbrev mm_Mem : Type := Nat → Nat → Int32
abbrev mm_Ctx : Type := Launch × Nat × va_G × ClassId × ClassId × ClassId
abbrev mm_MD : Type := MethodName × ByteArray × Nat × Option FieldType × Nat
abbrev mm_B (Γ : mm_Ctx) : Nat := Γ.2.1
abbrev mm_D (Γ : mm_Ctx) : va_G := Γ.2.2.1
abbrev mm_cI (Γ : mm_Ctx) : ClassId := Γ.2.2.2.1
abbrev mm_cZ (Γ : mm_Ctx) : ClassId := Γ.2.2.2.2.1
abbrev mm_cT (Γ : mm_Ctx) : ClassId := Γ.2.2.2.2.2
/-! words -/
def mm_all : List Cond := lw_tbl.filter goodWord
theorem mm_mem {w : Cond} (n : Nat) (h : lw_tbl[n]? = some w) (g : goodWord w = true) : w ∈ mm_all := List.mem_filter.mpr ⟨List.mem_of_getElem? h, g⟩
abbrev mm_wsM (M : mm_MD) : List Cond := Cond.code M.1 M.2.1 M.2.2.1 M.2.2.2.1 :: mm_all
theorem mm_goodIn {M' : mm_MD} {big : List Cond} (hb : ∀ w ∈ mm_all, w ∈ big) (hc : Cond.code M'.1 M'.2.1 M'.2.2.1 M'.2.2.2.1 ∈ mm_all) : GoodIn big (mm_wsM M') := by
  intro w hw
  have h : w ∈ mm_all := by
    rcases List.mem_cons.mp hw with rfl | h
    · exact hc
    · exact h
  exact ⟨hb w h, good_of_word (List.mem_filter.mp h).2⟩
def mm_rm (M : mm_MD) : Room := { frames := M.2.2.2.2, cells := 0, slots := 0, locals := 36 * M.2.2.2.2 }
/-! the world -/
abbrev mm_cl : List vw_C := [(smR_H, smF_H, 6), (smR_R, smF_R, 4), (smR_T, smF_T, 9), (smR_V, smF_V, 6), (smR_S, smF_S, 9), (smR_M, smF_M, 19)]
abbrev mm_tys (Γ : mm_Ctx) : List (ClassId × FieldType) := [(mm_cI Γ, .int), (mm_cZ Γ, .boolean), (mm_cT Γ, .object "SwitchedModules$Task")]
def mm_lens : List Nat := [0, 0, 6, 72, 72, 72, 72, 3, 0, 6, 72, 72, 72, 72, 3, 0, 3, 12, 12, 12, 0, 17, 68, 68, 17, 16, 4, 6, 0, 6, 6, 18, 6, 8, 0, 6, 6, 18, 6, 8, 0, 6, 6, 18, 6, 8, 0, 6, 6, 18, 6, 8, 0, 6, 6, 18, 6, 8, 0, 6, 6, 18, 6, 8, 0, 576, 12, 6, 36, 3, 4, 17, 68, 68, 17, 7, 7, 7, 252, 7, 56]
def mm_cell (Γ : mm_Ctx) (k : Nat) (r : Nat → Int32) : va_E :=
  if k = 0 then .inr (4, [.ref (mm_B Γ + 1), .ref (mm_B Γ + 8), .ref (mm_B Γ + 15), .ref (mm_B Γ + 20), .ref (mm_B Γ + 26), .ref (mm_B Γ + 27), .int (r 6), .int (r 7), .int (r 8)])
  else if k = 1 ∨ k = 8 then .inr (3, [.ref (mm_B Γ + (k + 1)), .ref (mm_B Γ + (k + 2)), .ref (mm_B Γ + (k + 3)), .ref (mm_B Γ + (k + 4)), .ref (mm_B Γ + (k + 5)), .ref (mm_B Γ + (k + 6))])
  else if k = 15 then .inr (1, [.ref (mm_B Γ + 16), .ref (mm_B Γ + 17), .ref (mm_B Γ + 18), .ref (mm_B Γ + 19)])
  else if k = 20 then .inr (0, [.ref (mm_B Γ + 21), .ref (mm_B Γ + 22), .ref (mm_B Γ + 23), .ref (mm_B Γ + 24), .ref (mm_B Γ + 25), .int (r 5)])
  else if k = 27 then .inl (mm_cT Γ, 6, .inr (.inr (.inr (.inr (fun i => some (mm_B Γ + (28 + 6 * i)))))))
  else if k = 64 then .inr (5, [.ref (mm_B Γ + 65), .ref (mm_B Γ + 66), .ref (mm_B Γ + 67), .ref (mm_B Γ + 68), .ref (mm_B Γ + 69), .int (r 5), .int (r 6), .ref (mm_B Γ + 70), .ref (mm_B Γ + 71), .ref (mm_B Γ + 72), .ref (mm_B Γ + 73), .ref (mm_B Γ + 74), .int (r 12), .ref (mm_B Γ + 75), .ref (mm_B Γ + 76), .ref (mm_B Γ + 77), .ref (mm_B Γ + 78), .ref (mm_B Γ + 79), .ref (mm_B Γ + 80)])
  else if 28 ≤ k ∧ k < 64 ∧ (k - 28) % 6 = 0 then .inr (2, [.ref (mm_B Γ + (k + 1)), .ref (mm_B Γ + (k + 2)), .ref (mm_B Γ + (k + 3)), .ref (mm_B Γ + (k + 4)), .ref (mm_B Γ + (k + 5)), .int (r 5), .int (r 6), .int (r 7), .int (r 8)])
  else if k = 16 ∨ k = 24 ∨ k = 69 ∨ k = 74 then .inl (mm_cZ Γ, mm_lens.getD k 0, .inl r)
  else .inl (mm_cI Γ, mm_lens.getD k 0, .inl r)
def mm_ws (Γ : mm_Ctx) (h : mm_Mem) : va_W := (List.range 81).map (fun k => (mm_B Γ + k, mm_cell Γ k (h k)))
theorem mm_ws_at {Γ : mm_Ctx} {h : mm_Mem} {k : Nat} (hk : k < 81) : (mm_ws Γ h)[k]? = some (mm_B Γ + k, mm_cell Γ k (h k)) := by
  simp [mm_ws, hk]
theorem mm_ws_of {Γ : mm_Ctx} {h : mm_Mem} {k : Nat} {q : Nat × va_E} (hk : (mm_ws Γ h)[k]? = some q) : k < 81 ∧ q = (mm_B Γ + k, mm_cell Γ k (h k)) := by
  by_cases hl : k < 81
  · rw [mm_ws_at hl] at hk
    exact ⟨hl, (Option.some.inj hk).symm⟩
  · exfalso
    have : (mm_ws Γ h).length ≤ k := by simp [mm_ws]; omega
    rw [List.getElem?_eq_none this] at hk
    cases hk
theorem mm_ws_set {Γ : mm_Ctx} {h : mm_Mem} {k : Nat} (r : Nat → Int32) (hk : k < 81) : (mm_ws Γ h).set k (mm_B Γ + k, mm_cell Γ k r) = mm_ws Γ (va_up h k r) := by
  apply List.ext_getElem?
  intro j
  rw [List.getElem?_set]
  by_cases hj : k = j
  · subst hj
    have hl : k < (mm_ws Γ h).length := by simp [mm_ws, hk]
    rw [if_pos rfl, if_pos hl, mm_ws_at hk]
    simp [va_up]
  · rw [if_neg hj]
    by_cases hl : j < 81
    · rw [mm_ws_at hl, mm_ws_at hl]
      have : ¬ j = k := fun e => hj e.symm
      simp [va_up, this]
    · have h1 : (mm_ws Γ h).length ≤ j := by simp [mm_ws]; omega
      have h2 : (mm_ws Γ (va_up h k r)).length ≤ j := by simp [mm_ws]; omega
      rw [List.getElem?_eq_none h1, List.getElem?_eq_none h2]
def mm_A (Γ : mm_Ctx) : Nat → Prop := fun q => mm_B Γ ≤ q ∧ q < mm_B Γ + 81
theorem mm_DD {Γ : mm_Ctx} {h : mm_Mem} : va_D (mm_A Γ) (mm_ws Γ h) := by
  refine ⟨fun i j p q hi hj e => ?_, fun k q hk => ?_⟩
  · obtain ⟨h1, rfl⟩ := mm_ws_of hi
    obtain ⟨h2, rfl⟩ := mm_ws_of hj
    have e' : mm_B Γ + i = mm_B Γ + j := e
    omega
  · obtain ⟨h1, rfl⟩ := mm_ws_of hk
    exact ⟨Nat.le_add_right _ _, Nat.add_lt_add_left h1 _⟩
abbrev mm_PW (Γ : mm_Ctx) (h : mm_Mem) (H : Heap) : Prop := va_P (mm_D Γ) mm_cl (mm_ws Γ h) H
abbrev mm_nest : Cond := Cond.methodLinkNest "SwitchedModules$Version" 30 smy_S_isWithin "SwitchedModules"
abbrev mm_nestV : Cond := Cond.methodLinkNest "SwitchedModules" 9 smy_V_init "SwitchedModules"
abbrev mm_nestR : Cond := Cond.methodLinkNest "SwitchedModules" 21 smy_R_init "SwitchedModules"
abbrev mm_nestT : Cond := Cond.methodLinkNest "SwitchedModules" 43 smy_T_init "SwitchedModules"
def mm_KW (Γ : mm_Ctx) (U : State) : Prop := va_K (mm_D Γ) mm_cl (mm_tys Γ) U ∧ va_Nw mm_nest U ∧ va_Nw mm_nestV U ∧ va_Nw mm_nestR U ∧ va_Nw mm_nestT U ∧ va_AO "SwitchedModules$Task" U
theorem mm_KW_warm {Γ : mm_Ctx} {s U : State} (hW : s.WarmedH U.vm) (h : mm_KW Γ s) : mm_KW Γ U := ⟨va_K.moved hW.alike h.1, va_Nw.warmM hW h.2.1, va_Nw.warmM hW h.2.2.1, va_Nw.warmM hW h.2.2.2.1, va_Nw.warmM hW h.2.2.2.2.1, va_AO.moved hW.alike h.2.2.2.2.2⟩
theorem mm_KW_same {Γ : mm_Ctx} {s U : State} (hv : s.vm = U.vm) (h : mm_KW Γ s) : mm_KW Γ U := by
  have ha : s.vm.Alike U.vm := by rw [hv]; exact Vm.Alike.refl _
  exact ⟨va_K.moved ha h.1, va_Nw.same rfl hv h.2.1, va_Nw.same rfl hv h.2.2.1, va_Nw.same rfl hv h.2.2.2.1, va_Nw.same rfl hv h.2.2.2.2.1, va_AO.moved ha h.2.2.2.2.2⟩
def mm_wr (h : mm_Mem) (q i : Nat) (x : Int32) : mm_Mem := va_up h q (upd (h q) i x)
def mm_cp (h : mm_Mem) (q0 q1 n : Nat) : mm_Mem := va_up h q1 (va_cpy (h q0) (h q1) 0 0 n)
/-! what a handle is -/
def mm_ai (Γ : mm_Ctx) (q n : Nat) : Prop := q < 81 ∧ ∀ r, mm_cell Γ q r = .inl (mm_cI Γ, n, .inl r)
def mm_az (Γ : mm_Ctx) (q n : Nat) : Prop := q < 81 ∧ ∀ r, mm_cell Γ q r = .inl (mm_cZ Γ, n, .inl r)
def mm_ob (Γ : mm_Ctx) (q ci : Nat) (F : (Nat → Int32) → List Value) : Prop := q < 81 ∧ ∀ r, mm_cell Γ q r = .inr (ci, F r)
/-! locals -/
def mm_kn : Nat → List (Option Value) → List (Nat × Value)
  | _, [] => []
  | i, none :: l => mm_kn (i + 1) l
  | i, some v :: l => (i, v) :: mm_kn (i + 1) l
theorem mm_kn_mem : ∀ (L : List (Option Value)) (i j : Nat) (v : Value), (j, v) ∈ mm_kn i L ↔ ∃ t, j = i + t ∧ L[t]? = some (some v)
  | [], i, j, v => by simp [mm_kn]
  | none :: l, i, j, v => by
    rw [mm_kn, mm_kn_mem l (i + 1) j v]
    constructor
    · rintro ⟨t, rfl, h⟩
      exact ⟨t + 1, by omega, by simpa using h⟩
    · rintro ⟨t, rfl, h⟩
      cases t with
      | zero => simp at h
      | succ t => exact ⟨t, by omega, by simpa using h⟩
  | some w :: l, i, j, v => by
    rw [mm_kn, List.mem_cons, mm_kn_mem l (i + 1) j v]
    constructor
    · rintro (h | ⟨t, rfl, h⟩)
      · cases h
        exact ⟨0, by omega, by simp⟩
      · exact ⟨t + 1, by omega, by simpa using h⟩
    · rintro ⟨t, rfl, h⟩
      cases t with
      | zero =>
        simp at h
        left
        rw [h]
        rfl
      | succ t => exact Or.inr ⟨t, by omega, by simpa using h⟩
def mm_L (ls : Array Slot) (nL : Nat) (L : List (Option Value)) : Prop := lv_has ls nL (mm_kn 0 L) ∧ ∀ (i : Nat) (v : Value), L[i]? = some (some v) → v.category = 1
theorem mm_L_at {ls : Array Slot} {nL : Nat} {L : List (Option Value)} (h : mm_L ls nL L) {i : Nat} {v : Value} (hi : L[i]? = some (some v)) : ls[i]? = some (.val v) :=
  h.1.2.2 (i, v) ((mm_kn_mem L 0 i v).mpr ⟨i, by omega, hi⟩)
theorem mm_L_set {ls ls' : Array Slot} {nL i : Nat} {L : List (Option Value)} {v : Value} (h : mm_L ls nL L) (hv : v.category = 1) (h' : lv_has ls' nL ((i, v) :: (mm_kn 0 L).filter (fun q => !(q.1 == i) && !(q.1 + 1 == i && q.2.category == 2)))) : mm_L ls' nL (L.set i (some v)) := by
  refine ⟨⟨h'.1, h'.2.1, fun q hq => h'.2.2 q ?_⟩, fun j w hj => ?_⟩
  · obtain ⟨j, w⟩ := q
    obtain ⟨t, e1, e2⟩ := (mm_kn_mem _ 0 j w).mp hq
    have e3 : j = t := by omega
    subst e3
    rw [List.getElem?_set] at e2
    by_cases hji : i = j
    · subst hji
      rw [if_pos rfl] at e2
      split at e2
      · cases e2
        exact List.mem_cons_self
      · cases e2
    · rw [if_neg hji] at e2
      refine List.mem_cons_of_mem _ (List.mem_filter.mpr ⟨(mm_kn_mem L 0 j w).mpr ⟨j, by omega, e2⟩, ?_⟩)
      have hc := h.2 j w e2
      have : ¬ j = i := fun e => hji e.symm
      simp [hc, this]
  · rw [List.getElem?_set] at hj
    by_cases hji : i = j
    · subst hji
      rw [if_pos rfl] at hj
      split at hj
      · cases hj
        exact hv
      · cases hj
    · rw [if_neg hji] at hj
      exact h.2 j w hj
/-- fewer known locals -/
theorem mm_L_sub {ls : Array Slot} {nL : Nat} {L L' : List (Option Value)} (h : mm_L ls nL L) (hs : ∀ (i : Nat) (v : Value), L'[i]? = some (some v) → L[i]? = some (some v)) : mm_L ls nL L' := by
  refine ⟨⟨h.1.1, h.1.2.1, fun q hq => ?_⟩, fun j w hj => h.2 j w (hs j w hj)⟩
  obtain ⟨j, w⟩ := q
  obtain ⟨t, e1, e2⟩ := (mm_kn_mem _ 0 j w).mp hq
  have e3 : j = t := by omega
  subst e3
  exact mm_L_at h (hs j w e2)
def mm_le : List (Option Value) → List (Option Value) → Prop
  | [], _ => True
  | none :: l, [] => mm_le l []
  | some _ :: _, [] => False
  | none :: l, _ :: r => mm_le l r
  | some v :: l, w :: r => w = some v ∧ mm_le l r
theorem mm_le_at : ∀ (L' L : List (Option Value)), mm_le L' L → ∀ (i : Nat) (v : Value), L'[i]? = some (some v) → L[i]? = some (some v)
  | [], _, _, i, v, hi => by simp at hi
  | none :: l, [], h, i, v, hi => by
    cases i with
    | zero => simp at hi
    | succ i =>
      have := mm_le_at l [] h i v (by simpa using hi)
      simp at this
  | some _ :: _, [], h, _, _, _ => h.elim
  | none :: l, w :: r, h, i, v, hi => by
    cases i with
    | zero => simp at hi
    | succ i =>
      have := mm_le_at l r h i v (by simpa using hi)
      simpa using this
  | some u :: l, w :: r, h, i, v, hi => by
    cases i with
    | zero =>
      simp at hi
      simp [h.1, hi]
    | succ i =>
      have := mm_le_at l r h.2 i v (by simpa using hi)
      simpa using this
/-! the judgement -/
abbrev mm_E : Type := Room × Nat × Nat × (Array Value → State → Prop) × (List Frame → Array Value → State → State → Prop)
def mm_Fx (Γ : mm_Ctx) (M : mm_MD) (p : Program) (s : State) (m : MethodId) (args : Array Value) (meth : Method) (c : Code) : Prop :=
  p.tables.exec = Jvm.exec ∧ c.code = M.2.1 ∧ meth.sig.returnType = M.2.2.2.1 ∧ c.maxLocals = M.2.2.1 ∧ s.vm.findClass M.1.cls = some m.cls ∧ (∀ w ∈ mm_all, w.before args s = true) ∧ meth.locks = false ∧ mm_KW Γ s
def mm_WG (Γ : mm_Ctx) (M : mm_MD) (E : mm_E) (pc : Nat) (L : List (Option Value)) (st : List Value) (h : mm_Mem) : Prop :=
  ∀ (p : Program) (e : Env) (s : State) (m : MethodId) (args : Array Value) (below : List Frame) (meth : Method) (c : Code), mm_Fx Γ M p s m args meth c → E.2.2.2.1 args s →
    ∀ (H : Heap) (locs : List Loc) (ls : Array Slot), mm_PW Γ h H → va_S (mm_A Γ) s.heap H locs → mm_L ls M.2.2.1 L →
      W p Γ.1 e E.1 s m args below meth c H locs E.2.1 E.2.2.1 (E.2.2.2.2 below args s) (F0 m pc ls st)
def mm_Q (Γ : mm_Ctx) (post : Option Value → mm_Mem → Prop) : Array Value → State → Outcome → State → Prop := fun _ st oc t =>
  (∃ (r : Option Value) (h' : mm_Mem), oc = .returned r ∧ post r h' ∧ mm_PW Γ h' t.heap ∧ mm_KW Γ t) ∧ va_F (mm_A Γ) st t
abbrev mm_Em (Γ : mm_Ctx) (M : mm_MD) (post : Option Value → mm_Mem → Prop) : mm_E := (mm_rm M, 0, 0, (fun _ _ => True), (fun below args s => MQ below (mm_Q Γ post) args s 0 0 (mm_A Γ)))
abbrev mm_W (Γ : mm_Ctx) (M : mm_MD) (post : Option Value → mm_Mem → Prop) (pc : Nat) (L : List (Option Value)) (st : List Value) (h : mm_Mem) : Prop := mm_WG Γ M (mm_Em Γ M post) pc L st h
def mm_S (Γ : mm_Ctx) (M : mm_MD) (args : List Value) (h : mm_Mem) (post : Option Value → mm_Mem → Prop) : Prop :=
  Met Γ.1 M.1 (mm_wsM M) (mm_rm M) (va_Pc args (fun U => mm_PW Γ h U.heap ∧ mm_KW Γ U)) (mm_Q Γ post) 0 0 (mm_A Γ)
abbrev mm_pI (post : Int32 → mm_Mem → Prop) : Option Value → mm_Mem → Prop := fun r h' => ∃ x, r = some (.int x) ∧ post x h'
abbrev mm_pV (post : mm_Mem → Prop) : Option Value → mm_Mem → Prop := fun r h' => r = none ∧ post h'
abbrev mm_SI (Γ : mm_Ctx) (M : mm_MD) (args : List Value) (h : mm_Mem) (post : Int32 → mm_Mem → Prop) : Prop := mm_S Γ M args h (mm_pI post)
abbrev mm_SV (Γ : mm_Ctx) (M : mm_MD) (args : List Value) (h : mm_Mem) (post : mm_Mem → Prop) : Prop := mm_S Γ M args h (mm_pV post)
end
section
section MR
variable {Γ : mm_Ctx} {M : mm_MD} {E : mm_E} {pc n : Nat} {L L' : List (Option Value)} {st : List Value} {h : mm_Mem}
theorem mm_iconst {z : Int} {v : Int32} (hd : decode M.2.1 pc = .ok (.iconst z, 1)) (hn : pc + 1 = n) (hv : Int32.ofInt z = v) (k : mm_WG Γ M E n L (.int v :: st) h) : mm_WG Γ M E pc L (st) h := by
  subst hn
  intro p e s m args below meth c F X H locs ls hP hS hL
  exact lv_iconst F.1 F.2.1 hd hv (k p e s m args below meth c F X H locs ls hP hS hL)
theorem mm_bipush {z : Int} {v : Int32} (hd : decode M.2.1 pc = .ok (.bipush z, 2)) (hn : pc + 2 = n) (hv : (Int8.ofInt z).toInt32 = v) (k : mm_WG Γ M E n L (.int v :: st) h) : mm_WG Γ M E pc L (st) h := by
  subst hn
  intro p e s m args below meth c F X H locs ls hP hS hL
  exact lv_bipush F.1 F.2.1 hd hv (k p e s m args below meth c F X H locs ls hP hS hL)
theorem mm_sipush {z : Int} {v : Int32} (hd : decode M.2.1 pc = .ok (.sipush z, 3)) (hn : pc + 3 = n) (hv : (Int16.ofInt z).toInt32 = v) (k : mm_WG Γ M E n L (.int v :: st) h) : mm_WG Γ M E pc L (st) h := by
  subst hn
  intro p e s m args below meth c F X H locs ls hP hS hL
  exact lv_sipush F.1 F.2.1 hd hv (k p e s m args below meth c F X H locs ls hP hS hL)
theorem mm_iload_n {k0 : Fin 4} {i : Nat} {x : Int32} (hd : decode M.2.1 pc = .ok (.iload_n k0, 1)) (hn : pc + 1 = n) (hi : (k0 : Nat) = i) (hl : L[i]? = some (some (.int x))) (k : mm_WG Γ M E n L (.int x :: st) h) : mm_WG Γ M E pc L (st) h := by
  subst hn
  intro p e s m args below meth c F X H locs ls hP hS hL
  exact lv_iload_n F.1 F.2.1 hd hi (mm_L_at hL hl) (k p e s m args below meth c F X H locs ls hP hS hL)
theorem mm_aload_n {k0 : Fin 4} {i : Nat} {x : Nat} (hd : decode M.2.1 pc = .ok (.aload_n k0, 1)) (hn : pc + 1 = n) (hi : (k0 : Nat) = i) (hl : L[i]? = some (some (.ref x))) (k : mm_WG Γ M E n L (.ref x :: st) h) : mm_WG Γ M E pc L (st) h := by
  subst hn
  intro p e s m args below meth c F X H locs ls hP hS hL
  exact lv_aload_n F.1 F.2.1 hd hi (mm_L_at hL hl) (k p e s m args below meth c F X H locs ls hP hS hL)
theorem mm_iload {i : Nat} {x : Int32} (hd : decode M.2.1 pc = .ok (.iload i, 2)) (hn : pc + 2 = n) (hl : L[i]? = some (some (.int x))) (k : mm_WG Γ M E n L (.int x :: st) h) : mm_WG Γ M E pc L (st) h := by
  subst hn
  intro p e s m args below meth c F X H locs ls hP hS hL
  exact lv_iload F.1 F.2.1 hd (mm_L_at hL hl) (k p e s m args below meth c F X H locs ls hP hS hL)
theorem mm_aload {i : Nat} {x : Nat} (hd : decode M.2.1 pc = .ok (.aload i, 2)) (hn : pc + 2 = n) (hl : L[i]? = some (some (.ref x))) (k : mm_WG Γ M E n L (.ref x :: st) h) : mm_WG Γ M E pc L (st) h := by
  subst hn
  intro p e s m args below meth c F X H locs ls hP hS hL
  exact lv_aload F.1 F.2.1 hd (mm_L_at hL hl) (k p e s m args below meth c F X H locs ls hP hS hL)
theorem mm_istore_n {k0 : Fin 4} {i : Nat} {x : Int32} (hd : decode M.2.1 pc = .ok (.istore_n k0, 1)) (hn : pc + 1 = n) (hi : (k0 : Nat) = i) (hm : i < M.2.2.1) (hs : L.set i (some (.int x)) = L') (k : mm_WG Γ M E n L' st h) : mm_WG Γ M E pc L (.int x :: st) h := by
  subst hn
  subst hs
  intro p e s m args below meth c F X H locs ls hP hS hL
  exact lv_istore_n F.1 F.2.1 hd hi hL.1 hm rfl (fun ls' h' => k p e s m args below meth c F X H locs ls' hP hS (mm_L_set hL rfl h'))
theorem mm_astore_n {k0 : Fin 4} {i : Nat} {x : Nat} (hd : decode M.2.1 pc = .ok (.astore_n k0, 1)) (hn : pc + 1 = n) (hi : (k0 : Nat) = i) (hm : i < M.2.2.1) (hs : L.set i (some (.ref x)) = L') (k : mm_WG Γ M E n L' st h) : mm_WG Γ M E pc L (.ref x :: st) h := by
  subst hn
  subst hs
  intro p e s m args below meth c F X H locs ls hP hS hL
  exact lv_astore_n F.1 F.2.1 hd hi hL.1 hm rfl (fun ls' h' => k p e s m args below meth c F X H locs ls' hP hS (mm_L_set hL rfl h'))
theorem mm_istore {i : Nat} {x : Int32} (hd : decode M.2.1 pc = .ok (.istore i, 2)) (hn : pc + 2 = n) (hm : i < M.2.2.1) (hs : L.set i (some (.int x)) = L') (k : mm_WG Γ M E n L' st h) : mm_WG Γ M E pc L (.int x :: st) h := by
  subst hn
  subst hs
  intro p e s m args below meth c F X H locs ls hP hS hL
  exact lv_istore F.1 F.2.1 hd hL.1 hm rfl (fun ls' h' => k p e s m args below meth c F X H locs ls' hP hS (mm_L_set hL rfl h'))
theorem mm_astore {i : Nat} {x : Nat} (hd : decode M.2.1 pc = .ok (.astore i, 2)) (hn : pc + 2 = n) (hm : i < M.2.2.1) (hs : L.set i (some (.ref x)) = L') (k : mm_WG Γ M E n L' st h) : mm_WG Γ M E pc L (.ref x :: st) h := by
  subst hn
  subst hs
  intro p e s m args below meth c F X H locs ls hP hS hL
  exact lv_astore F.1 F.2.1 hd hL.1 hm rfl (fun ls' h' => k p e s m args below meth c F X H locs ls' hP hS (mm_L_set hL rfl h'))
theorem mm_iinc {i : Nat} {z : Int} {x d : Int32} (hd : decode M.2.1 pc = .ok (.iinc i z, 3)) (hn : pc + 3 = n) (hl : L[i]? = some (some (.int x))) (hv : Int32.ofInt z = d) (hm : i < M.2.2.1) (hs : L.set i (some (.int (x + d))) = L') (k : mm_WG Γ M E n L' st h) : mm_WG Γ M E pc L st h := by
  subst hn
  subst hs
  subst hv
  intro p e s m args below meth c F X H locs ls hP hS hL
  obtain ⟨j, hj⟩ := List.getElem?_of_mem ((mm_kn_mem L 0 i (.int x)).mpr ⟨i, by omega, hl⟩)
  exact lv_iinc F.1 F.2.1 hd hL.1 hj rfl hm rfl (fun ls' h' => k p e s m args below meth c F X H locs ls' hP hS (mm_L_set hL rfl h'))
theorem mm_iadd {a b : Int32} (hd : decode M.2.1 pc = .ok (.iadd, 1)) (hn : pc + 1 = n) (k : mm_WG Γ M E n L (.int (a + b) :: st) h) : mm_WG Γ M E pc L (.int b :: .int a :: st) h := by
  subst hn
  intro p e s m args below meth c F X H locs ls hP hS hL
  exact lv_iadd F.1 F.2.1 hd (k p e s m args below meth c F X H locs ls hP hS hL)
theorem mm_isub {a b : Int32} (hd : decode M.2.1 pc = .ok (.isub, 1)) (hn : pc + 1 = n) (k : mm_WG Γ M E n L (.int (a - b) :: st) h) : mm_WG Γ M E pc L (.int b :: .int a :: st) h := by
  subst hn
  intro p e s m args below meth c F X H locs ls hP hS hL
  exact lv_isub F.1 F.2.1 hd (k p e s m args below meth c F X H locs ls hP hS hL)
theorem mm_imul {a b : Int32} (hd : decode M.2.1 pc = .ok (.imul, 1)) (hn : pc + 1 = n) (k : mm_WG Γ M E n L (.int (a * b) :: st) h) : mm_WG Γ M E pc L (.int b :: .int a :: st) h := by
  subst hn
  intro p e s m args below meth c F X H locs ls hP hS hL
  exact lv_imul F.1 F.2.1 hd (k p e s m args below meth c F X H locs ls hP hS hL)
theorem mm_iand {a b : Int32} (hd : decode M.2.1 pc = .ok (.iand, 1)) (hn : pc + 1 = n) (k : mm_WG Γ M E n L (.int (a &&& b) :: st) h) : mm_WG Γ M E pc L (.int b :: .int a :: st) h := by
  subst hn
  intro p e s m args below meth c F X H locs ls hP hS hL
  exact lv_iand F.1 F.2.1 hd (k p e s m args below meth c F X H locs ls hP hS hL)
theorem mm_idiv {a b : Int32} (hd : decode M.2.1 pc = .ok (.idiv, 1)) (hn : pc + 1 = n) (hb : ¬ b = 0) (k : mm_WG Γ M E n L (.int (a / b) :: st) h) : mm_WG Γ M E pc L (.int b :: .int a :: st) h := by
  subst hn
  intro p e s m args below meth c F X H locs ls hP hS hL
  exact lv_idiv F.1 F.2.1 hd hb (k p e s m args below meth c F X H locs ls hP hS hL)
theorem mm_irem {a b : Int32} (hd : decode M.2.1 pc = .ok (.irem, 1)) (hn : pc + 1 = n) (hb : ¬ b = 0) (k : mm_WG Γ M E n L (.int (a - a / b * b) :: st) h) : mm_WG Γ M E pc L (.int b :: .int a :: st) h := by
  subst hn
  intro p e s m args below meth c F X H locs ls hP hS hL
  exact lv_irem F.1 F.2.1 hd hb (k p e s m args below meth c F X H locs ls hP hS hL)
theorem mm_dup {v : Value} (hd : decode M.2.1 pc = .ok (.dup, 1)) (hn : pc + 1 = n) (hv : v.category = 1) (k : mm_WG Γ M E n L (v :: v :: st) h) : mm_WG Γ M E pc L (v :: st) h := by
  subst hn
  intro p e s m args below meth c F X H locs ls hP hS hL
  exact lv_dup F.1 F.2.1 hd hv (k p e s m args below meth c F X H locs ls hP hS hL)
theorem mm_pop {v : Value} (hd : decode M.2.1 pc = .ok (.pop, 1)) (hn : pc + 1 = n) (hv : v.category = 1) (k : mm_WG Γ M E n L (st) h) : mm_WG Γ M E pc L (v :: st) h := by
  subst hn
  intro p e s m args below meth c F X H locs ls hP hS hL
  exact lv_pop F.1 F.2.1 hd hv (k p e s m args below meth c F X H locs ls hP hS hL)
theorem mm_dup2 {v u : Value} (hd : decode M.2.1 pc = .ok (.dup2, 1)) (hn : pc + 1 = n) (hv : v.category = 1) (hu : u.category = 1) (k : mm_WG Γ M E n L (v :: u :: v :: u :: st) h) : mm_WG Γ M E pc L (v :: u :: st) h := by
  subst hn
  intro p e s m args below meth c F X H locs ls hP hS hL
  exact lv_dup2_11 F.1 F.2.1 hd hv hu (k p e s m args below meth c F X H locs ls hP hS hL)
theorem mm_if_eq {x : Int32} {off : Int} {tgt : Nat} (hd : decode M.2.1 pc = .ok (.ifCond .eq off, 3)) (hn : pc + 3 = n) (ht : (pc : Int) + off = (tgt : Int)) (kt : x = 0 → mm_WG Γ M E tgt L st h) (kf : ¬ x = 0 → mm_WG Γ M E n L st h) : mm_WG Γ M E pc L (.int x :: st) h := by
  subst hn
  intro p e s m args below meth c F X H locs ls hP hS hL
  exact lv_if_eq F.1 F.2.1 hd ht (fun q => kt q p e s m args below meth c F X H locs ls hP hS hL) (fun q => kf q p e s m args below meth c F X H locs ls hP hS hL)
theorem mm_if_ne {x : Int32} {off : Int} {tgt : Nat} (hd : decode M.2.1 pc = .ok (.ifCond .ne off, 3)) (hn : pc + 3 = n) (ht : (pc : Int) + off = (tgt : Int)) (kt : ¬ x = 0 → mm_WG Γ M E tgt L st h) (kf : x = 0 → mm_WG Γ M E n L st h) : mm_WG Γ M E pc L (.int x :: st) h := by
  subst hn
  intro p e s m args below meth c F X H locs ls hP hS hL
  exact lv_if_ne F.1 F.2.1 hd ht (fun q => kt q p e s m args below meth c F X H locs ls hP hS hL) (fun q => kf q p e s m args below meth c F X H locs ls hP hS hL)
theorem mm_if_lt {x : Int32} {off : Int} {tgt : Nat} (hd : decode M.2.1 pc = .ok (.ifCond .lt off, 3)) (hn : pc + 3 = n) (ht : (pc : Int) + off = (tgt : Int)) (kt : x < 0 → mm_WG Γ M E tgt L st h) (kf : ¬ x < 0 → mm_WG Γ M E n L st h) : mm_WG Γ M E pc L (.int x :: st) h := by
  subst hn
  intro p e s m args below meth c F X H locs ls hP hS hL
  exact lv_if_lt F.1 F.2.1 hd ht (fun q => kt q p e s m args below meth c F X H locs ls hP hS hL) (fun q => kf q p e s m args below meth c F X H locs ls hP hS hL)
theorem mm_if_ge {x : Int32} {off : Int} {tgt : Nat} (hd : decode M.2.1 pc = .ok (.ifCond .ge off, 3)) (hn : pc + 3 = n) (ht : (pc : Int) + off = (tgt : Int)) (kt : 0 ≤ x → mm_WG Γ M E tgt L st h) (kf : ¬ 0 ≤ x → mm_WG Γ M E n L st h) : mm_WG Γ M E pc L (.int x :: st) h := by
  subst hn
  intro p e s m args below meth c F X H locs ls hP hS hL
  exact lv_if_ge F.1 F.2.1 hd ht (fun q => kt q p e s m args below meth c F X H locs ls hP hS hL) (fun q => kf q p e s m args below meth c F X H locs ls hP hS hL)
theorem mm_if_gt {x : Int32} {off : Int} {tgt : Nat} (hd : decode M.2.1 pc = .ok (.ifCond .gt off, 3)) (hn : pc + 3 = n) (ht : (pc : Int) + off = (tgt : Int)) (kt : 0 < x → mm_WG Γ M E tgt L st h) (kf : ¬ 0 < x → mm_WG Γ M E n L st h) : mm_WG Γ M E pc L (.int x :: st) h := by
  subst hn
  intro p e s m args below meth c F X H locs ls hP hS hL
  exact lv_if_gt F.1 F.2.1 hd ht (fun q => kt q p e s m args below meth c F X H locs ls hP hS hL) (fun q => kf q p e s m args below meth c F X H locs ls hP hS hL)
theorem mm_if_le {x : Int32} {off : Int} {tgt : Nat} (hd : decode M.2.1 pc = .ok (.ifCond .le off, 3)) (hn : pc + 3 = n) (ht : (pc : Int) + off = (tgt : Int)) (kt : x ≤ 0 → mm_WG Γ M E tgt L st h) (kf : ¬ x ≤ 0 → mm_WG Γ M E n L st h) : mm_WG Γ M E pc L (.int x :: st) h := by
  subst hn
  intro p e s m args below meth c F X H locs ls hP hS hL
  exact lv_if_le F.1 F.2.1 hd ht (fun q => kt q p e s m args below meth c F X H locs ls hP hS hL) (fun q => kf q p e s m args below meth c F X H locs ls hP hS hL)
theorem mm_icmp_eq {x y : Int32} {off : Int} {tgt : Nat} (hd : decode M.2.1 pc = .ok (.if_icmp .eq off, 3)) (hn : pc + 3 = n) (ht : (pc : Int) + off = (tgt : Int)) (kt : x = y → mm_WG Γ M E tgt L st h) (kf : ¬ x = y → mm_WG Γ M E n L st h) : mm_WG Γ M E pc L (.int y :: .int x :: st) h := by
  subst hn
  intro p e s m args below meth c F X H locs ls hP hS hL
  exact lv_icmp_eq F.1 F.2.1 hd ht (fun q => kt q p e s m args below meth c F X H locs ls hP hS hL) (fun q => kf q p e s m args below meth c F X H locs ls hP hS hL)
theorem mm_icmp_ne {x y : Int32} {off : Int} {tgt : Nat} (hd : decode M.2.1 pc = .ok (.if_icmp .ne off, 3)) (hn : pc + 3 = n) (ht : (pc : Int) + off = (tgt : Int)) (kt : ¬ x = y → mm_WG Γ M E tgt L st h) (kf : x = y → mm_WG Γ M E n L st h) : mm_WG Γ M E pc L (.int y :: .int x :: st) h := by
  subst hn
  intro p e s m args below meth c F X H locs ls hP hS hL
  exact lv_icmp_ne F.1 F.2.1 hd ht (fun q => kt q p e s m args below meth c F X H locs ls hP hS hL) (fun q => kf q p e s m args below meth c F X H locs ls hP hS hL)
theorem mm_icmp_lt {x y : Int32} {off : Int} {tgt : Nat} (hd : decode M.2.1 pc = .ok (.if_icmp .lt off, 3)) (hn : pc + 3 = n) (ht : (pc : Int) + off = (tgt : Int)) (kt : x < y → mm_WG Γ M E tgt L st h) (kf : ¬ x < y → mm_WG Γ M E n L st h) : mm_WG Γ M E pc L (.int y :: .int x :: st) h := by
  subst hn
  intro p e s m args below meth c F X H locs ls hP hS hL
  exact lv_icmp_lt F.1 F.2.1 hd ht (fun q => kt q p e s m args below meth c F X H locs ls hP hS hL) (fun q => kf q p e s m args below meth c F X H locs ls hP hS hL)
theorem mm_icmp_ge {x y : Int32} {off : Int} {tgt : Nat} (hd : decode M.2.1 pc = .ok (.if_icmp .ge off, 3)) (hn : pc + 3 = n) (ht : (pc : Int) + off = (tgt : Int)) (kt : y ≤ x → mm_WG Γ M E tgt L st h) (kf : ¬ y ≤ x → mm_WG Γ M E n L st h) : mm_WG Γ M E pc L (.int y :: .int x :: st) h := by
  subst hn
  intro p e s m args below meth c F X H locs ls hP hS hL
  exact lv_icmp_ge F.1 F.2.1 hd ht (fun q => kt q p e s m args below meth c F X H locs ls hP hS hL) (fun q => kf q p e s m args below meth c F X H locs ls hP hS hL)
theorem mm_icmp_gt {x y : Int32} {off : Int} {tgt : Nat} (hd : decode M.2.1 pc = .ok (.if_icmp .gt off, 3)) (hn : pc + 3 = n) (ht : (pc : Int) + off = (tgt : Int)) (kt : y < x → mm_WG Γ M E tgt L st h) (kf : ¬ y < x → mm_WG Γ M E n L st h) : mm_WG Γ M E pc L (.int y :: .int x :: st) h := by
  subst hn
  intro p e s m args below meth c F X H locs ls hP hS hL
  exact lv_icmp_gt F.1 F.2.1 hd ht (fun q => kt q p e s m args below meth c F X H locs ls hP hS hL) (fun q => kf q p e s m args below meth c F X H locs ls hP hS hL)
theorem mm_icmp_le {x y : Int32} {off : Int} {tgt : Nat} (hd : decode M.2.1 pc = .ok (.if_icmp .le off, 3)) (hn : pc + 3 = n) (ht : (pc : Int) + off = (tgt : Int)) (kt : x ≤ y → mm_WG Γ M E tgt L st h) (kf : ¬ x ≤ y → mm_WG Γ M E n L st h) : mm_WG Γ M E pc L (.int y :: .int x :: st) h := by
  subst hn
  intro p e s m args below meth c F X H locs ls hP hS hL
  exact lv_icmp_le F.1 F.2.1 hd ht (fun q => kt q p e s m args below meth c F X H locs ls hP hS hL) (fun q => kf q p e s m args below meth c F X H locs ls hP hS hL)
theorem mm_goto {off : Int} (hd : decode M.2.1 pc = .ok (.goto off, 3)) (ht : (pc : Int) + off = (n : Int)) (k : mm_WG Γ M E n L st h) : mm_WG Γ M E pc L st h := by
  intro p e s m args below meth c F X H locs ls hP hS hL
  exact lv_goto F.1 F.2.1 hd ht (k p e s m args below meth c F X H locs ls hP hS hL)
theorem mm_tIn {dflt lo hi : Int} {offs : Array Int} {len : Nat} {x : Int32} {off : Int} {tgt : Nat} (hd : decode M.2.1 pc = .ok (.tableswitch dflt lo hi offs, len)) (v : Int32) (hx : x = v) (h1 : ¬ v.toInt < lo) (h2 : ¬ hi < v.toInt) (ho : offs[(v.toInt - lo).toNat]? = some off) (ht : (pc : Int) + off = (tgt : Int)) (k : mm_WG Γ M E tgt L st h) : mm_WG Γ M E pc L (.int x :: st) h := by
  subst hx
  intro p e s m args below meth c F X H locs ls hP hS hL
  exact lv_tableIn F.1 F.2.1 hd h1 h2 ho ht (k p e s m args below meth c F X H locs ls hP hS hL)
theorem mm_tOut {dflt lo hi : Int} {offs : Array Int} {len : Nat} {x : Int32} {tgt : Nat} (hd : decode M.2.1 pc = .ok (.tableswitch dflt lo hi offs, len)) (h1 : x.toInt < lo ∨ hi < x.toInt) (ht : (pc : Int) + dflt = (tgt : Int)) (k : mm_WG Γ M E tgt L st h) : mm_WG Γ M E pc L (.int x :: st) h := by
  intro p e s m args below meth c F X H locs ls hP hS hL
  exact lv_tableOut F.1 F.2.1 hd h1 ht (k p e s m args below meth c F X H locs ls hP hS hL)
theorem mm_lsw {dflt : Int} {ps : Array (Int × Int)} {len : Nat} {x : Int32} {off : Int} {tgt : Nat} (hd : decode M.2.1 pc = .ok (.lookupswitch dflt ps, len)) (hp : (ps.toList.zip (ps.toList.drop 1)).all (fun (a, next) => a.1 < next.1) = true) (ho : Op.lookupswitch.offset ps.toList dflt x.toInt = off) (ht : (pc : Int) + off = (tgt : Int)) (k : mm_WG Γ M E tgt L st h) : mm_WG Γ M E pc L (.int x :: st) h := by
  intro p e s m args below meth c F X H locs ls hP hS hL
  exact lv_lookup F.1 F.2.1 hd hp ho ht (k p e s m args below meth c F X H locs ls hP hS hL)
theorem mm_top {x : Int32} (k : ∀ y : Int32, y = x → mm_WG Γ M E pc L (.int y :: st) h) : mm_WG Γ M E pc L (.int x :: st) h := k x rfl
theorem mm_weak (hl : mm_le L' L) (k : mm_WG Γ M E pc L' st h) : mm_WG Γ M E pc L st h := by
  intro p e s m args below meth c F X H locs ls hP hS hL
  exact k p e s m args below meth c F X H locs ls hP hS (mm_L_sub hL (mm_le_at _ _ hl))
theorem mm_nam (k : ∀ h' : mm_Mem, h' = h → mm_WG Γ M E pc L st h') : mm_WG Γ M E pc L st h := k h rfl
theorem mm_iald {q nn : Nat} {i : Int32} (ha : mm_ai Γ q nn) (hin : vp_in i nn) (hd : decode M.2.1 pc = .ok (.iaload, 1)) (hn : pc + 1 = n) (k : mm_WG Γ M E n L (.int (h q i.toNatClampNeg) :: st) h) : mm_WG Γ M E pc L (.int i :: .ref (mm_B Γ + q) :: st) h := by
  subst hn
  intro p e s m args below meth c F X H locs ls hP hS hL
  exact va_iald F.1 F.2.1 F.2.2.2.2.2.2.2.1 hP q 0 (by rw [mm_ws_at ha.1, ha.2]) rfl hin hd (k p e s m args below meth c F X H locs ls hP hS hL)
theorem mm_zald {q nn : Nat} {i : Int32} (ha : mm_az Γ q nn) (hin : vp_in i nn) (hd : decode M.2.1 pc = .ok (.baload, 1)) (hn : pc + 1 = n) (k : mm_WG Γ M E n L (.int (h q i.toNatClampNeg) :: st) h) : mm_WG Γ M E pc L (.int i :: .ref (mm_B Γ + q) :: st) h := by
  subst hn
  intro p e s m args below meth c F X H locs ls hP hS hL
  exact va_zald F.1 F.2.1 F.2.2.2.2.2.2.2.1 hP q 1 (by rw [mm_ws_at ha.1, ha.2]) rfl hin hd (k p e s m args below meth c F X H locs ls hP hS hL)
theorem mm_iast {q nn : Nat} {i x : Int32} (ha : mm_ai Γ q nn) (hin : vp_in i nn) (hd : decode M.2.1 pc = .ok (.iastore, 1)) (hn : pc + 1 = n) (k : mm_WG Γ M E n L st (mm_wr h q i.toNatClampNeg x)) : mm_WG Γ M E pc L (.int x :: .int i :: .ref (mm_B Γ + q) :: st) h := by
  subst hn
  intro p e s m args below meth c F X H locs ls hP hS hL
  refine va_iast F.1 F.2.1 F.2.2.2.2.2.2.2.1 hP mm_DD hS q 0 (by rw [mm_ws_at ha.1, ha.2]) rfl hin hd (fun H1 locs1 hP1 hD1 hS1 => ?_)
  refine k p e s m args below meth c F X H1 locs1 ls ?_ hS1 hL
  rw [← ha.2, mm_ws_set _ ha.1] at hP1
  exact hP1
theorem mm_zast {q nn : Nat} {i x : Int32} (ha : mm_az Γ q nn) (hin : vp_in i nn) (hx : x = 0 ∨ x = 1) (hd : decode M.2.1 pc = .ok (.bastore, 1)) (hn : pc + 1 = n) (k : mm_WG Γ M E n L st (mm_wr h q i.toNatClampNeg x)) : mm_WG Γ M E pc L (.int x :: .int i :: .ref (mm_B Γ + q) :: st) h := by
  subst hn
  have hx' : vp_nar .boolean x = x := by rcases hx with rfl | rfl <;> rfl
  intro p e s m args below meth c F X H locs ls hP hS hL
  refine va_zast F.1 F.2.1 F.2.2.2.2.2.2.2.1 hP mm_DD hS q 1 (by rw [mm_ws_at ha.1, ha.2]) rfl hin hd (fun H1 locs1 hP1 hD1 hS1 => ?_)
  refine k p e s m args below meth c F X H1 locs1 ls ?_ hS1 hL
  rw [hx', ← ha.2, mm_ws_set _ ha.1] at hP1
  exact hP1
theorem mm_alen {q nn : Nat} {v : Int32} (ha : mm_ai Γ q nn) (hv : Int32.ofNat nn = v) (hd : decode M.2.1 pc = .ok (.arraylength, 1)) (hn : pc + 1 = n) (k : mm_WG Γ M E n L (.int v :: st) h) : mm_WG Γ M E pc L (.ref (mm_B Γ + q) :: st) h := by
  subst hn
  intro p e s m args below meth c F X H locs ls hP hS hL
  exact va_alen F.1 F.2.1 F.2.2.2.2.2.2.2.1 hP q 0 (by rw [mm_ws_at ha.1, ha.2]) rfl hv hd (k p e s m args below meth c F X H locs ls hP hS hL)
theorem mm_aald {i : Int32} (hin : vp_in i 6) (hd : decode M.2.1 pc = .ok (.aaload, 1)) (hn : pc + 1 = n) (k : mm_WG Γ M E n L (.ref (mm_B Γ + (28 + 6 * i.toNatClampNeg)) :: st) h) : mm_WG Γ M E pc L (.int i :: .ref (mm_B Γ + 27) :: st) h := by
  subst hn
  intro p e s m args below meth c F X H locs ls hP hS hL
  exact va_aldq F.1 F.2.1 F.2.2.2.2.2.2.2.1 hP 27 2 (f := fun i => some (mm_B Γ + (28 + 6 * i))) (n := 6) (by rw [mm_ws_at (by omega)]; rfl) rfl hin hd (k p e s m args below meth c F X H locs ls hP hS hL)
def mm_isT (t : Nat) : Prop := ∃ i, i < 6 ∧ t = 28 + 6 * i
theorem mm_taald {i : Int32} (hin : vp_in i 6) (hd : decode M.2.1 pc = .ok (.aaload, 1)) (hn : pc + 1 = n) (k : ∀ t : Nat, t = 28 + 6 * i.toNatClampNeg → mm_isT t → mm_WG Γ M E n L (.ref (mm_B Γ + t) :: st) h) : mm_WG Γ M E pc L (.int i :: .ref (mm_B Γ + 27) :: st) h :=
  mm_aald hin hd hn (k _ rfl ⟨i.toNatClampNeg, Nat.not_le.mp (fun q => hin (Or.inr q)), rfl⟩)
def mm_lk (own : String) (idx ci k : Nat) : Prop := ∃ (C : String) (T : u_T) (N : Nat), mm_cl[ci]? = some (C, T, N) ∧ (∀ w ∈ u_ws C T N, w ∈ mm_all) ∧ Cond.fieldLink own idx (T k).1 (T k).2.1 (T k).2.2.1 ∈ mm_all ∧ k < N
theorem mm_get {q ci kf idx : Nat} {Fd : (Nat → Int32) → List Value} {v : Value} (lk : mm_lk M.1.cls idx ci kf) (ho : mm_ob Γ q ci Fd) (hv : (Fd (h q))[kf]? = some v) (hd : decode M.2.1 pc = .ok (.getfield idx, 3)) (hn : pc + 3 = n) (k : mm_WG Γ M E n L (v :: st) h) : mm_WG Γ M E pc L (.ref (mm_B Γ + q) :: st) h := by
  subst hn
  obtain ⟨C, T, N, h1, h2, h3, h4⟩ := lk
  intro p e s m args below meth c F X H locs ls hP hS hL
  exact va_get (D := mm_D Γ) F.1 F.2.1 F.2.2.2.2.2.1 h2 F.2.2.2.2.1 F.2.2.2.2.2.2.2.1 hP q (by rw [mm_ws_at ho.1, ho.2]) h1 kf h4 (F.2.2.2.2.2.1 _ h3) (fun _ h9 => h9) hv hd (k p e s m args below meth c F X H locs ls hP hS hL)
def mm_lp (ci k : Nat) (ty : FieldType) : Prop := ∃ (C : String) (T : u_T) (N : Nat) (ty0 : Nat → FieldType), mm_cl[ci]? = some (C, T, N) ∧ (∀ k, k < N → parseFieldDescriptor (T k).2.2.1 = some (ty0 k)) ∧ (∀ a, a < N → ∀ b, b < N → a ≠ b → (T a).2.1 ≠ (T b).2.1) ∧ (T k).2.2.2 = false ∧ parseFieldDescriptor (T k).2.2.1 = some ty
theorem mm_put {q ci kf idx : Nat} {Fd : (Nat → Int32) → List Value} {x : Int32} {ty : FieldType} (lk : mm_lk M.1.cls idx ci kf) (lp : mm_lp ci kf ty) (ho : mm_ob Γ q ci Fd) (hF : (Fd (h q)).set kf (.int x) = Fd (upd (h q) kf x)) (hl : kf < (Fd (h q)).length) (hna : narrow ty (.int x) = .int x) (hfi : fits ty (.int x) = true) (hd : decode M.2.1 pc = .ok (.putfield idx, 3)) (hn : pc + 3 = n) (k : mm_WG Γ M E n L st (mm_wr h q kf x)) : mm_WG Γ M E pc L (.int x :: .ref (mm_B Γ + q) :: st) h := by
  subst hn
  obtain ⟨C, T, N, h1, h2, h3, h4⟩ := lk
  obtain ⟨C', T', N', ty0, g1, g2, g3, g4, g5⟩ := lp
  cases h1.symm.trans g1
  intro p e s m args below meth c F X H locs ls hP hS hL
  refine va_put (D := mm_D Γ) F.1 F.2.1 F.2.2.2.2.2.1 h2 ty0 g2 g3 F.2.2.2.2.1 F.2.2.2.2.2.2.2.1 hP mm_DD hS q (by rw [mm_ws_at ho.1, ho.2]) h1 kf h4 (F.2.2.2.2.2.1 _ h3) (fun _ h9 => h9) g4 g5 hna hfi hl hd (fun H1 locs1 hP1 hD1 hS1 => ?_)
  refine k p e s m args below meth c F X H1 locs1 ls ?_ hS1 hL
  rw [hF, ← ho.2, mm_ws_set _ ho.1] at hP1
  exact hP1
end MR
end
section
section MC
variable {Γ : mm_Ctx} {M M' : mm_MD} {E : mm_E} {pc n : Nat} {L : List (Option Value)} {st rest As : List Value} {h : mm_Mem} {post : Option Value → mm_Mem → Prop}
theorem mm_blind {av : List Value} : FrameBlind (va_Pc av (fun U => mm_PW Γ h U.heap ∧ mm_KW Γ U)) := fun a U g mk q => by
  obtain ⟨q0, qP, qK⟩ := q
  exact ⟨q0, qP, mm_KW_same (s := U) (U := U.calling g mk a) rfl qK⟩
theorem mm_after {p : Program} {e : Env} {R : Room} {s : State} {m : MethodId} {args : Array Value} {below : List Frame} {meth : Method} {c : Code} {H : Heap} {locs : List Loc} {cs sl : Nat} {ls : Array Slot} {st0 : List Value} {a : Array Value} {Q : State → Prop} (hr : va_Run p Γ.1 e R s m args below meth c H locs cs sl 0 0 (F0 m pc ls st0) rest (mm_Q Γ post a) (mm_A Γ)) (hS : va_S (mm_A Γ) s.heap H locs)
    (kk : ∀ (r : Option Value) (h' : mm_Mem) (H1 : Heap) (locs1 : List Loc), post r h' → mm_PW Γ h' H1 → va_S (mm_A Γ) s.heap H1 locs1 → W p Γ.1 e R s m args below meth c H1 locs1 cs sl Q (F0 m (pc + 3) ls (r.toList ++ rest))) : W p Γ.1 e R s m args below meth c H locs cs sl Q (F0 m pc ls st0) := by
  intro T hT X
  obtain ⟨v, st₀, t, T', L1, h0, X', hL, e1, e2, ⟨⟨r, h', hv, hp, hP, hK⟩, hz, hk⟩, stp⟩ := hr T hT X
  cases hv
  rw [h0] at hz hk
  obtain ⟨t2, a1, b1⟩ := kk v h' T'.heap (locs ++ L1) hp (by rw [e1]; exact hP) ⟨Nat.le_trans hS.1 (by rw [e1]; exact hz), fun q h1 h2 => by rw [e1, hk q (Nat.lt_of_lt_of_le h1 hS.1) h2]; exact hS.2.1 q h1 h2, fun q hq => by
      rcases List.mem_append.mp hq with h | h
      · exact hS.2.2 q h
      · exact hL q h⟩ T' rfl X'
  exact ⟨t2, stp t2 a1, b1⟩
def mm_cB (M' : mm_MD) (na : Nat) : Prop := Cond.code M'.1 M'.2.1 M'.2.2.1 M'.2.2.2.1 ∈ mm_all ∧ Cond.initialized M'.1.cls ∈ mm_all ∧ M'.1.cls ≠ "java/lang/invoke/MethodHandle" ∧ M'.1.cls ≠ "java/lang/invoke/VarHandle" ∧ (parseMethodDescriptor M'.1.desc).map (fun d => d.parameters.length) = some na
def mm_cV (M' : mm_MD) (na ci : Nat) : Prop := mm_cB M' na ∧ Cond.instanceMethod M'.1 ∈ mm_all ∧ Cond.selects M'.1.cls M'.1 M'.1 ∈ mm_all ∧ ∃ (T : u_T) (N : Nat), mm_cl[ci]? = some (M'.1.cls, T, N)
def mm_cS (M' : mm_MD) (na : Nat) : Prop := mm_cB M' na ∧ Cond.static M'.1 ∈ mm_all
abbrev mm_hR (M' : mm_MD) (E : mm_E) : Prop := M'.2.2.2.2 + 1 ≤ E.1.frames ∧ 8 + (M'.2.2.1 + 11) + 36 * M'.2.2.2.2 ≤ E.1.locals ∧ E.2.1 ≤ E.1.cells ∧ E.2.2.1 ≤ E.1.slots
theorem mm_hRm (h1 : M'.2.2.2.2 + 1 ≤ M.2.2.2.2) (h2 : M'.2.2.1 ≤ 17) : mm_hR M' (mm_Em Γ M post) := ⟨h1, (by show 8 + (M'.2.2.1 + 11) + 36 * M'.2.2.2.2 ≤ 36 * M.2.2.2.2; omega), Nat.le_refl _, Nat.le_refl _⟩
theorem mm_callV {q ci idx : Nat} {Fd : (Nat → Int32) → List Value} (cv : mm_cV M' As.length ci) (lk : Cond.methodLink M.1.cls idx M'.1 ∈ mm_all) (ho : mm_ob Γ q ci Fd) (hR : mm_hR M' E) (hM : mm_S Γ M' (.ref (mm_B Γ + q) :: As) h post) (hd : decode M.2.1 pc = .ok (.invokevirtual idx, 3)) (hn : pc + 3 = n) (hst : st = As.reverse ++ .ref (mm_B Γ + q) :: rest) (hr : (rest.map fun v => v.category).sum ≤ 8)
    (k : ∀ (r : Option Value) (h' : mm_Mem), post r h' → mm_WG Γ M E n L (r.toList ++ rest) h') : mm_WG Γ M E pc L st h := by
  subst hn
  subst hst
  intro p e s m args below meth c F X H locs ls hP hS hL
  obtain ⟨⟨c1, c2, c3, c4, c5⟩, c6, c7, T, N, c8⟩ := cv
  have hw := F.2.2.2.2.2.1
  have hK := F.2.2.2.2.2.2.2
  refine mm_after (post := post) (va_runV (C := M'.1.cls) (As := As) (rest := rest) (nL := M.2.2.1) (Ts := mm_all) (own := M.1.cls) (b := mm_B Γ + q) ⟨F.1, F.2.1, F.2.2.2.1, F.2.2.2.2.1, hw⟩ hM ⟨callB_of As.length hw (mm_goodIn (fun _ h => h) c1) rfl rfl rfl (hw _ c2) (hw _ lk) ⟨c3, c4, c5⟩ ⟨hR.1, hR.2.1⟩, hw _ c6, hw _ c7⟩ ⟨mm_blind, va_recv hK.1 hP c8 (by rw [mm_ws_at ho.1, ho.2]), fun U hU hW => ⟨rfl, by rw [hU]; exact hP, mm_KW_warm hW hK⟩⟩ rfl rfl hL.1.1 rfl (lv_room hr) hd ⟨hR.2.2.1, hR.2.2.2⟩) hS (fun r h' H1 locs1 hp hP1 hS1 => ?_)
  exact k r h' hp p e s m args below meth c F X H1 locs1 ls hP1 hS1 hL
theorem mm_callS {idx : Nat} (cv : mm_cS M' As.length) (lk : Cond.methodLink M.1.cls idx M'.1 ∈ mm_all) (hR : mm_hR M' E) (hM : mm_S Γ M' As h post) (hd : decode M.2.1 pc = .ok (.invokestatic idx, 3)) (hn : pc + 3 = n) (hst : st = As.reverse ++ rest) (hr : (rest.map fun v => v.category).sum ≤ 8)
    (k : ∀ (r : Option Value) (h' : mm_Mem), post r h' → mm_WG Γ M E n L (r.toList ++ rest) h') : mm_WG Γ M E pc L st h := by
  subst hn
  subst hst
  intro p e s m args below meth c F X H locs ls hP hS hL
  obtain ⟨⟨c1, c2, c3, c4, c5⟩, c6⟩ := cv
  have hw := F.2.2.2.2.2.1
  have hK := F.2.2.2.2.2.2.2
  refine mm_after (post := post) (va_runS (As := As) (rest := rest) (nL := M.2.2.1) (Ts := mm_all) (own := M.1.cls) ⟨F.1, F.2.1, F.2.2.2.1, F.2.2.2.2.1, hw⟩ hM ⟨callB_of As.length hw (mm_goodIn (fun _ h => h) c1) rfl rfl rfl (hw _ c2) (hw _ lk) ⟨c3, c4, c5⟩ ⟨hR.1, hR.2.1⟩, hw _ c6⟩ ⟨mm_blind, fun U hU hW => ⟨rfl, by rw [hU]; exact hP, mm_KW_warm hW hK⟩⟩ rfl rfl hL.1.1 rfl (lv_room hr) hd ⟨hR.2.2.1, hR.2.2.2⟩) hS (fun r h' H1 locs1 hp hP1 hS1 => ?_)
  exact k r h' hp p e s m args below meth c F X H1 locs1 ls hP1 hS1 hL
theorem mm_callSN {idx : Nat} {host : String} (cv : mm_cS M' As.length) (lk : mm_nest = Cond.methodLinkNest M.1.cls idx M'.1 host) (hR : mm_hR M' E) (hM : mm_S Γ M' As h post) (hd : decode M.2.1 pc = .ok (.invokestatic idx, 3)) (hn : pc + 3 = n) (hst : st = As.reverse ++ rest) (hr : (rest.map fun v => v.category).sum ≤ 8)
    (k : ∀ (r : Option Value) (h' : mm_Mem), post r h' → mm_WG Γ M E n L (r.toList ++ rest) h') : mm_WG Γ M E pc L st h := by
  subst hn
  subst hst
  intro p e s m args below meth c F X H locs ls hP hS hL
  obtain ⟨⟨c1, c2, c3, c4, c5⟩, c6⟩ := cv
  have hw := F.2.2.2.2.2.1
  have hK := F.2.2.2.2.2.2.2
  have hB : va_CN E.1 s args M.1.cls idx M'.1 host M'.2.1 M'.2.2.1 M'.2.2.2.1 (mm_wsM M') (mm_rm M') 0 0 As.length := by
    refine ⟨⟨rfl, rfl, hR.1, hR.2.1, pay_in hw (mm_goodIn (fun _ h => h) c1), List.mem_cons_self⟩, hw _ c1, hw _ c2, ⟨c3, c4⟩, fun sig hs => ?_, va_Nw.use rfl (by rw [← lk]; exact hK.2.1)⟩
    rw [hs] at c5
    exact (Option.some.inj c5).symm
  refine mm_after (post := post) (va_runSN (As := As) (rest := rest) (nL := M.2.2.1) (Ts := mm_all) (own := M.1.cls) ⟨F.1, F.2.1, F.2.2.2.1, F.2.2.2.2.1, hw⟩ hM ⟨hB, hw _ c6, trivial⟩ ⟨mm_blind, fun U hU hW => ⟨rfl, by rw [hU]; exact hP, mm_KW_warm hW hK⟩⟩ rfl rfl hL.1.1 rfl (lv_room hr) hd ⟨hR.2.2.1, hR.2.2.2⟩) hS (fun r h' H1 locs1 hp hP1 hS1 => ?_)
  exact k r h' hp p e s m args below meth c F X H1 locs1 ls hP1 hS1 hL
theorem mm_callVI {q ci idx : Nat} {Fd : (Nat → Int32) → List Value} {pI : Int32 → mm_Mem → Prop} (cv : mm_cV M' As.length ci) (lk : Cond.methodLink M.1.cls idx M'.1 ∈ mm_all) (ho : mm_ob Γ q ci Fd) (hR : mm_hR M' E) (hd : decode M.2.1 pc = .ok (.invokevirtual idx, 3)) (hn : pc + 3 = n) (hst : st = As.reverse ++ .ref (mm_B Γ + q) :: rest) (hr : (rest.map fun v => v.category).sum ≤ 8) (hM : mm_SI Γ M' (.ref (mm_B Γ + q) :: As) h pI)
    (k : ∀ (x : Int32) (h' : mm_Mem), pI x h' → mm_WG Γ M E n L (.int x :: rest) h') : mm_WG Γ M E pc L st h :=
  mm_callV cv lk ho hR hM hd hn hst hr (fun r h' hp => by
    obtain ⟨x, rfl, hp⟩ := hp
    exact k x h' hp)
theorem mm_callVV {q ci idx : Nat} {Fd : (Nat → Int32) → List Value} {pV : mm_Mem → Prop} (cv : mm_cV M' As.length ci) (lk : Cond.methodLink M.1.cls idx M'.1 ∈ mm_all) (ho : mm_ob Γ q ci Fd) (hR : mm_hR M' E) (hd : decode M.2.1 pc = .ok (.invokevirtual idx, 3)) (hn : pc + 3 = n) (hst : st = As.reverse ++ .ref (mm_B Γ + q) :: rest) (hr : (rest.map fun v => v.category).sum ≤ 8) (hM : mm_SV Γ M' (.ref (mm_B Γ + q) :: As) h pV)
    (k : ∀ (h' : mm_Mem), pV h' → mm_WG Γ M E n L rest h') : mm_WG Γ M E pc L st h :=
  mm_callV cv lk ho hR hM hd hn hst hr (fun r h' hp => by
    obtain ⟨rfl, hp⟩ := hp
    exact k h' hp)
theorem mm_callSI {idx : Nat} {pI : Int32 → mm_Mem → Prop} (cv : mm_cS M' As.length) (lk : Cond.methodLink M.1.cls idx M'.1 ∈ mm_all) (hR : mm_hR M' E) (hd : decode M.2.1 pc = .ok (.invokestatic idx, 3)) (hn : pc + 3 = n) (hst : st = As.reverse ++ rest) (hr : (rest.map fun v => v.category).sum ≤ 8) (hM : mm_SI Γ M' As h pI)
    (k : ∀ (x : Int32) (h' : mm_Mem), pI x h' → mm_WG Γ M E n L (.int x :: rest) h') : mm_WG Γ M E pc L st h :=
  mm_callS cv lk hR hM hd hn hst hr (fun r h' hp => by
    obtain ⟨x, rfl, hp⟩ := hp
    exact k x h' hp)
theorem mm_callSV {idx : Nat} {pV : mm_Mem → Prop} (cv : mm_cS M' As.length) (lk : Cond.methodLink M.1.cls idx M'.1 ∈ mm_all) (hR : mm_hR M' E) (hd : decode M.2.1 pc = .ok (.invokestatic idx, 3)) (hn : pc + 3 = n) (hst : st = As.reverse ++ rest) (hr : (rest.map fun v => v.category).sum ≤ 8) (hM : mm_SV Γ M' As h pV)
    (k : ∀ (h' : mm_Mem), pV h' → mm_WG Γ M E n L rest h') : mm_WG Γ M E pc L st h :=
  mm_callS cv lk hR hM hd hn hst hr (fun r h' hp => by
    obtain ⟨rfl, hp⟩ := hp
    exact k h' hp)
theorem mm_callSNI {idx : Nat} {host : String} {pI : Int32 → mm_Mem → Prop} (cv : mm_cS M' As.length) (lk : mm_nest = Cond.methodLinkNest M.1.cls idx M'.1 host) (hR : mm_hR M' E) (hd : decode M.2.1 pc = .ok (.invokestatic idx, 3)) (hn : pc + 3 = n) (hst : st = As.reverse ++ rest) (hr : (rest.map fun v => v.category).sum ≤ 8) (hM : mm_SI Γ M' As h pI)
    (k : ∀ (x : Int32) (h' : mm_Mem), pI x h' → mm_WG Γ M E n L (.int x :: rest) h') : mm_WG Γ M E pc L st h :=
  mm_callSN cv lk hR hM hd hn hst hr (fun r h' hp => by
    obtain ⟨x, rfl, hp⟩ := hp
    exact k x h' hp)
/-! Math.max, System.arraycopy -/
def mm_cX (own : String) (idx : Nat) : Prop := Cond.methodLink own idx Lib.Math.max.name ∈ mm_all ∧ Cond.static Lib.Math.max.name ∈ mm_all ∧ Cond.initialized "java/lang/Math" ∈ mm_all ∧ Cond.code Lib.Math.max.name Lib.Math.max.code 2 (some .int) ∈ mm_all
theorem mm_max {idx : Nat} {x y : Int32} (cv : mm_cX M.1.cls idx) (hR : 1 ≤ E.1.frames ∧ (rest.map fun v => v.category).sum + 13 ≤ E.1.locals ∧ E.2.1 ≤ E.1.cells ∧ E.2.2.1 ≤ E.1.slots) (hd : decode M.2.1 pc = .ok (.invokestatic idx, 3)) (hn : pc + 3 = n) (k : mm_WG Γ M E n L (.int (if x < y then y else x) :: rest) h) : mm_WG Γ M E pc L (.int y :: .int x :: rest) h := by
  subst hn
  intro p e s m args below meth c F X H locs ls hP hS hL
  have hw := F.2.2.2.2.2.1
  exact va_mmax F.1 F.2.1 (by rw [F.2.2.2.1]; exact hL.1.1.symm) F.2.2.2.2.1 (hw _ cv.1) (hw _ cv.2.1) (hw _ cv.2.2.1) (hw _ cv.2.2.2) hR.1 hR.2.1 hR.2.2.1 hR.2.2.2 hd (k p e s m args below meth c F X H locs ls hP hS hL)
def mm_cC (own : String) (idx : Nat) : Prop := Cond.methodLink own idx arraycopyName ∈ mm_all ∧ Cond.native arraycopyName ∈ mm_all ∧ Cond.static arraycopyName ∈ mm_all ∧ Cond.initialized "java/lang/System" ∈ mm_all
theorem mm_copy {idx q0 q1 nn : Nat} {z : Int32} (cv : mm_cC M.1.cls idx) (ha0 : mm_ai Γ q0 nn) (ha1 : mm_ai Γ q1 nn) (hz0 : ¬ z < 0) (hz : z.toNatClampNeg = nn) (hR : 1 ≤ E.1.frames ∧ (rest.map fun v => v.category).sum + (nativeFrameWords "java/lang/System" "arraycopy" 5 + 11) ≤ E.1.locals) (hd : decode M.2.1 pc = .ok (.invokestatic idx, 3)) (hn : pc + 3 = n) (k : mm_WG Γ M E n L rest (mm_cp h q0 q1 nn)) : mm_WG Γ M E pc L (.int z :: .int 0 :: .ref (mm_B Γ + q1) :: .int 0 :: .ref (mm_B Γ + q0) :: rest) h := by
  subst hn
  intro p e s m args below meth c F X H locs ls hP hS hL
  have hw := F.2.2.2.2.2.1
  have e0 : (0 : Int32).toNatClampNeg = 0 := by decide
  refine va_copyi F.1 F.2.1 (by rw [F.2.2.2.1]; exact hL.1.1.symm) F.2.2.2.2.1 (hw _ cv.1) (hw _ cv.2.1) (hw _ cv.2.2.1) (hw _ cv.2.2.2) F.2.2.2.2.2.2.2.1 hP mm_DD hS q0 q1 0 0 (by rw [mm_ws_at ha0.1, ha0.2]) (by rw [mm_ws_at ha1.1, ha1.2]) rfl rfl rfl (by decide) (by decide) hz0 (by rw [e0, hz]; omega) (by rw [e0, hz]; omega) (fun _ _ => rfl) hR.1 hR.2 hd (fun H1 locs1 hP1 hD1 hS1 => ?_)
  refine k p e s m args below meth c F X H1 locs1 ls ?_ hS1 hL
  rw [e0, hz, ← ha1.2, mm_ws_set _ ha1.1] at hP1
  exact hP1
end MC
section ME
variable {Γ : mm_Ctx} {M : mm_MD} {pc : Nat} {L : List (Option Value)} {h : mm_Mem} {post : Option Value → mm_Mem → Prop}
theorem mm_iret {x : Int32} (hr : M.2.2.2.1 = some .int) (hd : decode M.2.1 pc = .ok (.ireturn, 1)) (hp : post (some (.int x)) h) : mm_W Γ M post pc L [.int x] h := by
  intro p e s m args below meth c F X H locs ls hP hS hL
  exact W.iret F.1 F.2.1 (F.2.2.1.trans hr) (fun t ht hW => ⟨⟨_, h, rfl, hp, by rw [ht]; exact hP, mm_KW_warm hW F.2.2.2.2.2.2.2⟩, hS.F ht⟩) hS.2.2 hd F.2.2.2.2.2.2.1
theorem mm_zret {x : Int32} (hr : M.2.2.2.1 = some .boolean) (hx : x = 0 ∨ x = 1) (hd : decode M.2.1 pc = .ok (.ireturn, 1)) (hp : post (some (.int x)) h) : mm_W Γ M post pc L [.int x] h := by
  intro p e s m args below meth c F X H locs ls hP hS hL
  exact W.zret F.1 F.2.1 (F.2.2.1.trans hr) (by rcases hx with rfl | rfl <;> rfl) (fun t ht hW => ⟨⟨_, h, rfl, hp, by rw [ht]; exact hP, mm_KW_warm hW F.2.2.2.2.2.2.2⟩, hS.F ht⟩) hS.2.2 hd F.2.2.2.2.2.2.1
theorem mm_vret (hr : M.2.2.2.1 = none) (hd : decode M.2.1 pc = .ok (.return_, 1)) (hp : post none h) : mm_W Γ M post pc L [] h := by
  intro p e s m args below meth c F X H locs ls hP hS hL
  exact W.vret F.1 F.2.1 (F.2.2.1.trans hr) (fun t ht hW => ⟨⟨_, h, rfl, hp, by rw [ht]; exact hP, mm_KW_warm hW F.2.2.2.2.2.2.2⟩, hS.F ht⟩) hS.2.2 hd F.2.2.2.2.2.2.1
theorem mm_args : ∀ (vs : List Value) (i j : Nat) (v : Value), (∀ u ∈ vs, u.category = 1) → vs[i]? = some v → (j + i, v) ∈ lv_args j vs
  | [], i, j, v, _, h => by simp at h
  | w :: vs, i, j, v, hc, h => by
    have hw : w.category = 1 := hc w List.mem_cons_self
    rw [lv_args, if_neg (by omega)]
    cases i with
    | zero =>
      simp at h
      rw [h]
      exact List.mem_cons_self
    | succ i =>
      have := mm_args vs i (j + 1) v (fun u hu => hc u (List.mem_cons_of_mem _ hu)) (by simpa using h)
      rw [show j + (i + 1) = j + 1 + i by omega]
      exact List.mem_cons_of_mem _ this
theorem mm_spec {av : List Value} (hy : plainName M.1.cls = true) (hc : ∀ u ∈ av, u.category = 1) (hl : (lg_sl av).length ≤ M.2.2.1) (hL : ∀ (i : Nat) (v : Value), L[i]? = some (some v) → av[i]? = some v) (k : mm_W Γ M post 0 L [] h) : mm_S Γ M av h post := by
  refine Met.ofW (cc := M.2.1) (maxL := M.2.2.1) (ret := M.2.2.2.1) hy rfl ?_
  intro p e s m args' below meth c s₁ B hml hv
  obtain ⟨rfl, hP, hK⟩ := hv
  have hts := atoms_spec (ws := mm_wsM M) B.pre
  rw [lg_entry_eq]
  refine k p e s m _ below meth c ⟨B.exec, B.bytes, B.returns, hml, findClass_of_methodNamed B.named, fun w hw => hts w (List.mem_cons_of_mem _ hw), B.notSynchronized, hK⟩ trivial s.heap [] _ hP va_S.rf ?_
  have h0 := lv_entry av (n := M.2.2.1) hl
  refine ⟨⟨h0.1, h0.2.1, fun q hq => h0.2.2 q ?_⟩, fun i v hi => hc v (List.mem_of_getElem? (hL i v hi))⟩
  obtain ⟨j, w⟩ := q
  obtain ⟨t, e1, e2⟩ := (mm_kn_mem _ 0 j w).mp hq
  have e3 : j = 0 + t := e1
  rw [e3]
  exact mm_args av t 0 w hc (hL t w e2)
theorem mm_spec0 {av : List Value} (j : Nat) (hy : plainName M.1.cls = true) (hc : av.all (fun u => u.category == 1) = true) (hl : (lg_sl av).length ≤ M.2.2.1) (k : mm_W Γ M post 0 (av.map some ++ List.replicate j none) [] h) : mm_S Γ M av h post := by
  refine mm_spec hy (fun u hu => by simpa using List.all_eq_true.mp hc u hu) hl (fun i v hi => ?_) k
  by_cases hl2 : i < av.length
  · rw [List.getElem?_append_left (by simpa using hl2), List.getElem?_map] at hi
    cases ha : av[i]? with
    | none => rw [ha] at hi; cases hi
    | some w => rw [ha] at hi; cases hi; rfl
  · rw [List.getElem?_append_right (by simpa using hl2)] at hi
    have := List.eq_of_mem_replicate (List.mem_of_getElem? hi)
    cases this
end ME
end
section
/-! the growing world: the cells that were made, in the order of their making -/
def mg_ws (B : Nat) (cs : List va_E) : va_W := cs.mapIdx (fun i e => (B + i, e))
theorem mg_at {B : Nat} {cs : List va_E} (k : Nat) : (mg_ws B cs)[k]? = cs[k]?.map (fun e => (B + k, e)) := by simp [mg_ws]
theorem mg_ws_set {B : Nat} {cs : List va_E} (q : Nat) (e : va_E) : (mg_ws B cs).set q (B + q, e) = mg_ws B (cs.set q e) := by
  apply List.ext_getElem?
  intro j
  rw [List.getElem?_set, mg_at, mg_at, List.getElem?_set]
  by_cases hj : q = j
  · subst hj
    simp [mg_ws]
  · simp [hj]
theorem mg_ws_app {B : Nat} {cs : List va_E} (e : va_E) : mg_ws B (cs ++ [e]) = mg_ws B cs ++ [(B + cs.length, e)] := by simp [mg_ws, List.mapIdx_append]
def mg_A (Γ : mm_Ctx) : Nat → Prop := fun q => mm_B Γ ≤ q
theorem mg_DD {Γ : mm_Ctx} {cs : List va_E} : va_D (mg_A Γ) (mg_ws (mm_B Γ) cs) := by
  have key : ∀ (k : Nat) (q : Nat × va_E), (mg_ws (mm_B Γ) cs)[k]? = some q → q.1 = mm_B Γ + k := by
    intro k q hk
    rw [mg_at] at hk
    cases hc : cs[k]? with
    | none => rw [hc] at hk; cases hk
    | some e => rw [hc] at hk; cases hk; rfl
  refine ⟨fun i j p q hi hj e => ?_, fun k q hk => ?_⟩
  · have h1 := key i p hi
    have h2 := key j q hj
    omega
  · show mm_B Γ ≤ q.1
    rw [key k q hk]
    exact Nat.le_add_right _ _
def mg_PW (Γ : mm_Ctx) (cs : List va_E) (H : Heap) : Prop := va_P (mm_D Γ) mm_cl (mg_ws (mm_B Γ) cs) H ∧ H.size = mm_B Γ + cs.length
abbrev mg_E : Type := Room × (Array Value → State → Prop) × (List Frame → Array Value → State → State → Prop)
def mg_W (Γ : mm_Ctx) (M : mm_MD) (E : mg_E) (kc ks : Nat) (pc : Nat) (L : List (Option Value)) (st : List Value) (cs : List va_E) : Prop :=
  ∀ (p : Program) (e : Env) (s : State) (m : MethodId) (args : Array Value) (below : List Frame) (meth : Method) (c : Code), mm_Fx Γ M p s m args meth c → (M.1.name = "<init>" → meth.name = "<init>") ∧ E.2.1 args s →
    ∀ (H : Heap) (locs : List Loc) (ls : Array Slot), mg_PW Γ cs H → va_S (mg_A Γ) s.heap H locs ∧ mm_B Γ ≤ s.heap.size → mm_L ls M.2.2.1 L →
      W p Γ.1 e E.1 s m args below meth c H locs kc ks (E.2.2 below args s) (F0 m pc ls st)
def mg_Q (Γ : mm_Ctx) (cs : List va_E) : Array Value → State → Outcome → State → Prop := fun _ st oc t => oc = .returned none ∧ mg_PW Γ cs t.heap ∧ va_F (mg_A Γ) st t
def mg_rm (M : mm_MD) (mc ms : Nat) : Room := { frames := M.2.2.2.2, cells := mc, slots := ms, locals := 36 * M.2.2.2.2 }
abbrev mg_Em (Γ : mm_Ctx) (M : mm_MD) (cs : List va_E) (mc ms : Nat) : mg_E := (mg_rm M mc ms, (fun _ _ => True), (fun below args s => MQ below (mg_Q Γ cs) args s mc ms (mg_A Γ)))
def mg_S (Γ : mm_Ctx) (M : mm_MD) (q : Nat) (cs cs' : List va_E) (mc ms : Nat) : Prop :=
  Met Γ.1 M.1 (mm_wsM M) (mg_rm M mc ms) (va_Pc [.ref (mm_B Γ + q)] (fun U => mg_PW Γ cs U.heap ∧ mm_KW Γ U)) (mg_Q Γ cs') mc ms (mg_A Γ)
section GR
variable {Γ : mm_Ctx} {M M' : mm_MD} {E : mg_E} {kc ks pc n : Nat} {L L' : List (Option Value)} {st rest : List Value} {cs cs' : List va_E}
theorem mg_iconst {z : Int} {v : Int32} (hd : decode M.2.1 pc = .ok (.iconst z, 1)) (hn : pc + 1 = n) (hv : Int32.ofInt z = v) (k : mg_W Γ M E kc ks n L (.int v :: st) cs) : mg_W Γ M E kc ks pc L (st) cs := by
  subst hn
  intro p e s m args below meth c F X H locs ls hP hS hL
  exact lv_iconst F.1 F.2.1 hd hv (k p e s m args below meth c F X H locs ls hP hS hL)
theorem mg_bipush {z : Int} {v : Int32} (hd : decode M.2.1 pc = .ok (.bipush z, 2)) (hn : pc + 2 = n) (hv : (Int8.ofInt z).toInt32 = v) (k : mg_W Γ M E kc ks n L (.int v :: st) cs) : mg_W Γ M E kc ks pc L (st) cs := by
  subst hn
  intro p e s m args below meth c F X H locs ls hP hS hL
  exact lv_bipush F.1 F.2.1 hd hv (k p e s m args below meth c F X H locs ls hP hS hL)
theorem mg_sipush {z : Int} {v : Int32} (hd : decode M.2.1 pc = .ok (.sipush z, 3)) (hn : pc + 3 = n) (hv : (Int16.ofInt z).toInt32 = v) (k : mg_W Γ M E kc ks n L (.int v :: st) cs) : mg_W Γ M E kc ks pc L (st) cs := by
  subst hn
  intro p e s m args below meth c F X H locs ls hP hS hL
  exact lv_sipush F.1 F.2.1 hd hv (k p e s m args below meth c F X H locs ls hP hS hL)
theorem mg_iload_n {k0 : Fin 4} {i : Nat} {x : Int32} (hd : decode M.2.1 pc = .ok (.iload_n k0, 1)) (hn : pc + 1 = n) (hi : (k0 : Nat) = i) (hl : L[i]? = some (some (.int x))) (k : mg_W Γ M E kc ks n L (.int x :: st) cs) : mg_W Γ M E kc ks pc L (st) cs := by
  subst hn
  intro p e s m args below meth c F X H locs ls hP hS hL
  exact lv_iload_n F.1 F.2.1 hd hi (mm_L_at hL hl) (k p e s m args below meth c F X H locs ls hP hS hL)
theorem mg_aload_n {k0 : Fin 4} {i : Nat} {x : Nat} (hd : decode M.2.1 pc = .ok (.aload_n k0, 1)) (hn : pc + 1 = n) (hi : (k0 : Nat) = i) (hl : L[i]? = some (some (.ref x))) (k : mg_W Γ M E kc ks n L (.ref x :: st) cs) : mg_W Γ M E kc ks pc L (st) cs := by
  subst hn
  intro p e s m args below meth c F X H locs ls hP hS hL
  exact lv_aload_n F.1 F.2.1 hd hi (mm_L_at hL hl) (k p e s m args below meth c F X H locs ls hP hS hL)
theorem mg_istore_n {k0 : Fin 4} {i : Nat} {x : Int32} (hd : decode M.2.1 pc = .ok (.istore_n k0, 1)) (hn : pc + 1 = n) (hi : (k0 : Nat) = i) (hm : i < M.2.2.1) (hs : L.set i (some (.int x)) = L') (k : mg_W Γ M E kc ks n L' st cs) : mg_W Γ M E kc ks pc L (.int x :: st) cs := by
  subst hn
  subst hs
  intro p e s m args below meth c F X H locs ls hP hS hL
  exact lv_istore_n F.1 F.2.1 hd hi hL.1 hm rfl (fun ls' h' => k p e s m args below meth c F X H locs ls' hP hS (mm_L_set hL rfl h'))
theorem mg_astore_n {k0 : Fin 4} {i : Nat} {x : Nat} (hd : decode M.2.1 pc = .ok (.astore_n k0, 1)) (hn : pc + 1 = n) (hi : (k0 : Nat) = i) (hm : i < M.2.2.1) (hs : L.set i (some (.ref x)) = L') (k : mg_W Γ M E kc ks n L' st cs) : mg_W Γ M E kc ks pc L (.ref x :: st) cs := by
  subst hn
  subst hs
  intro p e s m args below meth c F X H locs ls hP hS hL
  exact lv_astore_n F.1 F.2.1 hd hi hL.1 hm rfl (fun ls' h' => k p e s m args below meth c F X H locs ls' hP hS (mm_L_set hL rfl h'))
theorem mg_iinc {i : Nat} {z : Int} {x v : Int32} (hd : decode M.2.1 pc = .ok (.iinc i z, 3)) (hn : pc + 3 = n) (hl : L[i]? = some (some (.int x))) (hv : x + Int32.ofInt z = v) (hm : i < M.2.2.1) (hs : L.set i (some (.int v)) = L') (k : mg_W Γ M E kc ks n L' st cs) : mg_W Γ M E kc ks pc L st cs := by
  subst hn
  subst hs
  intro p e s m args below meth c F X H locs ls hP hS hL
  obtain ⟨j, hj⟩ := List.getElem?_of_mem ((mm_kn_mem L 0 i (.int x)).mpr ⟨i, by omega, hl⟩)
  exact lv_iinc F.1 F.2.1 hd hL.1 hj hv hm rfl (fun ls' h' => k p e s m args below meth c F X H locs ls' hP hS (mm_L_set hL rfl h'))
theorem mg_dup {v : Value} (hd : decode M.2.1 pc = .ok (.dup, 1)) (hn : pc + 1 = n) (hv : v.category = 1) (k : mg_W Γ M E kc ks n L (v :: v :: st) cs) : mg_W Γ M E kc ks pc L (v :: st) cs := by
  subst hn
  intro p e s m args below meth c F X H locs ls hP hS hL
  exact lv_dup F.1 F.2.1 hd hv (k p e s m args below meth c F X H locs ls hP hS hL)
theorem mg_icmp_ge_t {x y : Int32} {off : Int} {tgt : Nat} (hd : decode M.2.1 pc = .ok (.if_icmp .ge off, 3)) (ht : (pc : Int) + off = (tgt : Int)) (hc : y ≤ x) (k : mg_W Γ M E kc ks tgt L st cs) : mg_W Γ M E kc ks pc L (.int y :: .int x :: st) cs := by
  intro p e s m args below meth c F X H locs ls hP hS hL
  exact lv_icmp_ge F.1 F.2.1 hd ht (fun _ => (k p e s m args below meth c F X H locs ls hP hS hL)) (fun q => absurd hc q)
theorem mg_icmp_ge_f {x y : Int32} {off : Int} (tgt : Nat) (hd : decode M.2.1 pc = .ok (.if_icmp .ge off, 3)) (hn : pc + 3 = n) (ht : (pc : Int) + off = (tgt : Int)) (hc : ¬ y ≤ x) (k : mg_W Γ M E kc ks n L st cs) : mg_W Γ M E kc ks pc L (.int y :: .int x :: st) cs := by
  subst hn
  intro p e s m args below meth c F X H locs ls hP hS hL
  exact lv_icmp_ge F.1 F.2.1 hd ht (fun q => absurd q hc) (fun _ => (k p e s m args below meth c F X H locs ls hP hS hL))
theorem mg_icmp_gt_t {x y : Int32} {off : Int} {tgt : Nat} (hd : decode M.2.1 pc = .ok (.if_icmp .gt off, 3)) (ht : (pc : Int) + off = (tgt : Int)) (hc : y < x) (k : mg_W Γ M E kc ks tgt L st cs) : mg_W Γ M E kc ks pc L (.int y :: .int x :: st) cs := by
  intro p e s m args below meth c F X H locs ls hP hS hL
  exact lv_icmp_gt F.1 F.2.1 hd ht (fun _ => (k p e s m args below meth c F X H locs ls hP hS hL)) (fun q => absurd hc q)
theorem mg_icmp_gt_f {x y : Int32} {off : Int} (tgt : Nat) (hd : decode M.2.1 pc = .ok (.if_icmp .gt off, 3)) (hn : pc + 3 = n) (ht : (pc : Int) + off = (tgt : Int)) (hc : ¬ y < x) (k : mg_W Γ M E kc ks n L st cs) : mg_W Γ M E kc ks pc L (.int y :: .int x :: st) cs := by
  subst hn
  intro p e s m args below meth c F X H locs ls hP hS hL
  exact lv_icmp_gt F.1 F.2.1 hd ht (fun q => absurd q hc) (fun _ => (k p e s m args below meth c F X H locs ls hP hS hL))
theorem mg_goto {off : Int} (hd : decode M.2.1 pc = .ok (.goto off, 3)) (ht : (pc : Int) + off = (n : Int)) (k : mg_W Γ M E kc ks n L st cs) : mg_W Γ M E kc ks pc L st cs := by
  intro p e s m args below meth c F X H locs ls hP hS hL
  exact lv_goto F.1 F.2.1 hd ht (k p e s m args below meth c F X H locs ls hP hS hL)
theorem mg_obj {idx a : Nat} (lk : Cond.methodLink M.1.cls idx Lib.objectInit ∈ mm_all) (h1 : Cond.instanceMethod Lib.objectInit ∈ mm_all) (h2 : Cond.code Lib.objectInit ⟨#[0xb1]⟩ 1 none ∈ mm_all) (hd : decode M.2.1 pc = .ok (.invokespecial idx, 3)) (hn : pc + 3 = n) (hf : 1 ≤ E.1.frames) (hl : (st.map fun v => v.category).sum + 12 ≤ E.1.locals) (k : mg_W Γ M E kc ks n L st cs) : mg_W Γ M E kc ks pc L (.ref a :: st) cs := by
  subst hn
  intro p e s m args below meth c F X H locs ls hP hS hL
  have hw := F.2.2.2.2.2.1
  exact W.objInit F.1 F.2.1 F.2.2.2.2.1 (hw _ lk) (hw _ h1) (hw _ h2) rfl (by rw [F.2.2.2.1]; exact hL.1.1) rfl hd hf (by show 2 * 0 + _ + 12 ≤ _; omega) (k p e s m args below meth c F X H locs ls hP hS hL)
theorem mg_get {q ci kf idx : Nat} {fs : List Value} {v : Value} (lk : mm_lk M.1.cls idx ci kf) (ho : cs[q]? = some (.inr (ci, fs))) (hv : fs[kf]? = some v) (hd : decode M.2.1 pc = .ok (.getfield idx, 3)) (hn : pc + 3 = n) (k : mg_W Γ M E kc ks n L (v :: st) cs) : mg_W Γ M E kc ks pc L (.ref (mm_B Γ + q) :: st) cs := by
  subst hn
  obtain ⟨C, T, N, h1, h2, h3, h4⟩ := lk
  intro p e s m args below meth c F X H locs ls hP hS hL
  exact va_get (D := mm_D Γ) F.1 F.2.1 F.2.2.2.2.2.1 h2 F.2.2.2.2.1 F.2.2.2.2.2.2.2.1 hP.1 q (by rw [mg_at, ho]; rfl) h1 kf h4 (F.2.2.2.2.2.1 _ h3) (fun _ h9 => h9) hv hd (k p e s m args below meth c F X H locs ls hP hS hL)
def mg_lf (ci k : Nat) (own : String) (ty : FieldType) : Prop := ∃ (C : String) (T : u_T) (N : Nat) (ty0 : Nat → FieldType), mm_cl[ci]? = some (C, T, N) ∧ (∀ k, k < N → parseFieldDescriptor (T k).2.2.1 = some (ty0 k)) ∧ (∀ a, a < N → ∀ b, b < N → a ≠ b → (T a).2.1 ≠ (T b).2.1) ∧ (T k).2.2.2 = true ∧ (T k).1 = own ∧ parseFieldDescriptor (T k).2.2.1 = some ty
theorem mg_S_put {A : Nat → Prop} {H0 H H1 : Heap} {locs : List Loc} {a k : Nat} (h : va_S A H0 H locs) (z : H1.size = H.size) (oq : ∀ q : Nat, q ≠ a → H1[q]? = H[q]?) (ha : A a) : va_S A H0 H1 (locs ++ [⟨a, k⟩]) := h.put z oq ha
theorem mg_putF {q ci kf idx r : Nat} {fs : List Value} {ty : FieldType} (hi0 : M.1.name = "<init>") (lk : mm_lk M.1.cls idx ci kf) (lf : mg_lf ci kf M.1.cls ty) (ho : cs[q]? = some (.inr (ci, fs))) (hl : kf < fs.length) (hn0 : narrow ty (.ref r) = .ref r) (hfit : fits ty (.ref r) = true) (hd : decode M.2.1 pc = .ok (.putfield idx, 3)) (hn : pc + 3 = n) (hcs : cs.set q (.inr (ci, fs.set kf (.ref r))) = cs') (k : mg_W Γ M E kc ks n L st cs') : mg_W Γ M E kc ks pc L (.ref r :: .ref (mm_B Γ + q) :: st) cs := by
  subst hn
  subst hcs
  obtain ⟨C, T, N, h1, hin, h3, hk⟩ := lk
  obtain ⟨C', T', N', ty0, g1, hty, hnm, hfin, hdecl, hdd⟩ := lf
  cases h1.symm.trans g1
  intro p e s m args below meth c F X H locs ls hP hS hL
  have hts := F.2.2.2.2.2.1
  have hown := F.2.2.2.2.1
  have hK := F.2.2.2.2.2.2.2.1
  have he : (mg_ws (mm_B Γ) cs)[q]? = some (mm_B Γ + q, .inr (ci, fs)) := by rw [mg_at, ho]; rfl
  have hap := va_apart (own := M.1.cls) hts hin ty0 hty hnm hK h1
  obtain ⟨r0, h1', cell, q1, q2, q3, q4⟩ := hP.1 q _ he
  have hr : r0 = (C, T, N) := Option.some.inj (h1'.symm.trans h1)
  subst hr
  obtain ⟨hSl, hfc, kC, hkC, hkind⟩ := hK.1 ci _ h1
  obtain ⟨cf, kf0, fi, f, hi, hsl⟩ := hSl kf hk
  have hlay := hts _ (hin _ (u_in_lay hk))
  unfold u_lay at hlay
  rw [if_pos hfin] at hlay
  have hst := (u_facts hfc hkC (u_lays hts hin hk) hi).1
  have hcf : m.cls = cf := by
    obtain ⟨_, _, c', _, _, _, -, -, hf', -, -, -, hown2, -⟩ := Cond.laysFinal_spec hlay
    have e1 : c' = cf := by have := hi.symm.trans hf'; simp at this; exact this.1.symm
    rw [hdecl] at hown2
    rw [← e1]; exact Option.some.inj (hown.symm.trans hown2)
  have h6 := u_fits hfc hkC hkind (Or.inr hlay) hi hdd hn0 hfit
  refine W.putFinK F.1 F.2.1 hown (hts _ h3) hi hst hcf (X.1 hi0) (by rw [q2]; exact h6) q1 q3 (by rw [hsl]; exact k2_hasslot (q4 kf hk)) rfl rfl hd fun H' e1 e2 e3 => ?_
  rw [hsl] at e1 ⊢
  have hP' := hP.1.set (e := .inr (ci, fs.set kf (.ref r))) mg_DD he ⟨_, h1, t_OB.to (V := updV (vp_V fs) kf (.ref r)) ⟨_, e1, q2, q3, t_set q4 hap hk _⟩ (fun j _ => vp_updV_set hl _ j)⟩ e3
  rw [mg_ws_set] at hP'
  exact k p e s m args below meth c F X H' _ ls ⟨hP', by rw [e2, hP.2]; simp⟩ ⟨hS.1.put e2 e3 (mg_DD.2 q _ he), hS.2⟩ hL
theorem mg_iast {q nn : Nat} {f : Nat → Int32} {i x : Int32} (ha : cs[q]? = some (.inl (mm_cI Γ, nn, .inl f))) (hin : vp_in i nn) (hd : decode M.2.1 pc = .ok (.iastore, 1)) (hn : pc + 1 = n) (hcs : cs.set q (.inl (mm_cI Γ, nn, .inl (upd f i.toNatClampNeg x))) = cs') (k : mg_W Γ M E kc ks n L st cs') : mg_W Γ M E kc ks pc L (.int x :: .int i :: .ref (mm_B Γ + q) :: st) cs := by
  subst hn
  subst hcs
  intro p e s m args below meth c F X H locs ls hP hS hL
  have hK := F.2.2.2.2.2.2.2.1
  have he : (mg_ws (mm_B Γ) cs)[q]? = some (mm_B Γ + q, .inl (mm_cI Γ, nn, .inl f)) := by rw [mg_at, ha]; rfl
  refine W.iast F.1 F.2.1 (hP.1 q _ he) ((hK.2 0 _ rfl).1 nn (fun j => .int (f j))) (fun q => by cases q) (by show ¬ (i < 0 ∨ (arrV _ _ _).slots.size ≤ _); rw [arrV_size]; exact hin) rfl rfl hd fun H1 e1 z oq => ?_
  have hP' := hP.1.set (e := .inl (mm_cI Γ, nn, .inl (upd f i.toNatClampNeg x))) mg_DD he (by
    show H1[_]? = some (vp_cell _ _)
    rw [e1, vp_cell_i, vp_cell_i, arrV_store]
    congr 2
    funext q
    by_cases hq : q = i.toNatClampNeg
    · subst hq
      simp [updV, upd]
    · simp [updV, upd, hq]) oq
  rw [mg_ws_set] at hP'
  exact k p e s m args below meth c F X H1 _ ls ⟨hP', by rw [z, hP.2]; simp⟩ ⟨hS.1.put z oq (mg_DD.2 q _ he), hS.2⟩ hL
theorem mg_aast {q q2 nn ci : Nat} {f : Nat → Option Nat} {vs : List Value} {i : Int32} (ha : cs[q]? = some (.inl (mm_cT Γ, nn, .inr (.inr (.inr (.inr f)))))) (hv : cs[q2]? = some (.inr (2, vs))) (hin : vp_in i nn) (hd : decode M.2.1 pc = .ok (.aastore, 1)) (hn : pc + 1 = n) (hcs : cs.set q (.inl (mm_cT Γ, nn, .inr (.inr (.inr (.inr (va_up f i.toNatClampNeg (some (mm_B Γ + q2)))))))) = cs') (k : mg_W Γ M E kc ks n L st cs') : mg_W Γ M E kc ks pc L (.ref (mm_B Γ + q2) :: .int i :: .ref (mm_B Γ + q) :: st) cs := by
  subst hn
  subst hcs
  intro p e s m args below meth c F X H locs ls hP hS hL
  have hK := F.2.2.2.2.2.2.2.1
  have he : (mg_ws (mm_B Γ) cs)[q]? = some (mm_B Γ + q, .inl (mm_cT Γ, nn, .inr (.inr (.inr (.inr f))))) := by rw [mg_at, ha]; rfl
  have he2 : (mg_ws (mm_B Γ) cs)[q2]? = some (mm_B Γ + q2, .inr (2, vs)) := by rw [mg_at, hv]; rfl
  have hlt : i.toNatClampNeg < nn := Nat.not_le.mp fun q => hin (Or.inr q)
  have h0 : ¬ i < 0 := fun q => hin (Or.inl q)
  obtain ⟨r', hr', cellV, g1, g2, g3, -⟩ := hP.1 q2 _ he2
  have hcls := (hK.1 2 (smR_T, smF_T, 9) rfl).2
  obtain ⟨kA, comp, k1, k2, k3, -⟩ := (hK.2 2 _ rfl).2
  have hcomp : comp = (mm_D Γ).1 2 := Option.some.inj (k3.symm.trans hcls.1)
  subst hcomp
  obtain ⟨kC, hkC, -⟩ := hcls.2
  refine W.aast F.1 F.2.1 (hP.1 q _ he) (fun q h => by cases h) (fun h => by cases h) k1 k2 rfl hkC ⟨h0, by show _ < (arrV _ _ _).slots.size; rw [arrV_size]; exact hlt⟩ g1 (fun q h => by rw [g3] at h; cases h) (by rw [g2]; exact hkC) (by rw [g2]; exact va_assign hcls) rfl rfl hd fun H1 e1 z oq => ?_
  have hP' := hP.1.set (e := .inl (mm_cT Γ, nn, .inr (.inr (.inr (.inr (va_up f i.toNatClampNeg (some (mm_B Γ + q2)))))))) mg_DD he (by
    show H1[_]? = some (vp_cell _ _)
    rw [e1, vp_cell_q, vp_cell_q, arrV_store]
    congr 2
    funext q
    by_cases hq : q = i.toNatClampNeg
    · subst hq
      simp [updV, va_up, va_rf]
    · simp [updV, va_up, hq]) oq
  rw [mg_ws_set] at hP'
  exact k p e s m args below meth c F X H1 _ ls ⟨hP', by rw [z, hP.2]; simp⟩ ⟨hS.1.put z oq (mg_DD.2 q _ he), hS.2⟩ hL
theorem mg_push {H H1 : Heap} {e : va_E} (hP : mg_PW Γ cs H) (z1 : H1.size = H.size + 1) (o1 : ∀ q, q < H.size → H1[q]? = H[q]?) (he : va_at (mm_D Γ) mm_cl (mm_B Γ + cs.length, e) H1) : mg_PW Γ (cs ++ [e]) H1 := by
  refine ⟨?_, by rw [z1, hP.2]; simp; omega⟩
  rw [mg_ws_app]
  refine va_P.app (hP.1.kept (fun k x hx => o1 x.1 ((hP.1 k x hx).lt))) (fun k x hx => ?_)
  have hz : k < 1 := (List.getElem?_eq_some_iff.mp hx).1
  rw [show k = 0 by omega] at hx
  cases hx
  exact he
theorem mg_S_push {H0 H H1 : Heap} {locs : List Loc} (hS : va_S (mg_A Γ) H0 H locs) (z1 : H1.size = H.size + 1) (o1 : ∀ q, q < H.size → H1[q]? = H[q]?) : va_S (mg_A Γ) H0 H1 locs :=
  ⟨Nat.le_trans hS.1 (by omega), fun x h1 h2 => (o1 x (Nat.lt_of_lt_of_le h1 hS.1)).trans (hS.2.1 x h1 h2), hS.2.2⟩
theorem mg_newi {z : Int32} {nn kc' ks' r : Nat} (hw : Cond.arrayClass .int ∈ mm_all) (hz0 : ¬ z < 0) (hz : z.toNatClampNeg = nn) (hb : nn * componentBytes .int ≤ 536870912) (hc' : kc + 1 = kc') (hs' : ks + nn = ks') (hc : kc' ≤ E.1.cells) (hs : ks' ≤ E.1.slots) (hd : decode M.2.1 pc = .ok (.newarray .int, 2)) (hn : pc + 2 = n) (hr : cs.length = r) (hcs : cs ++ [.inl (mm_cI Γ, nn, .inl (fun _ => 0))] = cs') (k : mg_W Γ M E kc' ks' n L (.ref (mm_B Γ + r) :: st) cs') : mg_W Γ M E kc ks pc L (.int z :: st) cs := by
  subst hn
  subst hcs
  subst hr
  subst hc'
  subst hs'
  intro p e s m args below meth c F X H locs ls hP hS hL
  refine va_newaK (atype := .int) F.1 F.2.1 (F.2.2.2.2.2.1 _ hw) rfl hd rfl hz0 hz hb hc hs hP.2 fun H' cA e1 z1 o1 hAr hNm => ?_
  have hcA : cA = mm_cI Γ := by
    have h2 : s.vm.findClass ("[" ++ (.int : FieldType).toString) = some (mm_cI Γ) := (F.2.2.2.2.2.2.2.1.2 0 _ rfl).2
    exact Option.some.inj (hNm.symm.trans h2)
  subst hcA
  exact k p e s m args below meth c F X H' locs ls (mg_push hP (by rw [z1, hP.2]) (by rw [hP.2]; exact o1) e1) ⟨mg_S_push hS.1 (by rw [z1, hP.2]) (by rw [hP.2]; exact o1), hS.2⟩ hL
theorem mg_newz {z : Int32} {nn kc' ks' r : Nat} (hw : Cond.arrayClass .boolean ∈ mm_all) (hz0 : ¬ z < 0) (hz : z.toNatClampNeg = nn) (hb : nn * componentBytes .boolean ≤ 536870912) (hc' : kc + 1 = kc') (hs' : ks + nn = ks') (hc : kc' ≤ E.1.cells) (hs : ks' ≤ E.1.slots) (hd : decode M.2.1 pc = .ok (.newarray .boolean, 2)) (hn : pc + 2 = n) (hr : cs.length = r) (hcs : cs ++ [.inl (mm_cZ Γ, nn, .inl (fun _ => 0))] = cs') (k : mg_W Γ M E kc' ks' n L (.ref (mm_B Γ + r) :: st) cs') : mg_W Γ M E kc ks pc L (.int z :: st) cs := by
  subst hn
  subst hcs
  subst hr
  subst hc'
  subst hs'
  intro p e s m args below meth c F X H locs ls hP hS hL
  refine va_newaK (atype := .boolean) F.1 F.2.1 (F.2.2.2.2.2.1 _ hw) rfl hd rfl hz0 hz hb hc hs hP.2 fun H' cA e1 z1 o1 hAr hNm => ?_
  have hcA : cA = mm_cZ Γ := by
    have h2 : s.vm.findClass ("[" ++ (.boolean : FieldType).toString) = some (mm_cZ Γ) := (F.2.2.2.2.2.2.2.1.2 1 _ rfl).2
    exact Option.some.inj (hNm.symm.trans h2)
  subst hcA
  exact k p e s m args below meth c F X H' locs ls (mg_push hP (by rw [z1, hP.2]) (by rw [hP.2]; exact o1) e1) ⟨mg_S_push hS.1 (by rw [z1, hP.2]) (by rw [hP.2]; exact o1), hS.2⟩ hL
theorem mg_newq {z : Int32} {nn kc' ks' r idx : Nat} (lk : Cond.classLink M.1.cls idx "SwitchedModules$Task" ∈ mm_all) (hz0 : ¬ z < 0) (hz : z.toNatClampNeg = nn) (hb : nn * 4 ≤ 536870912) (hc' : kc + 1 = kc') (hs' : ks + nn = ks') (hc : kc' ≤ E.1.cells) (hs : ks' ≤ E.1.slots) (hd : decode M.2.1 pc = .ok (.anewarray idx, 3)) (hn : pc + 3 = n) (hr : cs.length = r) (hcs : cs ++ [.inl (mm_cT Γ, nn, .inr (.inr (.inr (.inr (fun _ => none)))))] = cs') (k : mg_W Γ M E kc' ks' n L (.ref (mm_B Γ + r) :: st) cs') : mg_W Γ M E kc ks pc L (.int z :: st) cs := by
  subst hn
  subst hcs
  subst hr
  subst hc'
  subst hs'
  subst hz
  intro p e s m args below meth c F X H locs ls hP hS hL
  refine W.anew F.1 F.2.1 F.2.2.2.2.1 (F.2.2.2.2.2.1 _ lk) (va_AO.use F.2.2.2.2.2.2.2.2.2.2.2.2) rfl hd rfl hz0 hb hc hs fun cA kA comp f1 f2 f3 f4 => ?_
  have hcA : cA = mm_cT Γ := by
    obtain ⟨_, _, _, _, _, h2⟩ := (F.2.2.2.2.2.2.2.1.2 2 _ rfl).2
    exact Option.some.inj (f1.symm.trans h2)
  subst hcA
  generalize hH1 : H.push ({ cls := mm_cT Γ, slots := Array.replicate z.toNatClampNeg .null, vm := .none } : Cell) = H1
  have z1 : H1.size = H.size + 1 := by rw [← hH1, Array.size_push]
  have e1 : H1[H.size]? = some (arrV (mm_cT Γ) z.toNatClampNeg (fun _ => .null)) := by rw [← hH1, Array.getElem?_push_size, ← arrV_new]
  have o1 : ∀ q : Nat, q < H.size → H1[q]? = H[q]? := fun q hq => by rw [← hH1, Array.getElem?_push, if_neg (Nat.ne_of_lt hq)]
  rw [hP.2]
  refine k p e s m args below meth c F X H1 locs ls (mg_push hP z1 o1 ?_) ⟨mg_S_push hS.1 z1 o1, hS.2⟩ hL
  show H1[_]? = some (vp_cell _ _)
  rw [vp_cell_q, ← hP.2]
  exact e1
theorem mg_new {idx ci N kc' ks' r : Nat} {C : String} {T : u_T} {fs : List Value} (ty : Nat → FieldType) (hcl : mm_cl[ci]? = some (C, T, N)) (hin : ∀ w ∈ u_ws C T N, w ∈ mm_all) (hty : ∀ k, k < N → parseFieldDescriptor (T k).2.2.1 = some (ty k)) (lk : Cond.classLink M.1.cls idx C ∈ mm_all) (li : Cond.instantiable C N ∈ mm_all) (lz : Cond.initialized C ∈ mm_all) (hfs : ∀ j, j < N → defaultValue (ty j) = vp_V fs j) (hc' : kc + 1 = kc') (hs' : ks + N = ks') (hc : kc' ≤ E.1.cells) (hs : ks' ≤ E.1.slots) (hd : decode M.2.1 pc = .ok (.new idx, 3)) (hn : pc + 3 = n) (hr : cs.length = r) (hcs : cs ++ [.inr (ci, fs)] = cs') (k : mg_W Γ M E kc' ks' n L (.ref (mm_B Γ + r) :: st) cs') : mg_W Γ M E kc ks pc L st cs := by
  subst hn
  subst hcs
  subst hr
  subst hc'
  subst hs'
  intro p e s m args below meth c F X H locs ls hP hS hL
  have hts := F.2.2.2.2.2.1
  have hKn := F.2.2.2.2.2.2.2.1.1 ci _ hcl
  refine W.newcK F.1 F.2.1 F.2.2.2.2.1 (hts _ lk) (hts _ li) (hts _ lz) rfl hd hc hs hKn.2.1 hP.2 fun H1 kC hkC e1 z1 o1 => ?_
  exact k p e s m args below meth c F X H1 locs ls (mg_push hP (by rw [z1, hP.2]) (by rw [hP.2]; exact o1) ⟨_, hcl, (u_born ty hts hin hKn hkC e1 hty).to hfs⟩) ⟨mg_S_push hS.1 (by rw [z1, hP.2]) (by rw [hP.2]; exact o1), hS.2⟩ hL
theorem mg_blind {q : Nat} : FrameBlind (va_Pc [.ref (mm_B Γ + q)] (fun U => mg_PW Γ cs U.heap ∧ mm_KW Γ U)) := fun a U g mk q => by
  obtain ⟨q0, qP, qK⟩ := q
  exact ⟨q0, qP, mm_KW_same (s := U) (U := U.calling g mk a) rfl qK⟩
theorem mg_after {mc ms : Nat} {p : Program} {e : Env} {R : Room} {s : State} {m : MethodId} {args : Array Value} {below : List Frame} {meth : Method} {c : Code} {H : Heap} {locs : List Loc} {c0 s0 : Nat} {ls : Array Slot} {st0 : List Value} {a : Array Value} {Q : State → Prop} (hr : va_Run p Γ.1 e R s m args below meth c H locs c0 s0 mc ms (F0 m pc ls st0) rest (mg_Q Γ cs' a) (mg_A Γ)) (hS : va_S (mg_A Γ) s.heap H locs)
    (kk : ∀ (H1 : Heap) (locs1 : List Loc), mg_PW Γ cs' H1 → va_S (mg_A Γ) s.heap H1 locs1 → W p Γ.1 e R s m args below meth c H1 locs1 (c0 + mc) (s0 + ms) Q (F0 m (pc + 3) ls rest)) : W p Γ.1 e R s m args below meth c H locs c0 s0 Q (F0 m pc ls st0) := by
  intro T hT X
  obtain ⟨v, st₀, t, T', L1, h0, X', hL, e1, e2, ⟨hv, hP, hz, hk⟩, stp⟩ := hr T hT X
  cases hv
  rw [h0] at hz hk
  obtain ⟨t2, a1, b1⟩ := kk T'.heap (locs ++ L1) (by rw [e1]; exact hP) ⟨Nat.le_trans hS.1 (by rw [e1]; exact hz), fun q h1 h2 => by rw [e1, hk q (Nat.lt_of_lt_of_le h1 hS.1) h2]; exact hS.2.1 q h1 h2, fun q hq => by
      rcases List.mem_append.mp hq with h | h
      · exact hS.2.2 q h
      · exact hL q h⟩ T' rfl X'
  exact ⟨t2, stp t2 a1, b1⟩
def mg_cB (M' : mm_MD) : Prop := Cond.code M'.1 M'.2.1 M'.2.2.1 none ∈ mm_all ∧ M'.2.2.2.1 = none ∧ Cond.initialized M'.1.cls ∈ mm_all ∧ M'.1.cls ≠ "java/lang/invoke/MethodHandle" ∧ M'.1.cls ≠ "java/lang/invoke/VarHandle" ∧ (parseMethodDescriptor M'.1.desc).map (fun d => d.parameters.length) = some 0 ∧ M'.1.name = "<init>" ∧ Cond.instanceMethod M'.1 ∈ mm_all
abbrev mg_hR (M' : mm_MD) (R : Room) (kc ks mc ms : Nat) : Prop := M'.2.2.2.2 + 1 ≤ R.frames ∧ 8 + (M'.2.2.1 + 11) + 36 * M'.2.2.2.2 ≤ R.locals ∧ kc + mc ≤ R.cells ∧ ks + ms ≤ R.slots
theorem mg_callI {idx q mc ms kc' ks' : Nat} (cv : mg_cB M') (lk : Cond.methodLink M.1.cls idx M'.1 ∈ mm_all) (hR : mg_hR M' E.1 kc ks mc ms) (hM : mg_S Γ M' q cs cs' mc ms) (hd : decode M.2.1 pc = .ok (.invokespecial idx, 3)) (hn : pc + 3 = n) (hr : (rest.map fun v => v.category).sum ≤ 8) (hc' : kc + mc = kc') (hs' : ks + ms = ks') (k : mg_W Γ M E kc' ks' n L rest cs') : mg_W Γ M E kc ks pc L (.ref (mm_B Γ + q) :: rest) cs := by
  subst hn
  subst hc'
  subst hs'
  intro p e s m args below meth c F X H locs ls hP hS hL
  obtain ⟨c1, c0, c2, c3, c4, c5, c6, c7⟩ := cv
  have hw := F.2.2.2.2.2.1
  have hK := F.2.2.2.2.2.2.2
  refine mg_after (cs' := cs') (va_runI (As := []) (rest := rest) (nL := M.2.2.1) (Ts := mm_all) (own := M.1.cls) ⟨F.1, F.2.1, F.2.2.2.1, F.2.2.2.2.1, hw⟩ hM ⟨callB_of 0 hw (mm_goodIn (fun _ h => h) (by rw [c0]; exact c1)) (by rw [mm_wsM, c0]) rfl rfl (hw _ c2) (hw _ lk) ⟨c3, c4, c5⟩ ⟨hR.1, hR.2.1⟩, c6, hw _ c7⟩ ⟨mg_blind, fun U hU hW => ⟨rfl, by rw [hU]; exact hP, mm_KW_warm hW hK⟩⟩ rfl rfl hL.1.1 rfl (lv_room hr) hd ⟨hR.2.2.1, hR.2.2.2⟩) hS.1 (fun H1 locs1 hP1 hS1 => ?_)
  exact k p e s m args below meth c F X H1 locs1 ls hP1 ⟨hS1, hS.2⟩ hL
theorem mg_callIN {idx q mc ms kc' ks' : Nat} {host : String} (cv : mg_cB M') (lk : ∀ U : State, mm_KW Γ U → va_Nw (Cond.methodLinkNest M.1.cls idx M'.1 host) U) (hR : mg_hR M' E.1 kc ks mc ms) (hM : mg_S Γ M' q cs cs' mc ms) (hd : decode M.2.1 pc = .ok (.invokespecial idx, 3)) (hn : pc + 3 = n) (hr : (rest.map fun v => v.category).sum ≤ 8) (hc' : kc + mc = kc') (hs' : ks + ms = ks') (k : mg_W Γ M E kc' ks' n L rest cs') : mg_W Γ M E kc ks pc L (.ref (mm_B Γ + q) :: rest) cs := by
  subst hn
  subst hc'
  subst hs'
  intro p e s m args below meth c F X H locs ls hP hS hL
  obtain ⟨c1, c0, c2, c3, c4, c5, c6, c7⟩ := cv
  have hw := F.2.2.2.2.2.1
  have hK := F.2.2.2.2.2.2.2
  have hB : va_CN E.1 s args M.1.cls idx M'.1 host M'.2.1 M'.2.2.1 none (mm_wsM M') (mg_rm M' mc ms) mc ms 0 := by
    refine ⟨⟨rfl, rfl, hR.1, hR.2.1, pay_in hw (mm_goodIn (fun _ h => h) (by rw [c0]; exact c1)), by rw [mm_wsM, c0]; exact List.mem_cons_self⟩, hw _ c1, hw _ c2, ⟨c3, c4⟩, fun sig hs => ?_, va_Nw.use rfl (lk s hK)⟩
    rw [hs] at c5
    exact (Option.some.inj c5).symm
  refine mg_after (cs' := cs') (va_runIN (As := []) (rest := rest) (nL := M.2.2.1) (Ts := mm_all) (own := M.1.cls) ⟨F.1, F.2.1, F.2.2.2.1, F.2.2.2.2.1, hw⟩ hM ⟨hB, c6, hw _ c7⟩ ⟨mg_blind, fun U hU hW => ⟨rfl, by rw [hU]; exact hP, mm_KW_warm hW hK⟩⟩ rfl rfl hL.1.1 rfl (lv_room hr) hd ⟨hR.2.2.1, hR.2.2.2⟩) hS.1 (fun H1 locs1 hP1 hS1 => ?_)
  exact k p e s m args below meth c F X H1 locs1 ls hP1 ⟨hS1, hS.2⟩ hL
end GR
section GE
variable {Γ : mm_Ctx} {M : mm_MD} {pc mc ms q : Nat} {L : List (Option Value)} {cs cs' : List va_E}
theorem mg_vret (hr : M.2.2.2.1 = none) (hd : decode M.2.1 pc = .ok (.return_, 1)) : mg_W Γ M (mg_Em Γ M cs mc ms) mc ms pc L [] cs := by
  intro p e s m args below meth c F X H locs ls hP hS hL
  exact W.vret F.1 F.2.1 (F.2.2.1.trans hr) (fun t ht hW => ⟨rfl, by rw [ht]; exact hP, hS.1.F ht⟩) hS.1.2.2 hd F.2.2.2.2.2.2.1
theorem mg_spec (j : Nat) (hy : plainName M.1.cls = true) (hl : 1 ≤ M.2.2.1) (hq : 0 ≤ cs.length) (k : mg_W Γ M (mg_Em Γ M cs' mc ms) 0 0 0 (some (.ref (mm_B Γ + q)) :: List.replicate j none) [] cs) : mg_S Γ M q cs cs' mc ms := by
  refine Met.ofW (cc := M.2.1) (maxL := M.2.2.1) (ret := M.2.2.2.1) hy rfl ?_
  intro p e s m args' below meth c s₁ B hml hv
  obtain ⟨rfl, hP, hK⟩ := hv
  have hts := atoms_spec (ws := mm_wsM M) B.pre
  rw [lg_entry_eq]
  refine k p e s m _ below meth c ⟨B.exec, B.bytes, B.returns, hml, findClass_of_methodNamed B.named, fun w hw => hts w (List.mem_cons_of_mem _ hw), B.notSynchronized, hK⟩ ⟨fun hi => ((name_of_methodNamed B.named B.method).1).trans hi, trivial⟩ s.heap [] _ hP ⟨va_S.rf, by rw [hP.2]; exact Nat.le_add_right _ _⟩ ?_
  have h0 := lv_entry [.ref (mm_B Γ + q)] (n := M.2.2.1) hl
  refine ⟨⟨h0.1, h0.2.1, fun x hx => h0.2.2 x ?_⟩, fun i v hi => ?_⟩
  · obtain ⟨a, w⟩ := x
    obtain ⟨t, e1, e2⟩ := (mm_kn_mem _ 0 a w).mp hx
    cases t with
    | zero =>
      simp at e2
      subst e2
      have : a = 0 := by omega
      subst this
      exact List.mem_cons_self
    | succ t =>
      rw [List.getElem?_cons_succ] at e2
      have := List.eq_of_mem_replicate (List.mem_of_getElem? e2)
      cases this
  · cases i with
    | zero =>
      simp at hi
      subst hi
      rfl
    | succ t =>
      rw [List.getElem?_cons_succ] at hi
      have := List.eq_of_mem_replicate (List.mem_of_getElem? hi)
      cases this
end GE
end
