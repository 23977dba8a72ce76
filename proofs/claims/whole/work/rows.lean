section
-- ===== PART A: goes FIRST, ahead of the names: the tables' words, and 'selects' of the private methods out of them =====
/-- a private method of a class that the tables say can be made, by its rows of tables_1 -/
def lw_okq (q : MethodName × Nat) : Prop := (q.1.cls ≠ "java/lang/invoke/MethodHandle" ∧ q.1.cls ≠ "java/lang/invoke/VarHandle") ∧ Cond.instantiable q.1.cls q.2 ∈ tables_1 ∧ Cond.privateMethod q.1 ∈ tables_1 ∧ Cond.instanceMethod q.1 ∈ tables_1
theorem lw_p0 : lw_okq (⟨"StackCoder", "translate", "()V"⟩, 6) := ⟨⟨by decide +kernel, by decide +kernel⟩, List.mem_of_getElem? (i := 10) (by decide +kernel), List.mem_of_getElem? (i := 233) (by decide +kernel), List.mem_of_getElem? (i := 234) (by decide +kernel)⟩
theorem lw_p1 : lw_okq (⟨"StackCoder$Flow", "markBlocks", "()V"⟩, 4) := ⟨⟨by decide +kernel, by decide +kernel⟩, List.mem_of_getElem? (i := 50) (by decide +kernel), List.mem_of_getElem? (i := 241) (by decide +kernel), List.mem_of_getElem? (i := 242) (by decide +kernel)⟩
theorem lw_p2 : lw_okq (⟨"StackCoder$Flow", "markBegin", "(I)V"⟩, 4) := ⟨⟨by decide +kernel, by decide +kernel⟩, List.mem_of_getElem? (i := 50) (by decide +kernel), List.mem_of_getElem? (i := 254) (by decide +kernel), List.mem_of_getElem? (i := 255) (by decide +kernel)⟩
theorem lw_p3 : lw_okq (⟨"StackCoder$Flow", "flowBack", "()Z"⟩, 4) := ⟨⟨by decide +kernel, by decide +kernel⟩, List.mem_of_getElem? (i := 50) (by decide +kernel), List.mem_of_getElem? (i := 263) (by decide +kernel), List.mem_of_getElem? (i := 264) (by decide +kernel)⟩
theorem lw_p4 : lw_okq (⟨"StackCoder$Flow", "gatherAfter", "(I)I"⟩, 4) := ⟨⟨by decide +kernel, by decide +kernel⟩, List.mem_of_getElem? (i := 50) (by decide +kernel), List.mem_of_getElem? (i := 267) (by decide +kernel), List.mem_of_getElem? (i := 268) (by decide +kernel)⟩
theorem lw_p5 : lw_okq (⟨"StackCoder$Carrying", "carryInto", "(I)V"⟩, 9) := ⟨⟨by decide +kernel, by decide +kernel⟩, List.mem_of_getElem? (i := 70) (by decide +kernel), List.mem_of_getElem? (i := 295) (by decide +kernel), List.mem_of_getElem? (i := 296) (by decide +kernel)⟩
theorem lw_p6 : lw_okq (⟨"StackCoder$Carrying", "carriable", "(II)I"⟩, 9) := ⟨⟨by decide +kernel, by decide +kernel⟩, List.mem_of_getElem? (i := 70) (by decide +kernel), List.mem_of_getElem? (i := 300) (by decide +kernel), List.mem_of_getElem? (i := 301) (by decide +kernel)⟩
theorem lw_p7 : lw_okq (⟨"StackCoder$Carrying", "lastWriter", "(II)I"⟩, 9) := ⟨⟨by decide +kernel, by decide +kernel⟩, List.mem_of_getElem? (i := 70) (by decide +kernel), List.mem_of_getElem? (i := 304) (by decide +kernel), List.mem_of_getElem? (i := 305) (by decide +kernel)⟩
theorem lw_p8 : lw_okq (⟨"StackCoder$Carrying", "isReadByNoneBut", "(II)Z"⟩, 9) := ⟨⟨by decide +kernel, by decide +kernel⟩, List.mem_of_getElem? (i := 70) (by decide +kernel), List.mem_of_getElem? (i := 317) (by decide +kernel), List.mem_of_getElem? (i := 318) (by decide +kernel)⟩
theorem lw_p9 : lw_okq (⟨"StackCoder$Carrying", "canWait", "(II)Z"⟩, 9) := ⟨⟨by decide +kernel, by decide +kernel⟩, List.mem_of_getElem? (i := 70) (by decide +kernel), List.mem_of_getElem? (i := 330) (by decide +kernel), List.mem_of_getElem? (i := 331) (by decide +kernel)⟩
theorem lw_p10 : lw_okq (⟨"StackCoder$Carrying", "needWith", "(III)I"⟩, 9) := ⟨⟨by decide +kernel, by decide +kernel⟩, List.mem_of_getElem? (i := 70) (by decide +kernel), List.mem_of_getElem? (i := 335) (by decide +kernel), List.mem_of_getElem? (i := 336) (by decide +kernel)⟩
theorem lw_p11 : lw_okq (⟨"StackCoder$Carrying", "thingNeed", "(I)I"⟩, 9) := ⟨⟨by decide +kernel, by decide +kernel⟩, List.mem_of_getElem? (i := 70) (by decide +kernel), List.mem_of_getElem? (i := 339) (by decide +kernel), List.mem_of_getElem? (i := 340) (by decide +kernel)⟩
theorem lw_p12 : lw_okq (⟨"StackCoder$Carrying", "noteTree", "(I)V"⟩, 9) := ⟨⟨by decide +kernel, by decide +kernel⟩, List.mem_of_getElem? (i := 70) (by decide +kernel), List.mem_of_getElem? (i := 347) (by decide +kernel), List.mem_of_getElem? (i := 348) (by decide +kernel)⟩
theorem lw_p13 : lw_okq (⟨"StackCoder$Carrying", "thingReads", "(II)I"⟩, 9) := ⟨⟨by decide +kernel, by decide +kernel⟩, List.mem_of_getElem? (i := 70) (by decide +kernel), List.mem_of_getElem? (i := 351) (by decide +kernel), List.mem_of_getElem? (i := 352) (by decide +kernel)⟩
theorem lw_p14 : lw_okq (⟨"StackCoder$Carrying", "thingLoads", "(I)Z"⟩, 9) := ⟨⟨by decide +kernel, by decide +kernel⟩, List.mem_of_getElem? (i := 70) (by decide +kernel), List.mem_of_getElem? (i := 355) (by decide +kernel), List.mem_of_getElem? (i := 356) (by decide +kernel)⟩
theorem lw_p15 : lw_okq (⟨"StackCoder$StackCode", "widthOf", "(I)I"⟩, 9) := ⟨⟨by decide +kernel, by decide +kernel⟩, List.mem_of_getElem? (i := 104) (by decide +kernel), List.mem_of_getElem? (i := 364) (by decide +kernel), List.mem_of_getElem? (i := 365) (by decide +kernel)⟩
def lw_privs_1 : List (MethodName × Nat) := [(⟨"StackCoder", "translate", "()V"⟩, 6), (⟨"StackCoder$Flow", "markBlocks", "()V"⟩, 4), (⟨"StackCoder$Flow", "markBegin", "(I)V"⟩, 4), (⟨"StackCoder$Flow", "flowBack", "()Z"⟩, 4), (⟨"StackCoder$Flow", "gatherAfter", "(I)I"⟩, 4), (⟨"StackCoder$Carrying", "carryInto", "(I)V"⟩, 9), (⟨"StackCoder$Carrying", "carriable", "(II)I"⟩, 9), (⟨"StackCoder$Carrying", "lastWriter", "(II)I"⟩, 9), (⟨"StackCoder$Carrying", "isReadByNoneBut", "(II)Z"⟩, 9), (⟨"StackCoder$Carrying", "canWait", "(II)Z"⟩, 9), (⟨"StackCoder$Carrying", "needWith", "(III)I"⟩, 9), (⟨"StackCoder$Carrying", "thingNeed", "(I)I"⟩, 9), (⟨"StackCoder$Carrying", "noteTree", "(I)V"⟩, 9), (⟨"StackCoder$Carrying", "thingReads", "(II)I"⟩, 9), (⟨"StackCoder$Carrying", "thingLoads", "(I)Z"⟩, 9), (⟨"StackCoder$StackCode", "widthOf", "(I)I"⟩, 9)]
theorem lw_r1 : ∀ q ∈ lw_privs_1, lw_okq q := List.forall_mem_cons.mpr ⟨lw_p0, List.forall_mem_cons.mpr ⟨lw_p1, List.forall_mem_cons.mpr ⟨lw_p2, List.forall_mem_cons.mpr ⟨lw_p3, List.forall_mem_cons.mpr ⟨lw_p4, List.forall_mem_cons.mpr ⟨lw_p5, List.forall_mem_cons.mpr ⟨lw_p6, List.forall_mem_cons.mpr ⟨lw_p7, List.forall_mem_cons.mpr ⟨lw_p8, List.forall_mem_cons.mpr ⟨lw_p9, List.forall_mem_cons.mpr ⟨lw_p10, List.forall_mem_cons.mpr ⟨lw_p11, List.forall_mem_cons.mpr ⟨lw_p12, List.forall_mem_cons.mpr ⟨lw_p13, List.forall_mem_cons.mpr ⟨lw_p14, List.forall_mem_cons.mpr ⟨lw_p15, fun _ h => absurd h List.not_mem_nil⟩⟩⟩⟩⟩⟩⟩⟩⟩⟩⟩⟩⟩⟩⟩⟩
theorem lw_p16 : lw_okq (⟨"StackCoder$StackCode", "thingWidth", "(II)I"⟩, 9) := ⟨⟨by decide +kernel, by decide +kernel⟩, List.mem_of_getElem? (i := 104) (by decide +kernel), List.mem_of_getElem? (i := 373) (by decide +kernel), List.mem_of_getElem? (i := 374) (by decide +kernel)⟩
theorem lw_p17 : lw_okq (⟨"StackCoder$StackCode", "needsSwap", "(I)Z"⟩, 9) := ⟨⟨by decide +kernel, by decide +kernel⟩, List.mem_of_getElem? (i := 104) (by decide +kernel), List.mem_of_getElem? (i := 382) (by decide +kernel), List.mem_of_getElem? (i := 383) (by decide +kernel)⟩
theorem lw_p18 : lw_okq (⟨"StackCoder$StackCode", "leavesValue", "(I)Z"⟩, 9) := ⟨⟨by decide +kernel, by decide +kernel⟩, List.mem_of_getElem? (i := 104) (by decide +kernel), List.mem_of_getElem? (i := 393) (by decide +kernel), List.mem_of_getElem? (i := 394) (by decide +kernel)⟩
theorem lw_p19 : lw_okq (⟨"StackCoder$StackCode", "writeInstruction", "(I)V"⟩, 9) := ⟨⟨by decide +kernel, by decide +kernel⟩, List.mem_of_getElem? (i := 104) (by decide +kernel), List.mem_of_getElem? (i := 402) (by decide +kernel), List.mem_of_getElem? (i := 403) (by decide +kernel)⟩
theorem lw_p20 : lw_okq (⟨"StackCoder$StackCode", "writeThings", "(II)I"⟩, 9) := ⟨⟨by decide +kernel, by decide +kernel⟩, List.mem_of_getElem? (i := 104) (by decide +kernel), List.mem_of_getElem? (i := 406) (by decide +kernel), List.mem_of_getElem? (i := 407) (by decide +kernel)⟩
theorem lw_p21 : lw_okq (⟨"StackCoder$StackCode", "writeThing", "(III)I"⟩, 9) := ⟨⟨by decide +kernel, by decide +kernel⟩, List.mem_of_getElem? (i := 104) (by decide +kernel), List.mem_of_getElem? (i := 410) (by decide +kernel), List.mem_of_getElem? (i := 411) (by decide +kernel)⟩
theorem lw_p22 : lw_okq (⟨"StackCoder$StackCode", "write", "(III)I"⟩, 9) := ⟨⟨by decide +kernel, by decide +kernel⟩, List.mem_of_getElem? (i := 104) (by decide +kernel), List.mem_of_getElem? (i := 414) (by decide +kernel), List.mem_of_getElem? (i := 415) (by decide +kernel)⟩
theorem lw_p23 : lw_okq (⟨"StackCoder$StackCode", "ownNumber", "(I)I"⟩, 9) := ⟨⟨by decide +kernel, by decide +kernel⟩, List.mem_of_getElem? (i := 104) (by decide +kernel), List.mem_of_getElem? (i := 418) (by decide +kernel), List.mem_of_getElem? (i := 419) (by decide +kernel)⟩
theorem lw_p24 : lw_okq (⟨"StackCoder$StackCode", "startFrom", "(I)I"⟩, 9) := ⟨⟨by decide +kernel, by decide +kernel⟩, List.mem_of_getElem? (i := 104) (by decide +kernel), List.mem_of_getElem? (i := 423) (by decide +kernel), List.mem_of_getElem? (i := 424) (by decide +kernel)⟩
theorem lw_p25 : lw_okq (⟨"StackCoder$StackCode", "writeEnd", "(II)V"⟩, 9) := ⟨⟨by decide +kernel, by decide +kernel⟩, List.mem_of_getElem? (i := 104) (by decide +kernel), List.mem_of_getElem? (i := 428) (by decide +kernel), List.mem_of_getElem? (i := 429) (by decide +kernel)⟩
theorem lw_p26 : lw_okq (⟨"StackCoder$Machine", "reset", "()V"⟩, 7) := ⟨⟨by decide +kernel, by decide +kernel⟩, List.mem_of_getElem? (i := 138) (by decide +kernel), List.mem_of_getElem? (i := 495) (by decide +kernel), List.mem_of_getElem? (i := 496) (by decide +kernel)⟩
theorem lw_p27 : lw_okq (⟨"StackCoder$Machine", "followInstruction", "(LStackCoder$RegisterCode;I)I"⟩, 7) := ⟨⟨by decide +kernel, by decide +kernel⟩, List.mem_of_getElem? (i := 138) (by decide +kernel), List.mem_of_getElem? (i := 500) (by decide +kernel), List.mem_of_getElem? (i := 501) (by decide +kernel)⟩
theorem lw_p28 : lw_okq (⟨"StackCoder$Machine", "print", "(I)V"⟩, 7) := ⟨⟨by decide +kernel, by decide +kernel⟩, List.mem_of_getElem? (i := 138) (by decide +kernel), List.mem_of_getElem? (i := 510) (by decide +kernel), List.mem_of_getElem? (i := 511) (by decide +kernel)⟩
theorem lw_p29 : lw_okq (⟨"StackCoder$Machine", "valueOf", "(III)I"⟩, 7) := ⟨⟨by decide +kernel, by decide +kernel⟩, List.mem_of_getElem? (i := 138) (by decide +kernel), List.mem_of_getElem? (i := 518) (by decide +kernel), List.mem_of_getElem? (i := 519) (by decide +kernel)⟩
theorem lw_p30 : lw_okq (⟨"StackCoder$Machine", "followOperation", "(III)I"⟩, 7) := ⟨⟨by decide +kernel, by decide +kernel⟩, List.mem_of_getElem? (i := 138) (by decide +kernel), List.mem_of_getElem? (i := 535) (by decide +kernel), List.mem_of_getElem? (i := 536) (by decide +kernel)⟩
theorem lw_p31 : lw_okq (⟨"StackCoder$Machine", "push", "(I)V"⟩, 7) := ⟨⟨by decide +kernel, by decide +kernel⟩, List.mem_of_getElem? (i := 138) (by decide +kernel), List.mem_of_getElem? (i := 539) (by decide +kernel), List.mem_of_getElem? (i := 540) (by decide +kernel)⟩
def lw_privs_2 : List (MethodName × Nat) := [(⟨"StackCoder$StackCode", "thingWidth", "(II)I"⟩, 9), (⟨"StackCoder$StackCode", "needsSwap", "(I)Z"⟩, 9), (⟨"StackCoder$StackCode", "leavesValue", "(I)Z"⟩, 9), (⟨"StackCoder$StackCode", "writeInstruction", "(I)V"⟩, 9), (⟨"StackCoder$StackCode", "writeThings", "(II)I"⟩, 9), (⟨"StackCoder$StackCode", "writeThing", "(III)I"⟩, 9), (⟨"StackCoder$StackCode", "write", "(III)I"⟩, 9), (⟨"StackCoder$StackCode", "ownNumber", "(I)I"⟩, 9), (⟨"StackCoder$StackCode", "startFrom", "(I)I"⟩, 9), (⟨"StackCoder$StackCode", "writeEnd", "(II)V"⟩, 9), (⟨"StackCoder$Machine", "reset", "()V"⟩, 7), (⟨"StackCoder$Machine", "followInstruction", "(LStackCoder$RegisterCode;I)I"⟩, 7), (⟨"StackCoder$Machine", "print", "(I)V"⟩, 7), (⟨"StackCoder$Machine", "valueOf", "(III)I"⟩, 7), (⟨"StackCoder$Machine", "followOperation", "(III)I"⟩, 7), (⟨"StackCoder$Machine", "push", "(I)V"⟩, 7)]
theorem lw_r2 : ∀ q ∈ lw_privs_2, lw_okq q := List.forall_mem_cons.mpr ⟨lw_p16, List.forall_mem_cons.mpr ⟨lw_p17, List.forall_mem_cons.mpr ⟨lw_p18, List.forall_mem_cons.mpr ⟨lw_p19, List.forall_mem_cons.mpr ⟨lw_p20, List.forall_mem_cons.mpr ⟨lw_p21, List.forall_mem_cons.mpr ⟨lw_p22, List.forall_mem_cons.mpr ⟨lw_p23, List.forall_mem_cons.mpr ⟨lw_p24, List.forall_mem_cons.mpr ⟨lw_p25, List.forall_mem_cons.mpr ⟨lw_p26, List.forall_mem_cons.mpr ⟨lw_p27, List.forall_mem_cons.mpr ⟨lw_p28, List.forall_mem_cons.mpr ⟨lw_p29, List.forall_mem_cons.mpr ⟨lw_p30, List.forall_mem_cons.mpr ⟨lw_p31, fun _ h => absurd h List.not_mem_nil⟩⟩⟩⟩⟩⟩⟩⟩⟩⟩⟩⟩⟩⟩⟩⟩
theorem lw_p32 : lw_okq (⟨"StackCoder$Machine", "pop", "()I"⟩, 7) := ⟨⟨by decide +kernel, by decide +kernel⟩, List.mem_of_getElem? (i := 138) (by decide +kernel), List.mem_of_getElem? (i := 543) (by decide +kernel), List.mem_of_getElem? (i := 544) (by decide +kernel)⟩
theorem lw_p33 : lw_okq (⟨"StackCoder$Machine", "joinTopTwo", "(I)V"⟩, 7) := ⟨⟨by decide +kernel, by decide +kernel⟩, List.mem_of_getElem? (i := 138) (by decide +kernel), List.mem_of_getElem? (i := 547) (by decide +kernel), List.mem_of_getElem? (i := 548) (by decide +kernel)⟩
theorem lw_p34 : lw_okq (⟨"StackCoderModel", "put", "(IIIII)V"⟩, 26) := ⟨⟨by decide +kernel, by decide +kernel⟩, List.mem_of_getElem? (i := 578) (by decide +kernel), List.mem_of_getElem? (i := 676) (by decide +kernel), List.mem_of_getElem? (i := 677) (by decide +kernel)⟩
theorem lw_p35 : lw_okq (⟨"StackCoderModel", "work", "()V"⟩, 26) := ⟨⟨by decide +kernel, by decide +kernel⟩, List.mem_of_getElem? (i := 578) (by decide +kernel), List.mem_of_getElem? (i := 696) (by decide +kernel), List.mem_of_getElem? (i := 697) (by decide +kernel)⟩
theorem lw_p36 : lw_okq (⟨"StackCoderModel", "findBlocks", "()V"⟩, 26) := ⟨⟨by decide +kernel, by decide +kernel⟩, List.mem_of_getElem? (i := 578) (by decide +kernel), List.mem_of_getElem? (i := 700) (by decide +kernel), List.mem_of_getElem? (i := 701) (by decide +kernel)⟩
theorem lw_p37 : lw_okq (⟨"StackCoderModel", "leaves", "(I)Z"⟩, 26) := ⟨⟨by decide +kernel, by decide +kernel⟩, List.mem_of_getElem? (i := 578) (by decide +kernel), List.mem_of_getElem? (i := 704) (by decide +kernel), List.mem_of_getElem? (i := 705) (by decide +kernel)⟩
theorem lw_p38 : lw_okq (⟨"StackCoderModel", "findAlive", "()V"⟩, 26) := ⟨⟨by decide +kernel, by decide +kernel⟩, List.mem_of_getElem? (i := 578) (by decide +kernel), List.mem_of_getElem? (i := 708) (by decide +kernel), List.mem_of_getElem? (i := 709) (by decide +kernel)⟩
theorem lw_p39 : lw_okq (⟨"StackCoderModel", "behind", "(I)I"⟩, 26) := ⟨⟨by decide +kernel, by decide +kernel⟩, List.mem_of_getElem? (i := 578) (by decide +kernel), List.mem_of_getElem? (i := 712) (by decide +kernel), List.mem_of_getElem? (i := 713) (by decide +kernel)⟩
theorem lw_p40 : lw_okq (⟨"StackCoderModel", "aliveAt", "(I)I"⟩, 26) := ⟨⟨by decide +kernel, by decide +kernel⟩, List.mem_of_getElem? (i := 578) (by decide +kernel), List.mem_of_getElem? (i := 716) (by decide +kernel), List.mem_of_getElem? (i := 717) (by decide +kernel)⟩
theorem lw_p41 : lw_okq (⟨"StackCoderModel", "isWriter", "(I)Z"⟩, 26) := ⟨⟨by decide +kernel, by decide +kernel⟩, List.mem_of_getElem? (i := 578) (by decide +kernel), List.mem_of_getElem? (i := 720) (by decide +kernel), List.mem_of_getElem? (i := 721) (by decide +kernel)⟩
theorem lw_p42 : lw_okq (⟨"StackCoderModel", "readsA", "(I)Z"⟩, 26) := ⟨⟨by decide +kernel, by decide +kernel⟩, List.mem_of_getElem? (i := 578) (by decide +kernel), List.mem_of_getElem? (i := 724) (by decide +kernel), List.mem_of_getElem? (i := 725) (by decide +kernel)⟩
theorem lw_p43 : lw_okq (⟨"StackCoderModel", "readsB", "(I)Z"⟩, 26) := ⟨⟨by decide +kernel, by decide +kernel⟩, List.mem_of_getElem? (i := 578) (by decide +kernel), List.mem_of_getElem? (i := 728) (by decide +kernel), List.mem_of_getElem? (i := 729) (by decide +kernel)⟩
theorem lw_p44 : lw_okq (⟨"StackCoderModel", "settle", "(I)V"⟩, 26) := ⟨⟨by decide +kernel, by decide +kernel⟩, List.mem_of_getElem? (i := 578) (by decide +kernel), List.mem_of_getElem? (i := 732) (by decide +kernel), List.mem_of_getElem? (i := 733) (by decide +kernel)⟩
theorem lw_p45 : lw_okq (⟨"StackCoderModel", "writerBefore", "(II)I"⟩, 26) := ⟨⟨by decide +kernel, by decide +kernel⟩, List.mem_of_getElem? (i := 578) (by decide +kernel), List.mem_of_getElem? (i := 736) (by decide +kernel), List.mem_of_getElem? (i := 737) (by decide +kernel)⟩
theorem lw_p46 : lw_okq (⟨"StackCoderModel", "writes", "(II)Z"⟩, 26) := ⟨⟨by decide +kernel, by decide +kernel⟩, List.mem_of_getElem? (i := 578) (by decide +kernel), List.mem_of_getElem? (i := 740) (by decide +kernel), List.mem_of_getElem? (i := 741) (by decide +kernel)⟩
theorem lw_p47 : lw_okq (⟨"StackCoderModel", "canCarry", "(II)Z"⟩, 26) := ⟨⟨by decide +kernel, by decide +kernel⟩, List.mem_of_getElem? (i := 578) (by decide +kernel), List.mem_of_getElem? (i := 744) (by decide +kernel), List.mem_of_getElem? (i := 745) (by decide +kernel)⟩
def lw_privs_3 : List (MethodName × Nat) := [(⟨"StackCoder$Machine", "pop", "()I"⟩, 7), (⟨"StackCoder$Machine", "joinTopTwo", "(I)V"⟩, 7), (⟨"StackCoderModel", "put", "(IIIII)V"⟩, 26), (⟨"StackCoderModel", "work", "()V"⟩, 26), (⟨"StackCoderModel", "findBlocks", "()V"⟩, 26), (⟨"StackCoderModel", "leaves", "(I)Z"⟩, 26), (⟨"StackCoderModel", "findAlive", "()V"⟩, 26), (⟨"StackCoderModel", "behind", "(I)I"⟩, 26), (⟨"StackCoderModel", "aliveAt", "(I)I"⟩, 26), (⟨"StackCoderModel", "isWriter", "(I)Z"⟩, 26), (⟨"StackCoderModel", "readsA", "(I)Z"⟩, 26), (⟨"StackCoderModel", "readsB", "(I)Z"⟩, 26), (⟨"StackCoderModel", "settle", "(I)V"⟩, 26), (⟨"StackCoderModel", "writerBefore", "(II)I"⟩, 26), (⟨"StackCoderModel", "writes", "(II)Z"⟩, 26), (⟨"StackCoderModel", "canCarry", "(II)Z"⟩, 26)]
theorem lw_r3 : ∀ q ∈ lw_privs_3, lw_okq q := List.forall_mem_cons.mpr ⟨lw_p32, List.forall_mem_cons.mpr ⟨lw_p33, List.forall_mem_cons.mpr ⟨lw_p34, List.forall_mem_cons.mpr ⟨lw_p35, List.forall_mem_cons.mpr ⟨lw_p36, List.forall_mem_cons.mpr ⟨lw_p37, List.forall_mem_cons.mpr ⟨lw_p38, List.forall_mem_cons.mpr ⟨lw_p39, List.forall_mem_cons.mpr ⟨lw_p40, List.forall_mem_cons.mpr ⟨lw_p41, List.forall_mem_cons.mpr ⟨lw_p42, List.forall_mem_cons.mpr ⟨lw_p43, List.forall_mem_cons.mpr ⟨lw_p44, List.forall_mem_cons.mpr ⟨lw_p45, List.forall_mem_cons.mpr ⟨lw_p46, List.forall_mem_cons.mpr ⟨lw_p47, fun _ h => absurd h List.not_mem_nil⟩⟩⟩⟩⟩⟩⟩⟩⟩⟩⟩⟩⟩⟩⟩⟩
theorem lw_p48 : lw_okq (⟨"StackCoderModel", "nextWriter", "(I)I"⟩, 26) := ⟨⟨by decide +kernel, by decide +kernel⟩, List.mem_of_getElem? (i := 578) (by decide +kernel), List.mem_of_getElem? (i := 748) (by decide +kernel), List.mem_of_getElem? (i := 749) (by decide +kernel)⟩
theorem lw_p49 : lw_okq (⟨"StackCoderModel", "blockEnd", "(I)I"⟩, 26) := ⟨⟨by decide +kernel, by decide +kernel⟩, List.mem_of_getElem? (i := 578) (by decide +kernel), List.mem_of_getElem? (i := 752) (by decide +kernel), List.mem_of_getElem? (i := 753) (by decide +kernel)⟩
theorem lw_p50 : lw_okq (⟨"StackCoderModel", "times", "(II)I"⟩, 26) := ⟨⟨by decide +kernel, by decide +kernel⟩, List.mem_of_getElem? (i := 578) (by decide +kernel), List.mem_of_getElem? (i := 756) (by decide +kernel), List.mem_of_getElem? (i := 757) (by decide +kernel)⟩
theorem lw_p51 : lw_okq (⟨"StackCoderModel", "needOf", "(III)I"⟩, 26) := ⟨⟨by decide +kernel, by decide +kernel⟩, List.mem_of_getElem? (i := 578) (by decide +kernel), List.mem_of_getElem? (i := 760) (by decide +kernel), List.mem_of_getElem? (i := 761) (by decide +kernel)⟩
theorem lw_p52 : lw_okq (⟨"StackCoderModel", "writeTree", "(I)V"⟩, 26) := ⟨⟨by decide +kernel, by decide +kernel⟩, List.mem_of_getElem? (i := 578) (by decide +kernel), List.mem_of_getElem? (i := 764) (by decide +kernel), List.mem_of_getElem? (i := 765) (by decide +kernel)⟩
theorem lw_p53 : lw_okq (⟨"StackCoderModel", "emitOperation", "(I)V"⟩, 26) := ⟨⟨by decide +kernel, by decide +kernel⟩, List.mem_of_getElem? (i := 578) (by decide +kernel), List.mem_of_getElem? (i := 768) (by decide +kernel), List.mem_of_getElem? (i := 769) (by decide +kernel)⟩
theorem lw_p54 : lw_okq (⟨"StackCoderModel", "emit", "(II)V"⟩, 26) := ⟨⟨by decide +kernel, by decide +kernel⟩, List.mem_of_getElem? (i := 578) (by decide +kernel), List.mem_of_getElem? (i := 772) (by decide +kernel), List.mem_of_getElem? (i := 773) (by decide +kernel)⟩
theorem lw_p55 : lw_okq (⟨"StackCoderModel", "open", "(II)I"⟩, 26) := ⟨⟨by decide +kernel, by decide +kernel⟩, List.mem_of_getElem? (i := 578) (by decide +kernel), List.mem_of_getElem? (i := 776) (by decide +kernel), List.mem_of_getElem? (i := 777) (by decide +kernel)⟩
theorem lw_p56 : lw_okq (⟨"StackCoderModel", "isWanted", "(I)Z"⟩, 26) := ⟨⟨by decide +kernel, by decide +kernel⟩, List.mem_of_getElem? (i := 578) (by decide +kernel), List.mem_of_getElem? (i := 780) (by decide +kernel), List.mem_of_getElem? (i := 781) (by decide +kernel)⟩
theorem lw_p57 : lw_okq (⟨"StackCoderModel", "runRegisters", "()V"⟩, 26) := ⟨⟨by decide +kernel, by decide +kernel⟩, List.mem_of_getElem? (i := 578) (by decide +kernel), List.mem_of_getElem? (i := 812) (by decide +kernel), List.mem_of_getElem? (i := 813) (by decide +kernel)⟩
theorem lw_p58 : lw_okq (⟨"StackCoderModel", "instruct", "(I)I"⟩, 26) := ⟨⟨by decide +kernel, by decide +kernel⟩, List.mem_of_getElem? (i := 578) (by decide +kernel), List.mem_of_getElem? (i := 816) (by decide +kernel), List.mem_of_getElem? (i := 817) (by decide +kernel)⟩
theorem lw_p59 : lw_okq (⟨"StackCoderModel", "print", "(I)V"⟩, 26) := ⟨⟨by decide +kernel, by decide +kernel⟩, List.mem_of_getElem? (i := 578) (by decide +kernel), List.mem_of_getElem? (i := 820) (by decide +kernel), List.mem_of_getElem? (i := 821) (by decide +kernel)⟩
theorem lw_p60 : lw_okq (⟨"StackCoderModel", "runStack", "()V"⟩, 26) := ⟨⟨by decide +kernel, by decide +kernel⟩, List.mem_of_getElem? (i := 578) (by decide +kernel), List.mem_of_getElem? (i := 827) (by decide +kernel), List.mem_of_getElem? (i := 828) (by decide +kernel)⟩
def lw_privs_4 : List (MethodName × Nat) := [(⟨"StackCoderModel", "nextWriter", "(I)I"⟩, 26), (⟨"StackCoderModel", "blockEnd", "(I)I"⟩, 26), (⟨"StackCoderModel", "times", "(II)I"⟩, 26), (⟨"StackCoderModel", "needOf", "(III)I"⟩, 26), (⟨"StackCoderModel", "writeTree", "(I)V"⟩, 26), (⟨"StackCoderModel", "emitOperation", "(I)V"⟩, 26), (⟨"StackCoderModel", "emit", "(II)V"⟩, 26), (⟨"StackCoderModel", "open", "(II)I"⟩, 26), (⟨"StackCoderModel", "isWanted", "(I)Z"⟩, 26), (⟨"StackCoderModel", "runRegisters", "()V"⟩, 26), (⟨"StackCoderModel", "instruct", "(I)I"⟩, 26), (⟨"StackCoderModel", "print", "(I)V"⟩, 26), (⟨"StackCoderModel", "runStack", "()V"⟩, 26)]
theorem lw_r4 : ∀ q ∈ lw_privs_4, lw_okq q := List.forall_mem_cons.mpr ⟨lw_p48, List.forall_mem_cons.mpr ⟨lw_p49, List.forall_mem_cons.mpr ⟨lw_p50, List.forall_mem_cons.mpr ⟨lw_p51, List.forall_mem_cons.mpr ⟨lw_p52, List.forall_mem_cons.mpr ⟨lw_p53, List.forall_mem_cons.mpr ⟨lw_p54, List.forall_mem_cons.mpr ⟨lw_p55, List.forall_mem_cons.mpr ⟨lw_p56, List.forall_mem_cons.mpr ⟨lw_p57, List.forall_mem_cons.mpr ⟨lw_p58, List.forall_mem_cons.mpr ⟨lw_p59, List.forall_mem_cons.mpr ⟨lw_p60, fun _ h => absurd h List.not_mem_nil⟩⟩⟩⟩⟩⟩⟩⟩⟩⟩⟩⟩⟩
def lw_privs : List (MethodName × Nat) := lw_privs_1 ++ (lw_privs_2 ++ (lw_privs_3 ++ (lw_privs_4)))
def lw_tbl : List Cond := k2_sels lw_privs ++ tables_1
theorem lw_privs_ok : ∀ q ∈ lw_privs, lw_okq q := by
  show ∀ q ∈ lw_privs_1 ++ (lw_privs_2 ++ (lw_privs_3 ++ (lw_privs_4))), lw_okq q
  exact List.forall_mem_append.mpr ⟨lw_r1, List.forall_mem_append.mpr ⟨lw_r2, List.forall_mem_append.mpr ⟨lw_r3, lw_r4⟩⟩⟩
end
section
/-- the words that stay good -/
def gt : List Cond := lw_tbl.filter goodWord
theorem mem_gt {w : Cond} (k : Nat) (h : lw_tbl[k]? = some w) (hg : goodWord w = true) : w ∈ gt := List.mem_filter.mpr ⟨List.mem_of_getElem? h, hg⟩
theorem gt_in {w : Cond} (h : w ∈ gt) : w ∈ lw_tbl := (List.mem_filter.mp h).1
theorem gt_ok {w : Cond} (h : w ∈ gt) : (w.onTables && w.keeps) = true ∨ ∃ ty, w = .arrayClass ty := good_of_word (List.mem_filter.mp h).2
theorem gt_all {ws : List Cond} (h : ∀ w ∈ ws, w ∈ gt) : GoodIn gt ws := fun w hw => ⟨h w hw, gt_ok (h w hw)⟩
theorem gt_c {c : Cond} (h : c ∈ gt) : ∀ w ∈ c :: gt, w ∈ gt := List.forall_mem_cons.mpr ⟨h, fun _ h => h⟩
theorem gd_V {own : String} {idx : Nat} {C : String} {y : MethodName} {b : ByteArray} {n : Nat} {r : Option FieldType} (h1 : Cond.methodLink own idx y ∈ gt) (h2 : Cond.instanceMethod y ∈ gt) (h3 : Cond.selects C y y ∈ gt) (h4 : Cond.initialized C ∈ gt) (h5 : Cond.code y b n r ∈ gt) : GoodIn gt (wsV own idx C y (.code y b n r :: gt)) := gt_all (List.forall_mem_cons.mpr ⟨h1, List.forall_mem_cons.mpr ⟨h2, List.forall_mem_cons.mpr ⟨h3, List.forall_mem_cons.mpr ⟨h4, gt_c h5⟩⟩⟩⟩)
theorem gd_S {own : String} {idx : Nat} {y : MethodName} {b : ByteArray} {n : Nat} {r : Option FieldType} (h1 : Cond.methodLink own idx y ∈ gt) (h2 : Cond.static y ∈ gt) (h4 : Cond.initialized own ∈ gt) (h5 : Cond.code y b n r ∈ gt) : GoodIn gt (wsS own idx y (.code y b n r :: gt)) := gt_all (List.forall_mem_cons.mpr ⟨h1, List.forall_mem_cons.mpr ⟨h2, List.forall_mem_cons.mpr ⟨h4, gt_c h5⟩⟩⟩)
theorem gd_T {own : String} {idx : Nat} {y : MethodName} {b : ByteArray} {n : Nat} {r : Option FieldType} (h1 : Cond.methodLink own idx y ∈ gt) (h2 : Cond.static y ∈ gt) (h4 : Cond.initialized y.cls ∈ gt) (h5 : Cond.code y b n r ∈ gt) : GoodIn gt (va_wsS own idx y (.code y b n r :: gt)) := gt_all (List.forall_mem_cons.mpr ⟨h1, List.forall_mem_cons.mpr ⟨h2, List.forall_mem_cons.mpr ⟨h4, gt_c h5⟩⟩⟩)
def R_SC : String := "StackCoder"
def T_SC : u_T := fun k => match k with
  | 0 => ("StackCoder", "source", "LStackCoder$RegisterCode;", true)
  | 1 => ("StackCoder", "flow", "LStackCoder$Flow;", true)
  | 2 => ("StackCoder", "carrying", "LStackCoder$Carrying;", true)
  | 3 => ("StackCoder", "target", "LStackCoder$StackCode;", true)
  | 4 => ("StackCoder", "machine", "LStackCoder$Machine;", true)
  | _ => ("StackCoder", "stale", "Z", false)
def t_SC : Nat → FieldType := fun k => match k with
  | 0 => .object "StackCoder$RegisterCode"
  | 1 => .object "StackCoder$Flow"
  | 2 => .object "StackCoder$Carrying"
  | 3 => .object "StackCoder$StackCode"
  | 4 => .object "StackCoder$Machine"
  | _ => .boolean
set_option maxRecDepth 20000 in
theorem n_SC : ∀ a, a < 6 → ∀ b, b < 6 → a ≠ b → (T_SC a).2.1 ≠ (T_SC b).2.1 := by decide +kernel
theorem t_SC_ok : ∀ k, k < 6 → parseFieldDescriptor (T_SC k).2.2.1 = some (t_SC k) := by decide +kernel
def R_RC : String := "StackCoder$RegisterCode"
def T_RC : u_T := fun k => match k with
  | 0 => ("StackCoder$RegisterCode", "operations", "[I", true)
  | 1 => ("StackCoder$RegisterCode", "ds", "[I", true)
  | 2 => ("StackCoder$RegisterCode", "as", "[I", true)
  | 3 => ("StackCoder$RegisterCode", "bs", "[I", true)
  | 4 => ("StackCoder$RegisterCode", "written", "[I", true)
  | 5 => ("StackCoder$RegisterCode", "readA", "[I", true)
  | 6 => ("StackCoder$RegisterCode", "readB", "[I", true)
  | _ => ("StackCoder$RegisterCode", "count", "I", false)
def t_RC : Nat → FieldType := fun k => match k with
  | 0 => .array .int
  | 1 => .array .int
  | 2 => .array .int
  | 3 => .array .int
  | 4 => .array .int
  | 5 => .array .int
  | 6 => .array .int
  | _ => .int
set_option maxRecDepth 20000 in
theorem n_RC : ∀ a, a < 8 → ∀ b, b < 8 → a ≠ b → (T_RC a).2.1 ≠ (T_RC b).2.1 := by decide +kernel
theorem t_RC_ok : ∀ k, k < 8 → parseFieldDescriptor (T_RC k).2.2.1 = some (t_RC k) := by decide +kernel
def R_FL : String := "StackCoder$Flow"
def T_FL : u_T := fun k => match k with
  | 0 => ("StackCoder$Flow", "code", "LStackCoder$RegisterCode;", true)
  | 1 => ("StackCoder$Flow", "begins", "[Z", true)
  | 2 => ("StackCoder$Flow", "before", "[I", true)
  | _ => ("StackCoder$Flow", "after", "[I", true)
def t_FL : Nat → FieldType := fun k => match k with
  | 0 => .object "StackCoder$RegisterCode"
  | 1 => .array .boolean
  | 2 => .array .int
  | _ => .array .int
set_option maxRecDepth 20000 in
theorem n_FL : ∀ a, a < 4 → ∀ b, b < 4 → a ≠ b → (T_FL a).2.1 ≠ (T_FL b).2.1 := by decide +kernel
theorem t_FL_ok : ∀ k, k < 4 → parseFieldDescriptor (T_FL k).2.2.1 = some (t_FL k) := by decide +kernel
def R_CA : String := "StackCoder$Carrying"
def T_CA : u_T := fun k => match k with
  | 0 => ("StackCoder$Carrying", "code", "LStackCoder$RegisterCode;", true)
  | 1 => ("StackCoder$Carrying", "flow", "LStackCoder$Flow;", true)
  | 2 => ("StackCoder$Carrying", "mostNeed", "I", true)
  | 3 => ("StackCoder$Carrying", "goals", "[I", true)
  | 4 => ("StackCoder$Carrying", "carriedAsA", "[I", true)
  | 5 => ("StackCoder$Carrying", "carriedAsB", "[I", true)
  | 6 => ("StackCoder$Carrying", "needs", "[I", true)
  | 7 => ("StackCoder$Carrying", "treeReads", "[I", true)
  | _ => ("StackCoder$Carrying", "treeLoads", "[Z", true)
def t_CA : Nat → FieldType := fun k => match k with
  | 0 => .object "StackCoder$RegisterCode"
  | 1 => .object "StackCoder$Flow"
  | 2 => .int
  | 3 => .array .int
  | 4 => .array .int
  | 5 => .array .int
  | 6 => .array .int
  | 7 => .array .int
  | _ => .array .boolean
set_option maxRecDepth 20000 in
theorem n_CA : ∀ a, a < 9 → ∀ b, b < 9 → a ≠ b → (T_CA a).2.1 ≠ (T_CA b).2.1 := by decide +kernel
theorem t_CA_ok : ∀ k, k < 9 → parseFieldDescriptor (T_CA k).2.2.1 = some (t_CA k) := by decide +kernel
def R_ST : String := "StackCoder$StackCode"
def T_ST : u_T := fun k => match k with
  | 0 => ("StackCoder$StackCode", "code", "LStackCoder$RegisterCode;", true)
  | 1 => ("StackCoder$StackCode", "flow", "LStackCoder$Flow;", true)
  | 2 => ("StackCoder$StackCode", "carrying", "LStackCoder$Carrying;", true)
  | 3 => ("StackCoder$StackCode", "operations", "[I", true)
  | 4 => ("StackCoder$StackCode", "numbers", "[I", true)
  | 5 => ("StackCoder$StackCode", "widths", "[I", true)
  | 6 => ("StackCoder$StackCode", "starts", "[I", true)
  | 7 => ("StackCoder$StackCode", "endPlace", "I", false)
  | _ => ("StackCoder$StackCode", "puts", "I", false)
def t_ST : Nat → FieldType := fun k => match k with
  | 0 => .object "StackCoder$RegisterCode"
  | 1 => .object "StackCoder$Flow"
  | 2 => .object "StackCoder$Carrying"
  | 3 => .array .int
  | 4 => .array .int
  | 5 => .array .int
  | 6 => .array .int
  | 7 => .int
  | _ => .int
set_option maxRecDepth 20000 in
theorem n_ST : ∀ a, a < 9 → ∀ b, b < 9 → a ≠ b → (T_ST a).2.1 ≠ (T_ST b).2.1 := by decide +kernel
theorem t_ST_ok : ∀ k, k < 9 → parseFieldDescriptor (T_ST k).2.2.1 = some (t_ST k) := by decide +kernel
def R_MA : String := "StackCoder$Machine"
def T_MA : u_T := fun k => match k with
  | 0 => ("StackCoder$Machine", "registers", "[I", true)
  | 1 => ("StackCoder$Machine", "cells", "[I", true)
  | 2 => ("StackCoder$Machine", "kept", "[I", true)
  | 3 => ("StackCoder$Machine", "stack", "[I", true)
  | 4 => ("StackCoder$Machine", "height", "I", false)
  | 5 => ("StackCoder$Machine", "printed", "I", false)
  | _ => ("StackCoder$Machine", "steps", "I", false)
def t_MA : Nat → FieldType := fun k => match k with
  | 0 => .array .int
  | 1 => .array .int
  | 2 => .array .int
  | 3 => .array .int
  | 4 => .int
  | 5 => .int
  | _ => .int
set_option maxRecDepth 20000 in
theorem n_MA : ∀ a, a < 7 → ∀ b, b < 7 → a ≠ b → (T_MA a).2.1 ≠ (T_MA b).2.1 := by decide +kernel
theorem t_MA_ok : ∀ k, k < 7 → parseFieldDescriptor (T_MA k).2.2.1 = some (t_MA k) := by decide +kernel
def R_MO : String := "StackCoderModel"
def T_MO : u_T := fun k => match k with
  | 0 => ("StackCoderModel", "most", "I", true)
  | 1 => ("StackCoderModel", "size", "I", false)
  | 2 => ("StackCoderModel", "operation", "[I", true)
  | 3 => ("StackCoderModel", "d", "[I", true)
  | 4 => ("StackCoderModel", "a", "[I", true)
  | 5 => ("StackCoderModel", "b", "[I", true)
  | 6 => ("StackCoderModel", "known", "Z", false)
  | 7 => ("StackCoderModel", "begins", "[Z", true)
  | 8 => ("StackCoderModel", "alive", "[I", true)
  | 9 => ("StackCoderModel", "into", "[I", true)
  | 10 => ("StackCoderModel", "forA", "[I", true)
  | 11 => ("StackCoderModel", "forB", "[I", true)
  | 12 => ("StackCoderModel", "needs", "[I", true)
  | 13 => ("StackCoderModel", "reads", "[I", true)
  | 14 => ("StackCoderModel", "loads", "[Z", true)
  | 15 => ("StackCoderModel", "length", "I", false)
  | 16 => ("StackCoderModel", "op", "[I", true)
  | 17 => ("StackCoderModel", "number", "[I", true)
  | 18 => ("StackCoderModel", "place", "[I", true)
  | 19 => ("StackCoderModel", "todo", "[I", true)
  | 20 => ("StackCoderModel", "printed", "I", false)
  | 21 => ("StackCoderModel", "outs", "[I", true)
  | 22 => ("StackCoderModel", "done", "I", false)
  | 23 => ("StackCoderModel", "memory", "[I", true)
  | 24 => ("StackCoderModel", "register", "[I", true)
  | _ => ("StackCoderModel", "stack", "[I", true)
def t_MO : Nat → FieldType := fun k => match k with
  | 0 => .int
  | 1 => .int
  | 2 => .array .int
  | 3 => .array .int
  | 4 => .array .int
  | 5 => .array .int
  | 6 => .boolean
  | 7 => .array .boolean
  | 8 => .array .int
  | 9 => .array .int
  | 10 => .array .int
  | 11 => .array .int
  | 12 => .array .int
  | 13 => .array .int
  | 14 => .array .boolean
  | 15 => .int
  | 16 => .array .int
  | 17 => .array .int
  | 18 => .array .int
  | 19 => .array .int
  | 20 => .int
  | 21 => .array .int
  | 22 => .int
  | 23 => .array .int
  | 24 => .array .int
  | _ => .array .int
set_option maxRecDepth 20000 in
theorem n_MO : ∀ a, a < 26 → ∀ b, b < 26 → a ≠ b → (T_MO a).2.1 ≠ (T_MO b).2.1 := by decide +kernel
theorem t_MO_ok : ∀ k, k < 26 → parseFieldDescriptor (T_MO k).2.2.1 = some (t_MO k) := by decide +kernel
abbrev vwCl : List vw_C := [(R_SC, T_SC, 6), (R_RC, T_RC, 8), (R_FL, T_FL, 4), (R_CA, T_CA, 9), (R_ST, T_ST, 9), (R_MA, T_MA, 7), (R_MO, T_MO, 26)]
def R_LA : String := "StackCoderLaw"
abbrev b_SC_init : ByteArray := prog_1_method_1_code
def y_SC_init : MethodName := ⟨R_SC, "<init>", "(I)V"⟩
abbrev ws_SC_init : List Cond := .code y_SC_init b_SC_init 3 none :: gt
theorem hs_SC_init : y_SC_init.cls = R_SC ∧ y_SC_init.cls ≠ "java/lang/invoke/MethodHandle" ∧ y_SC_init.cls ≠ "java/lang/invoke/VarHandle" ∧ (parseMethodDescriptor y_SC_init.desc).map (fun d => d.parameters.length) = some 1 := by decide +kernel
theorem ht_SC_init : y_SC_init.cls ≠ "java/lang/invoke/MethodHandle" ∧ y_SC_init.cls ≠ "java/lang/invoke/VarHandle" ∧ (parseMethodDescriptor y_SC_init.desc).map (fun d => d.parameters.length) = some 1 := hs_SC_init.2
abbrev b_SC_add : ByteArray := prog_1_method_2_code
def y_SC_add : MethodName := ⟨R_SC, "add", "(IIII)I"⟩
abbrev ws_SC_add : List Cond := .code y_SC_add b_SC_add 6 (some .int) :: gt
theorem hs_SC_add : y_SC_add.cls = R_SC ∧ y_SC_add.cls ≠ "java/lang/invoke/MethodHandle" ∧ y_SC_add.cls ≠ "java/lang/invoke/VarHandle" ∧ (parseMethodDescriptor y_SC_add.desc).map (fun d => d.parameters.length) = some 4 := by decide +kernel
theorem ht_SC_add : y_SC_add.cls ≠ "java/lang/invoke/MethodHandle" ∧ y_SC_add.cls ≠ "java/lang/invoke/VarHandle" ∧ (parseMethodDescriptor y_SC_add.desc).map (fun d => d.parameters.length) = some 4 := hs_SC_add.2
abbrev b_SC_set : ByteArray := prog_1_method_3_code
def y_SC_set : MethodName := ⟨R_SC, "set", "(IIIII)Z"⟩
abbrev ws_SC_set : List Cond := .code y_SC_set b_SC_set 6 (some .boolean) :: gt
theorem hs_SC_set : y_SC_set.cls = R_SC ∧ y_SC_set.cls ≠ "java/lang/invoke/MethodHandle" ∧ y_SC_set.cls ≠ "java/lang/invoke/VarHandle" ∧ (parseMethodDescriptor y_SC_set.desc).map (fun d => d.parameters.length) = some 5 := by decide +kernel
theorem ht_SC_set : y_SC_set.cls ≠ "java/lang/invoke/MethodHandle" ∧ y_SC_set.cls ≠ "java/lang/invoke/VarHandle" ∧ (parseMethodDescriptor y_SC_set.desc).map (fun d => d.parameters.length) = some 5 := hs_SC_set.2
abbrev b_SC_cut : ByteArray := prog_1_method_4_code
def y_SC_cut : MethodName := ⟨R_SC, "cut", "(I)Z"⟩
abbrev ws_SC_cut : List Cond := .code y_SC_cut b_SC_cut 2 (some .boolean) :: gt
theorem hs_SC_cut : y_SC_cut.cls = R_SC ∧ y_SC_cut.cls ≠ "java/lang/invoke/MethodHandle" ∧ y_SC_cut.cls ≠ "java/lang/invoke/VarHandle" ∧ (parseMethodDescriptor y_SC_cut.desc).map (fun d => d.parameters.length) = some 1 := by decide +kernel
theorem ht_SC_cut : y_SC_cut.cls ≠ "java/lang/invoke/MethodHandle" ∧ y_SC_cut.cls ≠ "java/lang/invoke/VarHandle" ∧ (parseMethodDescriptor y_SC_cut.desc).map (fun d => d.parameters.length) = some 1 := hs_SC_cut.2
abbrev b_SC_size : ByteArray := prog_1_method_5_code
def y_SC_size : MethodName := ⟨R_SC, "size", "()I"⟩
abbrev ws_SC_size : List Cond := .code y_SC_size b_SC_size 1 (some .int) :: gt
theorem hs_SC_size : y_SC_size.cls = R_SC ∧ y_SC_size.cls ≠ "java/lang/invoke/MethodHandle" ∧ y_SC_size.cls ≠ "java/lang/invoke/VarHandle" ∧ (parseMethodDescriptor y_SC_size.desc).map (fun d => d.parameters.length) = some 0 := by decide +kernel
theorem ht_SC_size : y_SC_size.cls ≠ "java/lang/invoke/MethodHandle" ∧ y_SC_size.cls ≠ "java/lang/invoke/VarHandle" ∧ (parseMethodDescriptor y_SC_size.desc).map (fun d => d.parameters.length) = some 0 := hs_SC_size.2
abbrev b_SC_length : ByteArray := prog_1_method_6_code
def y_SC_length : MethodName := ⟨R_SC, "length", "()I"⟩
abbrev ws_SC_length : List Cond := .code y_SC_length b_SC_length 1 (some .int) :: gt
theorem hs_SC_length : y_SC_length.cls = R_SC ∧ y_SC_length.cls ≠ "java/lang/invoke/MethodHandle" ∧ y_SC_length.cls ≠ "java/lang/invoke/VarHandle" ∧ (parseMethodDescriptor y_SC_length.desc).map (fun d => d.parameters.length) = some 0 := by decide +kernel
theorem ht_SC_length : y_SC_length.cls ≠ "java/lang/invoke/MethodHandle" ∧ y_SC_length.cls ≠ "java/lang/invoke/VarHandle" ∧ (parseMethodDescriptor y_SC_length.desc).map (fun d => d.parameters.length) = some 0 := hs_SC_length.2
abbrev b_SC_code : ByteArray := prog_1_method_7_code
def y_SC_code : MethodName := ⟨R_SC, "code", "(I)I"⟩
abbrev ws_SC_code : List Cond := .code y_SC_code b_SC_code 2 (some .int) :: gt
theorem hs_SC_code : y_SC_code.cls = R_SC ∧ y_SC_code.cls ≠ "java/lang/invoke/MethodHandle" ∧ y_SC_code.cls ≠ "java/lang/invoke/VarHandle" ∧ (parseMethodDescriptor y_SC_code.desc).map (fun d => d.parameters.length) = some 1 := by decide +kernel
theorem ht_SC_code : y_SC_code.cls ≠ "java/lang/invoke/MethodHandle" ∧ y_SC_code.cls ≠ "java/lang/invoke/VarHandle" ∧ (parseMethodDescriptor y_SC_code.desc).map (fun d => d.parameters.length) = some 1 := hs_SC_code.2
abbrev b_SC_carried : ByteArray := prog_1_method_8_code
def y_SC_carried : MethodName := ⟨R_SC, "carried", "(I)I"⟩
abbrev ws_SC_carried : List Cond := .code y_SC_carried b_SC_carried 2 (some .int) :: gt
theorem hs_SC_carried : y_SC_carried.cls = R_SC ∧ y_SC_carried.cls ≠ "java/lang/invoke/MethodHandle" ∧ y_SC_carried.cls ≠ "java/lang/invoke/VarHandle" ∧ (parseMethodDescriptor y_SC_carried.desc).map (fun d => d.parameters.length) = some 1 := by decide +kernel
theorem ht_SC_carried : y_SC_carried.cls ≠ "java/lang/invoke/MethodHandle" ∧ y_SC_carried.cls ≠ "java/lang/invoke/VarHandle" ∧ (parseMethodDescriptor y_SC_carried.desc).map (fun d => d.parameters.length) = some 1 := hs_SC_carried.2
abbrev b_SC_need : ByteArray := prog_1_method_9_code
def y_SC_need : MethodName := ⟨R_SC, "need", "(I)I"⟩
abbrev ws_SC_need : List Cond := .code y_SC_need b_SC_need 2 (some .int) :: gt
theorem hs_SC_need : y_SC_need.cls = R_SC ∧ y_SC_need.cls ≠ "java/lang/invoke/MethodHandle" ∧ y_SC_need.cls ≠ "java/lang/invoke/VarHandle" ∧ (parseMethodDescriptor y_SC_need.desc).map (fun d => d.parameters.length) = some 1 := by decide +kernel
theorem ht_SC_need : y_SC_need.cls ≠ "java/lang/invoke/MethodHandle" ∧ y_SC_need.cls ≠ "java/lang/invoke/VarHandle" ∧ (parseMethodDescriptor y_SC_need.desc).map (fun d => d.parameters.length) = some 1 := hs_SC_need.2
abbrev b_SC_live : ByteArray := prog_1_method_10_code
def y_SC_live : MethodName := ⟨R_SC, "live", "(I)I"⟩
abbrev ws_SC_live : List Cond := .code y_SC_live b_SC_live 2 (some .int) :: gt
theorem hs_SC_live : y_SC_live.cls = R_SC ∧ y_SC_live.cls ≠ "java/lang/invoke/MethodHandle" ∧ y_SC_live.cls ≠ "java/lang/invoke/VarHandle" ∧ (parseMethodDescriptor y_SC_live.desc).map (fun d => d.parameters.length) = some 1 := by decide +kernel
theorem ht_SC_live : y_SC_live.cls ≠ "java/lang/invoke/MethodHandle" ∧ y_SC_live.cls ≠ "java/lang/invoke/VarHandle" ∧ (parseMethodDescriptor y_SC_live.desc).map (fun d => d.parameters.length) = some 1 := hs_SC_live.2
abbrev b_SC_stores : ByteArray := prog_1_method_11_code
def y_SC_stores : MethodName := ⟨R_SC, "stores", "()I"⟩
abbrev ws_SC_stores : List Cond := .code y_SC_stores b_SC_stores 1 (some .int) :: gt
theorem hs_SC_stores : y_SC_stores.cls = R_SC ∧ y_SC_stores.cls ≠ "java/lang/invoke/MethodHandle" ∧ y_SC_stores.cls ≠ "java/lang/invoke/VarHandle" ∧ (parseMethodDescriptor y_SC_stores.desc).map (fun d => d.parameters.length) = some 0 := by decide +kernel
theorem ht_SC_stores : y_SC_stores.cls ≠ "java/lang/invoke/MethodHandle" ∧ y_SC_stores.cls ≠ "java/lang/invoke/VarHandle" ∧ (parseMethodDescriptor y_SC_stores.desc).map (fun d => d.parameters.length) = some 0 := hs_SC_stores.2
abbrev b_SC_depth : ByteArray := prog_1_method_12_code
def y_SC_depth : MethodName := ⟨R_SC, "depth", "()I"⟩
abbrev ws_SC_depth : List Cond := .code y_SC_depth b_SC_depth 1 (some .int) :: gt
theorem hs_SC_depth : y_SC_depth.cls = R_SC ∧ y_SC_depth.cls ≠ "java/lang/invoke/MethodHandle" ∧ y_SC_depth.cls ≠ "java/lang/invoke/VarHandle" ∧ (parseMethodDescriptor y_SC_depth.desc).map (fun d => d.parameters.length) = some 0 := by decide +kernel
theorem ht_SC_depth : y_SC_depth.cls ≠ "java/lang/invoke/MethodHandle" ∧ y_SC_depth.cls ≠ "java/lang/invoke/VarHandle" ∧ (parseMethodDescriptor y_SC_depth.desc).map (fun d => d.parameters.length) = some 0 := hs_SC_depth.2
abbrev b_SC_run : ByteArray := prog_1_method_13_code
def y_SC_run : MethodName := ⟨R_SC, "run", "(I)I"⟩
abbrev ws_SC_run : List Cond := .code y_SC_run b_SC_run 2 (some .int) :: gt
theorem hs_SC_run : y_SC_run.cls = R_SC ∧ y_SC_run.cls ≠ "java/lang/invoke/MethodHandle" ∧ y_SC_run.cls ≠ "java/lang/invoke/VarHandle" ∧ (parseMethodDescriptor y_SC_run.desc).map (fun d => d.parameters.length) = some 1 := by decide +kernel
theorem ht_SC_run : y_SC_run.cls ≠ "java/lang/invoke/MethodHandle" ∧ y_SC_run.cls ≠ "java/lang/invoke/VarHandle" ∧ (parseMethodDescriptor y_SC_run.desc).map (fun d => d.parameters.length) = some 1 := hs_SC_run.2
abbrev b_SC_out : ByteArray := prog_1_method_14_code
def y_SC_out : MethodName := ⟨R_SC, "out", "(I)I"⟩
abbrev ws_SC_out : List Cond := .code y_SC_out b_SC_out 2 (some .int) :: gt
theorem hs_SC_out : y_SC_out.cls = R_SC ∧ y_SC_out.cls ≠ "java/lang/invoke/MethodHandle" ∧ y_SC_out.cls ≠ "java/lang/invoke/VarHandle" ∧ (parseMethodDescriptor y_SC_out.desc).map (fun d => d.parameters.length) = some 1 := by decide +kernel
theorem ht_SC_out : y_SC_out.cls ≠ "java/lang/invoke/MethodHandle" ∧ y_SC_out.cls ≠ "java/lang/invoke/VarHandle" ∧ (parseMethodDescriptor y_SC_out.desc).map (fun d => d.parameters.length) = some 1 := hs_SC_out.2
abbrev b_SC_steps : ByteArray := prog_1_method_15_code
def y_SC_steps : MethodName := ⟨R_SC, "steps", "()I"⟩
abbrev ws_SC_steps : List Cond := .code y_SC_steps b_SC_steps 1 (some .int) :: gt
theorem hs_SC_steps : y_SC_steps.cls = R_SC ∧ y_SC_steps.cls ≠ "java/lang/invoke/MethodHandle" ∧ y_SC_steps.cls ≠ "java/lang/invoke/VarHandle" ∧ (parseMethodDescriptor y_SC_steps.desc).map (fun d => d.parameters.length) = some 0 := by decide +kernel
theorem ht_SC_steps : y_SC_steps.cls ≠ "java/lang/invoke/MethodHandle" ∧ y_SC_steps.cls ≠ "java/lang/invoke/VarHandle" ∧ (parseMethodDescriptor y_SC_steps.desc).map (fun d => d.parameters.length) = some 0 := hs_SC_steps.2
abbrev b_SC_cell : ByteArray := prog_1_method_16_code
def y_SC_cell : MethodName := ⟨R_SC, "cell", "(I)I"⟩
abbrev ws_SC_cell : List Cond := .code y_SC_cell b_SC_cell 2 (some .int) :: gt
theorem hs_SC_cell : y_SC_cell.cls = R_SC ∧ y_SC_cell.cls ≠ "java/lang/invoke/MethodHandle" ∧ y_SC_cell.cls ≠ "java/lang/invoke/VarHandle" ∧ (parseMethodDescriptor y_SC_cell.desc).map (fun d => d.parameters.length) = some 1 := by decide +kernel
theorem ht_SC_cell : y_SC_cell.cls ≠ "java/lang/invoke/MethodHandle" ∧ y_SC_cell.cls ≠ "java/lang/invoke/VarHandle" ∧ (parseMethodDescriptor y_SC_cell.desc).map (fun d => d.parameters.length) = some 1 := hs_SC_cell.2
abbrev b_SC_translate : ByteArray := prog_1_method_17_code
def y_SC_translate : MethodName := ⟨R_SC, "translate", "()V"⟩
abbrev ws_SC_translate : List Cond := .code y_SC_translate b_SC_translate 1 none :: gt
theorem hs_SC_translate : y_SC_translate.cls = R_SC ∧ y_SC_translate.cls ≠ "java/lang/invoke/MethodHandle" ∧ y_SC_translate.cls ≠ "java/lang/invoke/VarHandle" ∧ (parseMethodDescriptor y_SC_translate.desc).map (fun d => d.parameters.length) = some 0 := by decide +kernel
theorem ht_SC_translate : y_SC_translate.cls ≠ "java/lang/invoke/MethodHandle" ∧ y_SC_translate.cls ≠ "java/lang/invoke/VarHandle" ∧ (parseMethodDescriptor y_SC_translate.desc).map (fun d => d.parameters.length) = some 0 := hs_SC_translate.2
abbrev b_RC_init : ByteArray := prog_5_method_1_code
def y_RC_init : MethodName := ⟨R_RC, "<init>", "()V"⟩
abbrev ws_RC_init : List Cond := .code y_RC_init b_RC_init 1 none :: gt
theorem hs_RC_init : y_RC_init.cls = R_RC ∧ y_RC_init.cls ≠ "java/lang/invoke/MethodHandle" ∧ y_RC_init.cls ≠ "java/lang/invoke/VarHandle" ∧ (parseMethodDescriptor y_RC_init.desc).map (fun d => d.parameters.length) = some 0 := by decide +kernel
theorem ht_RC_init : y_RC_init.cls ≠ "java/lang/invoke/MethodHandle" ∧ y_RC_init.cls ≠ "java/lang/invoke/VarHandle" ∧ (parseMethodDescriptor y_RC_init.desc).map (fun d => d.parameters.length) = some 0 := hs_RC_init.2
abbrev b_RC_fits : ByteArray := prog_5_method_2_code
def y_RC_fits : MethodName := ⟨R_RC, "fits", "(IIII)Z"⟩
abbrev ws_RC_fits : List Cond := .code y_RC_fits b_RC_fits 4 (some .boolean) :: gt
theorem hs_RC_fits : y_RC_fits.cls = R_RC ∧ y_RC_fits.cls ≠ "java/lang/invoke/MethodHandle" ∧ y_RC_fits.cls ≠ "java/lang/invoke/VarHandle" ∧ (parseMethodDescriptor y_RC_fits.desc).map (fun d => d.parameters.length) = some 4 := by decide +kernel
theorem ht_RC_fits : y_RC_fits.cls ≠ "java/lang/invoke/MethodHandle" ∧ y_RC_fits.cls ≠ "java/lang/invoke/VarHandle" ∧ (parseMethodDescriptor y_RC_fits.desc).map (fun d => d.parameters.length) = some 4 := hs_RC_fits.2
abbrev b_RC_isOfKind : ByteArray := prog_5_method_3_code
def y_RC_isOfKind : MethodName := ⟨R_RC, "isOfKind", "(II)Z"⟩
abbrev ws_RC_isOfKind : List Cond := .code y_RC_isOfKind b_RC_isOfKind 2 (some .boolean) :: gt
theorem hs_RC_isOfKind : y_RC_isOfKind.cls = R_RC ∧ y_RC_isOfKind.cls ≠ "java/lang/invoke/MethodHandle" ∧ y_RC_isOfKind.cls ≠ "java/lang/invoke/VarHandle" ∧ (parseMethodDescriptor y_RC_isOfKind.desc).map (fun d => d.parameters.length) = some 2 := by decide +kernel
theorem ht_RC_isOfKind : y_RC_isOfKind.cls ≠ "java/lang/invoke/MethodHandle" ∧ y_RC_isOfKind.cls ≠ "java/lang/invoke/VarHandle" ∧ (parseMethodDescriptor y_RC_isOfKind.desc).map (fun d => d.parameters.length) = some 2 := hs_RC_isOfKind.2
abbrev b_RC_count : ByteArray := prog_5_method_4_code
def y_RC_count : MethodName := ⟨R_RC, "count", "()I"⟩
abbrev ws_RC_count : List Cond := .code y_RC_count b_RC_count 1 (some .int) :: gt
theorem hs_RC_count : y_RC_count.cls = R_RC ∧ y_RC_count.cls ≠ "java/lang/invoke/MethodHandle" ∧ y_RC_count.cls ≠ "java/lang/invoke/VarHandle" ∧ (parseMethodDescriptor y_RC_count.desc).map (fun d => d.parameters.length) = some 0 := by decide +kernel
theorem ht_RC_count : y_RC_count.cls ≠ "java/lang/invoke/MethodHandle" ∧ y_RC_count.cls ≠ "java/lang/invoke/VarHandle" ∧ (parseMethodDescriptor y_RC_count.desc).map (fun d => d.parameters.length) = some 0 := hs_RC_count.2
abbrev b_RC_holds : ByteArray := prog_5_method_5_code
def y_RC_holds : MethodName := ⟨R_RC, "holds", "(I)Z"⟩
abbrev ws_RC_holds : List Cond := .code y_RC_holds b_RC_holds 2 (some .boolean) :: gt
theorem hs_RC_holds : y_RC_holds.cls = R_RC ∧ y_RC_holds.cls ≠ "java/lang/invoke/MethodHandle" ∧ y_RC_holds.cls ≠ "java/lang/invoke/VarHandle" ∧ (parseMethodDescriptor y_RC_holds.desc).map (fun d => d.parameters.length) = some 1 := by decide +kernel
theorem ht_RC_holds : y_RC_holds.cls ≠ "java/lang/invoke/MethodHandle" ∧ y_RC_holds.cls ≠ "java/lang/invoke/VarHandle" ∧ (parseMethodDescriptor y_RC_holds.desc).map (fun d => d.parameters.length) = some 1 := hs_RC_holds.2
abbrev b_RC_resize : ByteArray := prog_5_method_6_code
def y_RC_resize : MethodName := ⟨R_RC, "resize", "(I)V"⟩
abbrev ws_RC_resize : List Cond := .code y_RC_resize b_RC_resize 2 none :: gt
theorem hs_RC_resize : y_RC_resize.cls = R_RC ∧ y_RC_resize.cls ≠ "java/lang/invoke/MethodHandle" ∧ y_RC_resize.cls ≠ "java/lang/invoke/VarHandle" ∧ (parseMethodDescriptor y_RC_resize.desc).map (fun d => d.parameters.length) = some 1 := by decide +kernel
theorem ht_RC_resize : y_RC_resize.cls ≠ "java/lang/invoke/MethodHandle" ∧ y_RC_resize.cls ≠ "java/lang/invoke/VarHandle" ∧ (parseMethodDescriptor y_RC_resize.desc).map (fun d => d.parameters.length) = some 1 := hs_RC_resize.2
abbrev b_RC_write : ByteArray := prog_5_method_7_code
def y_RC_write : MethodName := ⟨R_RC, "write", "(IIIII)V"⟩
abbrev ws_RC_write : List Cond := .code y_RC_write b_RC_write 6 none :: gt
theorem hs_RC_write : y_RC_write.cls = R_RC ∧ y_RC_write.cls ≠ "java/lang/invoke/MethodHandle" ∧ y_RC_write.cls ≠ "java/lang/invoke/VarHandle" ∧ (parseMethodDescriptor y_RC_write.desc).map (fun d => d.parameters.length) = some 5 := by decide +kernel
theorem ht_RC_write : y_RC_write.cls ≠ "java/lang/invoke/MethodHandle" ∧ y_RC_write.cls ≠ "java/lang/invoke/VarHandle" ∧ (parseMethodDescriptor y_RC_write.desc).map (fun d => d.parameters.length) = some 5 := hs_RC_write.2
abbrev b_RC_operationOf : ByteArray := prog_5_method_8_code
def y_RC_operationOf : MethodName := ⟨R_RC, "operationOf", "(I)I"⟩
abbrev ws_RC_operationOf : List Cond := .code y_RC_operationOf b_RC_operationOf 2 (some .int) :: gt
theorem hs_RC_operationOf : y_RC_operationOf.cls = R_RC ∧ y_RC_operationOf.cls ≠ "java/lang/invoke/MethodHandle" ∧ y_RC_operationOf.cls ≠ "java/lang/invoke/VarHandle" ∧ (parseMethodDescriptor y_RC_operationOf.desc).map (fun d => d.parameters.length) = some 1 := by decide +kernel
theorem ht_RC_operationOf : y_RC_operationOf.cls ≠ "java/lang/invoke/MethodHandle" ∧ y_RC_operationOf.cls ≠ "java/lang/invoke/VarHandle" ∧ (parseMethodDescriptor y_RC_operationOf.desc).map (fun d => d.parameters.length) = some 1 := hs_RC_operationOf.2
abbrev b_RC_dOf : ByteArray := prog_5_method_9_code
def y_RC_dOf : MethodName := ⟨R_RC, "dOf", "(I)I"⟩
abbrev ws_RC_dOf : List Cond := .code y_RC_dOf b_RC_dOf 2 (some .int) :: gt
theorem hs_RC_dOf : y_RC_dOf.cls = R_RC ∧ y_RC_dOf.cls ≠ "java/lang/invoke/MethodHandle" ∧ y_RC_dOf.cls ≠ "java/lang/invoke/VarHandle" ∧ (parseMethodDescriptor y_RC_dOf.desc).map (fun d => d.parameters.length) = some 1 := by decide +kernel
theorem ht_RC_dOf : y_RC_dOf.cls ≠ "java/lang/invoke/MethodHandle" ∧ y_RC_dOf.cls ≠ "java/lang/invoke/VarHandle" ∧ (parseMethodDescriptor y_RC_dOf.desc).map (fun d => d.parameters.length) = some 1 := hs_RC_dOf.2
abbrev b_RC_aOf : ByteArray := prog_5_method_10_code
def y_RC_aOf : MethodName := ⟨R_RC, "aOf", "(I)I"⟩
abbrev ws_RC_aOf : List Cond := .code y_RC_aOf b_RC_aOf 2 (some .int) :: gt
theorem hs_RC_aOf : y_RC_aOf.cls = R_RC ∧ y_RC_aOf.cls ≠ "java/lang/invoke/MethodHandle" ∧ y_RC_aOf.cls ≠ "java/lang/invoke/VarHandle" ∧ (parseMethodDescriptor y_RC_aOf.desc).map (fun d => d.parameters.length) = some 1 := by decide +kernel
theorem ht_RC_aOf : y_RC_aOf.cls ≠ "java/lang/invoke/MethodHandle" ∧ y_RC_aOf.cls ≠ "java/lang/invoke/VarHandle" ∧ (parseMethodDescriptor y_RC_aOf.desc).map (fun d => d.parameters.length) = some 1 := hs_RC_aOf.2
abbrev b_RC_bOf : ByteArray := prog_5_method_11_code
def y_RC_bOf : MethodName := ⟨R_RC, "bOf", "(I)I"⟩
abbrev ws_RC_bOf : List Cond := .code y_RC_bOf b_RC_bOf 2 (some .int) :: gt
theorem hs_RC_bOf : y_RC_bOf.cls = R_RC ∧ y_RC_bOf.cls ≠ "java/lang/invoke/MethodHandle" ∧ y_RC_bOf.cls ≠ "java/lang/invoke/VarHandle" ∧ (parseMethodDescriptor y_RC_bOf.desc).map (fun d => d.parameters.length) = some 1 := by decide +kernel
theorem ht_RC_bOf : y_RC_bOf.cls ≠ "java/lang/invoke/MethodHandle" ∧ y_RC_bOf.cls ≠ "java/lang/invoke/VarHandle" ∧ (parseMethodDescriptor y_RC_bOf.desc).map (fun d => d.parameters.length) = some 1 := hs_RC_bOf.2
abbrev b_RC_writtenBy : ByteArray := prog_5_method_12_code
def y_RC_writtenBy : MethodName := ⟨R_RC, "writtenBy", "(I)I"⟩
abbrev ws_RC_writtenBy : List Cond := .code y_RC_writtenBy b_RC_writtenBy 2 (some .int) :: gt
theorem hs_RC_writtenBy : y_RC_writtenBy.cls = R_RC ∧ y_RC_writtenBy.cls ≠ "java/lang/invoke/MethodHandle" ∧ y_RC_writtenBy.cls ≠ "java/lang/invoke/VarHandle" ∧ (parseMethodDescriptor y_RC_writtenBy.desc).map (fun d => d.parameters.length) = some 1 := by decide +kernel
theorem ht_RC_writtenBy : y_RC_writtenBy.cls ≠ "java/lang/invoke/MethodHandle" ∧ y_RC_writtenBy.cls ≠ "java/lang/invoke/VarHandle" ∧ (parseMethodDescriptor y_RC_writtenBy.desc).map (fun d => d.parameters.length) = some 1 := hs_RC_writtenBy.2
abbrev b_RC_readAsA : ByteArray := prog_5_method_13_code
def y_RC_readAsA : MethodName := ⟨R_RC, "readAsA", "(I)I"⟩
abbrev ws_RC_readAsA : List Cond := .code y_RC_readAsA b_RC_readAsA 2 (some .int) :: gt
theorem hs_RC_readAsA : y_RC_readAsA.cls = R_RC ∧ y_RC_readAsA.cls ≠ "java/lang/invoke/MethodHandle" ∧ y_RC_readAsA.cls ≠ "java/lang/invoke/VarHandle" ∧ (parseMethodDescriptor y_RC_readAsA.desc).map (fun d => d.parameters.length) = some 1 := by decide +kernel
theorem ht_RC_readAsA : y_RC_readAsA.cls ≠ "java/lang/invoke/MethodHandle" ∧ y_RC_readAsA.cls ≠ "java/lang/invoke/VarHandle" ∧ (parseMethodDescriptor y_RC_readAsA.desc).map (fun d => d.parameters.length) = some 1 := hs_RC_readAsA.2
abbrev b_RC_readAsB : ByteArray := prog_5_method_14_code
def y_RC_readAsB : MethodName := ⟨R_RC, "readAsB", "(I)I"⟩
abbrev ws_RC_readAsB : List Cond := .code y_RC_readAsB b_RC_readAsB 2 (some .int) :: gt
theorem hs_RC_readAsB : y_RC_readAsB.cls = R_RC ∧ y_RC_readAsB.cls ≠ "java/lang/invoke/MethodHandle" ∧ y_RC_readAsB.cls ≠ "java/lang/invoke/VarHandle" ∧ (parseMethodDescriptor y_RC_readAsB.desc).map (fun d => d.parameters.length) = some 1 := by decide +kernel
theorem ht_RC_readAsB : y_RC_readAsB.cls ≠ "java/lang/invoke/MethodHandle" ∧ y_RC_readAsB.cls ≠ "java/lang/invoke/VarHandle" ∧ (parseMethodDescriptor y_RC_readAsB.desc).map (fun d => d.parameters.length) = some 1 := hs_RC_readAsB.2
abbrev b_RC_reads : ByteArray := prog_5_method_15_code
def y_RC_reads : MethodName := ⟨R_RC, "reads", "(II)Z"⟩
abbrev ws_RC_reads : List Cond := .code y_RC_reads b_RC_reads 3 (some .boolean) :: gt
theorem hs_RC_reads : y_RC_reads.cls = R_RC ∧ y_RC_reads.cls ≠ "java/lang/invoke/MethodHandle" ∧ y_RC_reads.cls ≠ "java/lang/invoke/VarHandle" ∧ (parseMethodDescriptor y_RC_reads.desc).map (fun d => d.parameters.length) = some 2 := by decide +kernel
theorem ht_RC_reads : y_RC_reads.cls ≠ "java/lang/invoke/MethodHandle" ∧ y_RC_reads.cls ≠ "java/lang/invoke/VarHandle" ∧ (parseMethodDescriptor y_RC_reads.desc).map (fun d => d.parameters.length) = some 2 := hs_RC_reads.2
abbrev b_RC_readsOnce : ByteArray := prog_5_method_16_code
def y_RC_readsOnce : MethodName := ⟨R_RC, "readsOnce", "(II)Z"⟩
abbrev ws_RC_readsOnce : List Cond := .code y_RC_readsOnce b_RC_readsOnce 3 (some .boolean) :: gt
theorem hs_RC_readsOnce : y_RC_readsOnce.cls = R_RC ∧ y_RC_readsOnce.cls ≠ "java/lang/invoke/MethodHandle" ∧ y_RC_readsOnce.cls ≠ "java/lang/invoke/VarHandle" ∧ (parseMethodDescriptor y_RC_readsOnce.desc).map (fun d => d.parameters.length) = some 2 := by decide +kernel
theorem ht_RC_readsOnce : y_RC_readsOnce.cls ≠ "java/lang/invoke/MethodHandle" ∧ y_RC_readsOnce.cls ≠ "java/lang/invoke/VarHandle" ∧ (parseMethodDescriptor y_RC_readsOnce.desc).map (fun d => d.parameters.length) = some 2 := hs_RC_readsOnce.2
abbrev b_FL_init : ByteArray := prog_3_method_1_code
def y_FL_init : MethodName := ⟨R_FL, "<init>", "(LStackCoder$RegisterCode;)V"⟩
abbrev ws_FL_init : List Cond := .code y_FL_init b_FL_init 2 none :: gt
theorem hs_FL_init : y_FL_init.cls = R_FL ∧ y_FL_init.cls ≠ "java/lang/invoke/MethodHandle" ∧ y_FL_init.cls ≠ "java/lang/invoke/VarHandle" ∧ (parseMethodDescriptor y_FL_init.desc).map (fun d => d.parameters.length) = some 1 := by decide +kernel
theorem ht_FL_init : y_FL_init.cls ≠ "java/lang/invoke/MethodHandle" ∧ y_FL_init.cls ≠ "java/lang/invoke/VarHandle" ∧ (parseMethodDescriptor y_FL_init.desc).map (fun d => d.parameters.length) = some 1 := hs_FL_init.2
abbrev b_FL_setOf : ByteArray := prog_3_method_2_code
def y_FL_setOf : MethodName := ⟨R_FL, "setOf", "(I)I"⟩
abbrev ws_FL_setOf : List Cond := .code y_FL_setOf b_FL_setOf 1 (some .int) :: gt
theorem hs_FL_setOf : y_FL_setOf.cls = R_FL ∧ y_FL_setOf.cls ≠ "java/lang/invoke/MethodHandle" ∧ y_FL_setOf.cls ≠ "java/lang/invoke/VarHandle" ∧ (parseMethodDescriptor y_FL_setOf.desc).map (fun d => d.parameters.length) = some 1 := by decide +kernel
theorem ht_FL_setOf : y_FL_setOf.cls ≠ "java/lang/invoke/MethodHandle" ∧ y_FL_setOf.cls ≠ "java/lang/invoke/VarHandle" ∧ (parseMethodDescriptor y_FL_setOf.desc).map (fun d => d.parameters.length) = some 1 := hs_FL_setOf.2
abbrev b_FL_trace : ByteArray := prog_3_method_3_code
def y_FL_trace : MethodName := ⟨R_FL, "trace", "()V"⟩
abbrev ws_FL_trace : List Cond := .code y_FL_trace b_FL_trace 3 none :: gt
theorem hs_FL_trace : y_FL_trace.cls = R_FL ∧ y_FL_trace.cls ≠ "java/lang/invoke/MethodHandle" ∧ y_FL_trace.cls ≠ "java/lang/invoke/VarHandle" ∧ (parseMethodDescriptor y_FL_trace.desc).map (fun d => d.parameters.length) = some 0 := by decide +kernel
theorem ht_FL_trace : y_FL_trace.cls ≠ "java/lang/invoke/MethodHandle" ∧ y_FL_trace.cls ≠ "java/lang/invoke/VarHandle" ∧ (parseMethodDescriptor y_FL_trace.desc).map (fun d => d.parameters.length) = some 0 := hs_FL_trace.2
abbrev b_FL_markBlocks : ByteArray := prog_3_method_4_code
def y_FL_markBlocks : MethodName := ⟨R_FL, "markBlocks", "()V"⟩
abbrev ws_FL_markBlocks : List Cond := .code y_FL_markBlocks b_FL_markBlocks 2 none :: gt
theorem hs_FL_markBlocks : y_FL_markBlocks.cls = R_FL ∧ y_FL_markBlocks.cls ≠ "java/lang/invoke/MethodHandle" ∧ y_FL_markBlocks.cls ≠ "java/lang/invoke/VarHandle" ∧ (parseMethodDescriptor y_FL_markBlocks.desc).map (fun d => d.parameters.length) = some 0 := by decide +kernel
theorem ht_FL_markBlocks : y_FL_markBlocks.cls ≠ "java/lang/invoke/MethodHandle" ∧ y_FL_markBlocks.cls ≠ "java/lang/invoke/VarHandle" ∧ (parseMethodDescriptor y_FL_markBlocks.desc).map (fun d => d.parameters.length) = some 0 := hs_FL_markBlocks.2
abbrev b_FL_markBegin : ByteArray := prog_3_method_5_code
def y_FL_markBegin : MethodName := ⟨R_FL, "markBegin", "(I)V"⟩
abbrev ws_FL_markBegin : List Cond := .code y_FL_markBegin b_FL_markBegin 2 none :: gt
theorem hs_FL_markBegin : y_FL_markBegin.cls = R_FL ∧ y_FL_markBegin.cls ≠ "java/lang/invoke/MethodHandle" ∧ y_FL_markBegin.cls ≠ "java/lang/invoke/VarHandle" ∧ (parseMethodDescriptor y_FL_markBegin.desc).map (fun d => d.parameters.length) = some 1 := by decide +kernel
theorem ht_FL_markBegin : y_FL_markBegin.cls ≠ "java/lang/invoke/MethodHandle" ∧ y_FL_markBegin.cls ≠ "java/lang/invoke/VarHandle" ∧ (parseMethodDescriptor y_FL_markBegin.desc).map (fun d => d.parameters.length) = some 1 := hs_FL_markBegin.2
abbrev b_FL_flowBack : ByteArray := prog_3_method_6_code
def y_FL_flowBack : MethodName := ⟨R_FL, "flowBack", "()Z"⟩
abbrev ws_FL_flowBack : List Cond := .code y_FL_flowBack b_FL_flowBack 5 (some .boolean) :: gt
theorem hs_FL_flowBack : y_FL_flowBack.cls = R_FL ∧ y_FL_flowBack.cls ≠ "java/lang/invoke/MethodHandle" ∧ y_FL_flowBack.cls ≠ "java/lang/invoke/VarHandle" ∧ (parseMethodDescriptor y_FL_flowBack.desc).map (fun d => d.parameters.length) = some 0 := by decide +kernel
theorem ht_FL_flowBack : y_FL_flowBack.cls ≠ "java/lang/invoke/MethodHandle" ∧ y_FL_flowBack.cls ≠ "java/lang/invoke/VarHandle" ∧ (parseMethodDescriptor y_FL_flowBack.desc).map (fun d => d.parameters.length) = some 0 := hs_FL_flowBack.2
abbrev b_FL_gatherAfter : ByteArray := prog_3_method_7_code
def y_FL_gatherAfter : MethodName := ⟨R_FL, "gatherAfter", "(I)I"⟩
abbrev ws_FL_gatherAfter : List Cond := .code y_FL_gatherAfter b_FL_gatherAfter 2 (some .int) :: gt
theorem hs_FL_gatherAfter : y_FL_gatherAfter.cls = R_FL ∧ y_FL_gatherAfter.cls ≠ "java/lang/invoke/MethodHandle" ∧ y_FL_gatherAfter.cls ≠ "java/lang/invoke/VarHandle" ∧ (parseMethodDescriptor y_FL_gatherAfter.desc).map (fun d => d.parameters.length) = some 1 := by decide +kernel
theorem ht_FL_gatherAfter : y_FL_gatherAfter.cls ≠ "java/lang/invoke/MethodHandle" ∧ y_FL_gatherAfter.cls ≠ "java/lang/invoke/VarHandle" ∧ (parseMethodDescriptor y_FL_gatherAfter.desc).map (fun d => d.parameters.length) = some 1 := hs_FL_gatherAfter.2
abbrev b_FL_beginsBlock : ByteArray := prog_3_method_8_code
def y_FL_beginsBlock : MethodName := ⟨R_FL, "beginsBlock", "(I)Z"⟩
abbrev ws_FL_beginsBlock : List Cond := .code y_FL_beginsBlock b_FL_beginsBlock 2 (some .boolean) :: gt
theorem hs_FL_beginsBlock : y_FL_beginsBlock.cls = R_FL ∧ y_FL_beginsBlock.cls ≠ "java/lang/invoke/MethodHandle" ∧ y_FL_beginsBlock.cls ≠ "java/lang/invoke/VarHandle" ∧ (parseMethodDescriptor y_FL_beginsBlock.desc).map (fun d => d.parameters.length) = some 1 := by decide +kernel
theorem ht_FL_beginsBlock : y_FL_beginsBlock.cls ≠ "java/lang/invoke/MethodHandle" ∧ y_FL_beginsBlock.cls ≠ "java/lang/invoke/VarHandle" ∧ (parseMethodDescriptor y_FL_beginsBlock.desc).map (fun d => d.parameters.length) = some 1 := hs_FL_beginsBlock.2
abbrev b_FL_liveBefore : ByteArray := prog_3_method_9_code
def y_FL_liveBefore : MethodName := ⟨R_FL, "liveBefore", "(I)I"⟩
abbrev ws_FL_liveBefore : List Cond := .code y_FL_liveBefore b_FL_liveBefore 2 (some .int) :: gt
theorem hs_FL_liveBefore : y_FL_liveBefore.cls = R_FL ∧ y_FL_liveBefore.cls ≠ "java/lang/invoke/MethodHandle" ∧ y_FL_liveBefore.cls ≠ "java/lang/invoke/VarHandle" ∧ (parseMethodDescriptor y_FL_liveBefore.desc).map (fun d => d.parameters.length) = some 1 := by decide +kernel
theorem ht_FL_liveBefore : y_FL_liveBefore.cls ≠ "java/lang/invoke/MethodHandle" ∧ y_FL_liveBefore.cls ≠ "java/lang/invoke/VarHandle" ∧ (parseMethodDescriptor y_FL_liveBefore.desc).map (fun d => d.parameters.length) = some 1 := hs_FL_liveBefore.2
abbrev b_FL_liveAfter : ByteArray := prog_3_method_10_code
def y_FL_liveAfter : MethodName := ⟨R_FL, "liveAfter", "(I)I"⟩
abbrev ws_FL_liveAfter : List Cond := .code y_FL_liveAfter b_FL_liveAfter 2 (some .int) :: gt
theorem hs_FL_liveAfter : y_FL_liveAfter.cls = R_FL ∧ y_FL_liveAfter.cls ≠ "java/lang/invoke/MethodHandle" ∧ y_FL_liveAfter.cls ≠ "java/lang/invoke/VarHandle" ∧ (parseMethodDescriptor y_FL_liveAfter.desc).map (fun d => d.parameters.length) = some 1 := by decide +kernel
theorem ht_FL_liveAfter : y_FL_liveAfter.cls ≠ "java/lang/invoke/MethodHandle" ∧ y_FL_liveAfter.cls ≠ "java/lang/invoke/VarHandle" ∧ (parseMethodDescriptor y_FL_liveAfter.desc).map (fun d => d.parameters.length) = some 1 := hs_FL_liveAfter.2
abbrev b_CA_init : ByteArray := prog_2_method_1_code
def y_CA_init : MethodName := ⟨R_CA, "<init>", "(LStackCoder$RegisterCode;LStackCoder$Flow;I)V"⟩
abbrev ws_CA_init : List Cond := .code y_CA_init b_CA_init 4 none :: gt
theorem hs_CA_init : y_CA_init.cls = R_CA ∧ y_CA_init.cls ≠ "java/lang/invoke/MethodHandle" ∧ y_CA_init.cls ≠ "java/lang/invoke/VarHandle" ∧ (parseMethodDescriptor y_CA_init.desc).map (fun d => d.parameters.length) = some 3 := by decide +kernel
theorem ht_CA_init : y_CA_init.cls ≠ "java/lang/invoke/MethodHandle" ∧ y_CA_init.cls ≠ "java/lang/invoke/VarHandle" ∧ (parseMethodDescriptor y_CA_init.desc).map (fun d => d.parameters.length) = some 3 := hs_CA_init.2
abbrev b_CA_settle : ByteArray := prog_2_method_2_code
def y_CA_settle : MethodName := ⟨R_CA, "settle", "()V"⟩
abbrev ws_CA_settle : List Cond := .code y_CA_settle b_CA_settle 2 none :: gt
theorem hs_CA_settle : y_CA_settle.cls = R_CA ∧ y_CA_settle.cls ≠ "java/lang/invoke/MethodHandle" ∧ y_CA_settle.cls ≠ "java/lang/invoke/VarHandle" ∧ (parseMethodDescriptor y_CA_settle.desc).map (fun d => d.parameters.length) = some 0 := by decide +kernel
theorem ht_CA_settle : y_CA_settle.cls ≠ "java/lang/invoke/MethodHandle" ∧ y_CA_settle.cls ≠ "java/lang/invoke/VarHandle" ∧ (parseMethodDescriptor y_CA_settle.desc).map (fun d => d.parameters.length) = some 0 := hs_CA_settle.2
abbrev b_CA_carryInto : ByteArray := prog_2_method_3_code
def y_CA_carryInto : MethodName := ⟨R_CA, "carryInto", "(I)V"⟩
abbrev ws_CA_carryInto : List Cond := .code y_CA_carryInto b_CA_carryInto 4 none :: gt
theorem hs_CA_carryInto : y_CA_carryInto.cls = R_CA ∧ y_CA_carryInto.cls ≠ "java/lang/invoke/MethodHandle" ∧ y_CA_carryInto.cls ≠ "java/lang/invoke/VarHandle" ∧ (parseMethodDescriptor y_CA_carryInto.desc).map (fun d => d.parameters.length) = some 1 := by decide +kernel
theorem ht_CA_carryInto : y_CA_carryInto.cls ≠ "java/lang/invoke/MethodHandle" ∧ y_CA_carryInto.cls ≠ "java/lang/invoke/VarHandle" ∧ (parseMethodDescriptor y_CA_carryInto.desc).map (fun d => d.parameters.length) = some 1 := hs_CA_carryInto.2
abbrev b_CA_noteTree : ByteArray := prog_2_method_4_code
def y_CA_noteTree : MethodName := ⟨R_CA, "noteTree", "(I)V"⟩
abbrev ws_CA_noteTree : List Cond := .code y_CA_noteTree b_CA_noteTree 4 none :: gt
theorem hs_CA_noteTree : y_CA_noteTree.cls = R_CA ∧ y_CA_noteTree.cls ≠ "java/lang/invoke/MethodHandle" ∧ y_CA_noteTree.cls ≠ "java/lang/invoke/VarHandle" ∧ (parseMethodDescriptor y_CA_noteTree.desc).map (fun d => d.parameters.length) = some 1 := by decide +kernel
theorem ht_CA_noteTree : y_CA_noteTree.cls ≠ "java/lang/invoke/MethodHandle" ∧ y_CA_noteTree.cls ≠ "java/lang/invoke/VarHandle" ∧ (parseMethodDescriptor y_CA_noteTree.desc).map (fun d => d.parameters.length) = some 1 := hs_CA_noteTree.2
abbrev b_CA_carriable : ByteArray := prog_2_method_5_code
def y_CA_carriable : MethodName := ⟨R_CA, "carriable", "(II)I"⟩
abbrev ws_CA_carriable : List Cond := .code y_CA_carriable b_CA_carriable 5 (some .int) :: gt
theorem hs_CA_carriable : y_CA_carriable.cls = R_CA ∧ y_CA_carriable.cls ≠ "java/lang/invoke/MethodHandle" ∧ y_CA_carriable.cls ≠ "java/lang/invoke/VarHandle" ∧ (parseMethodDescriptor y_CA_carriable.desc).map (fun d => d.parameters.length) = some 2 := by decide +kernel
theorem ht_CA_carriable : y_CA_carriable.cls ≠ "java/lang/invoke/MethodHandle" ∧ y_CA_carriable.cls ≠ "java/lang/invoke/VarHandle" ∧ (parseMethodDescriptor y_CA_carriable.desc).map (fun d => d.parameters.length) = some 2 := hs_CA_carriable.2
abbrev b_CA_lastWriter : ByteArray := prog_2_method_6_code
def y_CA_lastWriter : MethodName := ⟨R_CA, "lastWriter", "(II)I"⟩
abbrev ws_CA_lastWriter : List Cond := .code y_CA_lastWriter b_CA_lastWriter 4 (some .int) :: gt
theorem hs_CA_lastWriter : y_CA_lastWriter.cls = R_CA ∧ y_CA_lastWriter.cls ≠ "java/lang/invoke/MethodHandle" ∧ y_CA_lastWriter.cls ≠ "java/lang/invoke/VarHandle" ∧ (parseMethodDescriptor y_CA_lastWriter.desc).map (fun d => d.parameters.length) = some 2 := by decide +kernel
theorem ht_CA_lastWriter : y_CA_lastWriter.cls ≠ "java/lang/invoke/MethodHandle" ∧ y_CA_lastWriter.cls ≠ "java/lang/invoke/VarHandle" ∧ (parseMethodDescriptor y_CA_lastWriter.desc).map (fun d => d.parameters.length) = some 2 := hs_CA_lastWriter.2
abbrev b_CA_isReadByNoneBut : ByteArray := prog_2_method_7_code
def y_CA_isReadByNoneBut : MethodName := ⟨R_CA, "isReadByNoneBut", "(II)Z"⟩
abbrev ws_CA_isReadByNoneBut : List Cond := .code y_CA_isReadByNoneBut b_CA_isReadByNoneBut 6 (some .boolean) :: gt
theorem hs_CA_isReadByNoneBut : y_CA_isReadByNoneBut.cls = R_CA ∧ y_CA_isReadByNoneBut.cls ≠ "java/lang/invoke/MethodHandle" ∧ y_CA_isReadByNoneBut.cls ≠ "java/lang/invoke/VarHandle" ∧ (parseMethodDescriptor y_CA_isReadByNoneBut.desc).map (fun d => d.parameters.length) = some 2 := by decide +kernel
theorem ht_CA_isReadByNoneBut : y_CA_isReadByNoneBut.cls ≠ "java/lang/invoke/MethodHandle" ∧ y_CA_isReadByNoneBut.cls ≠ "java/lang/invoke/VarHandle" ∧ (parseMethodDescriptor y_CA_isReadByNoneBut.desc).map (fun d => d.parameters.length) = some 2 := hs_CA_isReadByNoneBut.2
abbrev b_CA_canWait : ByteArray := prog_2_method_8_code
def y_CA_canWait : MethodName := ⟨R_CA, "canWait", "(II)Z"⟩
abbrev ws_CA_canWait : List Cond := .code y_CA_canWait b_CA_canWait 4 (some .boolean) :: gt
theorem hs_CA_canWait : y_CA_canWait.cls = R_CA ∧ y_CA_canWait.cls ≠ "java/lang/invoke/MethodHandle" ∧ y_CA_canWait.cls ≠ "java/lang/invoke/VarHandle" ∧ (parseMethodDescriptor y_CA_canWait.desc).map (fun d => d.parameters.length) = some 2 := by decide +kernel
theorem ht_CA_canWait : y_CA_canWait.cls ≠ "java/lang/invoke/MethodHandle" ∧ y_CA_canWait.cls ≠ "java/lang/invoke/VarHandle" ∧ (parseMethodDescriptor y_CA_canWait.desc).map (fun d => d.parameters.length) = some 2 := hs_CA_canWait.2
abbrev b_CA_needWith : ByteArray := prog_2_method_9_code
def y_CA_needWith : MethodName := ⟨R_CA, "needWith", "(III)I"⟩
abbrev ws_CA_needWith : List Cond := .code y_CA_needWith b_CA_needWith 6 (some .int) :: gt
theorem hs_CA_needWith : y_CA_needWith.cls = R_CA ∧ y_CA_needWith.cls ≠ "java/lang/invoke/MethodHandle" ∧ y_CA_needWith.cls ≠ "java/lang/invoke/VarHandle" ∧ (parseMethodDescriptor y_CA_needWith.desc).map (fun d => d.parameters.length) = some 3 := by decide +kernel
theorem ht_CA_needWith : y_CA_needWith.cls ≠ "java/lang/invoke/MethodHandle" ∧ y_CA_needWith.cls ≠ "java/lang/invoke/VarHandle" ∧ (parseMethodDescriptor y_CA_needWith.desc).map (fun d => d.parameters.length) = some 3 := hs_CA_needWith.2
abbrev b_CA_thingNeed : ByteArray := prog_2_method_10_code
def y_CA_thingNeed : MethodName := ⟨R_CA, "thingNeed", "(I)I"⟩
abbrev ws_CA_thingNeed : List Cond := .code y_CA_thingNeed b_CA_thingNeed 2 (some .int) :: gt
theorem hs_CA_thingNeed : y_CA_thingNeed.cls = R_CA ∧ y_CA_thingNeed.cls ≠ "java/lang/invoke/MethodHandle" ∧ y_CA_thingNeed.cls ≠ "java/lang/invoke/VarHandle" ∧ (parseMethodDescriptor y_CA_thingNeed.desc).map (fun d => d.parameters.length) = some 1 := by decide +kernel
theorem ht_CA_thingNeed : y_CA_thingNeed.cls ≠ "java/lang/invoke/MethodHandle" ∧ y_CA_thingNeed.cls ≠ "java/lang/invoke/VarHandle" ∧ (parseMethodDescriptor y_CA_thingNeed.desc).map (fun d => d.parameters.length) = some 1 := hs_CA_thingNeed.2
abbrev b_CA_thingReads : ByteArray := prog_2_method_11_code
def y_CA_thingReads : MethodName := ⟨R_CA, "thingReads", "(II)I"⟩
abbrev ws_CA_thingReads : List Cond := .code y_CA_thingReads b_CA_thingReads 3 (some .int) :: gt
theorem hs_CA_thingReads : y_CA_thingReads.cls = R_CA ∧ y_CA_thingReads.cls ≠ "java/lang/invoke/MethodHandle" ∧ y_CA_thingReads.cls ≠ "java/lang/invoke/VarHandle" ∧ (parseMethodDescriptor y_CA_thingReads.desc).map (fun d => d.parameters.length) = some 2 := by decide +kernel
theorem ht_CA_thingReads : y_CA_thingReads.cls ≠ "java/lang/invoke/MethodHandle" ∧ y_CA_thingReads.cls ≠ "java/lang/invoke/VarHandle" ∧ (parseMethodDescriptor y_CA_thingReads.desc).map (fun d => d.parameters.length) = some 2 := hs_CA_thingReads.2
abbrev b_CA_thingLoads : ByteArray := prog_2_method_12_code
def y_CA_thingLoads : MethodName := ⟨R_CA, "thingLoads", "(I)Z"⟩
abbrev ws_CA_thingLoads : List Cond := .code y_CA_thingLoads b_CA_thingLoads 2 (some .boolean) :: gt
theorem hs_CA_thingLoads : y_CA_thingLoads.cls = R_CA ∧ y_CA_thingLoads.cls ≠ "java/lang/invoke/MethodHandle" ∧ y_CA_thingLoads.cls ≠ "java/lang/invoke/VarHandle" ∧ (parseMethodDescriptor y_CA_thingLoads.desc).map (fun d => d.parameters.length) = some 1 := by decide +kernel
theorem ht_CA_thingLoads : y_CA_thingLoads.cls ≠ "java/lang/invoke/MethodHandle" ∧ y_CA_thingLoads.cls ≠ "java/lang/invoke/VarHandle" ∧ (parseMethodDescriptor y_CA_thingLoads.desc).map (fun d => d.parameters.length) = some 1 := hs_CA_thingLoads.2
abbrev b_CA_isCarried : ByteArray := prog_2_method_13_code
def y_CA_isCarried : MethodName := ⟨R_CA, "isCarried", "(I)Z"⟩
abbrev ws_CA_isCarried : List Cond := .code y_CA_isCarried b_CA_isCarried 2 (some .boolean) :: gt
theorem hs_CA_isCarried : y_CA_isCarried.cls = R_CA ∧ y_CA_isCarried.cls ≠ "java/lang/invoke/MethodHandle" ∧ y_CA_isCarried.cls ≠ "java/lang/invoke/VarHandle" ∧ (parseMethodDescriptor y_CA_isCarried.desc).map (fun d => d.parameters.length) = some 1 := by decide +kernel
theorem ht_CA_isCarried : y_CA_isCarried.cls ≠ "java/lang/invoke/MethodHandle" ∧ y_CA_isCarried.cls ≠ "java/lang/invoke/VarHandle" ∧ (parseMethodDescriptor y_CA_isCarried.desc).map (fun d => d.parameters.length) = some 1 := hs_CA_isCarried.2
abbrev b_CA_goalOf : ByteArray := prog_2_method_14_code
def y_CA_goalOf : MethodName := ⟨R_CA, "goalOf", "(I)I"⟩
abbrev ws_CA_goalOf : List Cond := .code y_CA_goalOf b_CA_goalOf 2 (some .int) :: gt
theorem hs_CA_goalOf : y_CA_goalOf.cls = R_CA ∧ y_CA_goalOf.cls ≠ "java/lang/invoke/MethodHandle" ∧ y_CA_goalOf.cls ≠ "java/lang/invoke/VarHandle" ∧ (parseMethodDescriptor y_CA_goalOf.desc).map (fun d => d.parameters.length) = some 1 := by decide +kernel
theorem ht_CA_goalOf : y_CA_goalOf.cls ≠ "java/lang/invoke/MethodHandle" ∧ y_CA_goalOf.cls ≠ "java/lang/invoke/VarHandle" ∧ (parseMethodDescriptor y_CA_goalOf.desc).map (fun d => d.parameters.length) = some 1 := hs_CA_goalOf.2
abbrev b_CA_inForA : ByteArray := prog_2_method_15_code
def y_CA_inForA : MethodName := ⟨R_CA, "inForA", "(I)I"⟩
abbrev ws_CA_inForA : List Cond := .code y_CA_inForA b_CA_inForA 2 (some .int) :: gt
theorem hs_CA_inForA : y_CA_inForA.cls = R_CA ∧ y_CA_inForA.cls ≠ "java/lang/invoke/MethodHandle" ∧ y_CA_inForA.cls ≠ "java/lang/invoke/VarHandle" ∧ (parseMethodDescriptor y_CA_inForA.desc).map (fun d => d.parameters.length) = some 1 := by decide +kernel
theorem ht_CA_inForA : y_CA_inForA.cls ≠ "java/lang/invoke/MethodHandle" ∧ y_CA_inForA.cls ≠ "java/lang/invoke/VarHandle" ∧ (parseMethodDescriptor y_CA_inForA.desc).map (fun d => d.parameters.length) = some 1 := hs_CA_inForA.2
abbrev b_CA_inForB : ByteArray := prog_2_method_16_code
def y_CA_inForB : MethodName := ⟨R_CA, "inForB", "(I)I"⟩
abbrev ws_CA_inForB : List Cond := .code y_CA_inForB b_CA_inForB 2 (some .int) :: gt
theorem hs_CA_inForB : y_CA_inForB.cls = R_CA ∧ y_CA_inForB.cls ≠ "java/lang/invoke/MethodHandle" ∧ y_CA_inForB.cls ≠ "java/lang/invoke/VarHandle" ∧ (parseMethodDescriptor y_CA_inForB.desc).map (fun d => d.parameters.length) = some 1 := by decide +kernel
theorem ht_CA_inForB : y_CA_inForB.cls ≠ "java/lang/invoke/MethodHandle" ∧ y_CA_inForB.cls ≠ "java/lang/invoke/VarHandle" ∧ (parseMethodDescriptor y_CA_inForB.desc).map (fun d => d.parameters.length) = some 1 := hs_CA_inForB.2
abbrev b_CA_takesBFirst : ByteArray := prog_2_method_17_code
def y_CA_takesBFirst : MethodName := ⟨R_CA, "takesBFirst", "(I)Z"⟩
abbrev ws_CA_takesBFirst : List Cond := .code y_CA_takesBFirst b_CA_takesBFirst 2 (some .boolean) :: gt
theorem hs_CA_takesBFirst : y_CA_takesBFirst.cls = R_CA ∧ y_CA_takesBFirst.cls ≠ "java/lang/invoke/MethodHandle" ∧ y_CA_takesBFirst.cls ≠ "java/lang/invoke/VarHandle" ∧ (parseMethodDescriptor y_CA_takesBFirst.desc).map (fun d => d.parameters.length) = some 1 := by decide +kernel
theorem ht_CA_takesBFirst : y_CA_takesBFirst.cls ≠ "java/lang/invoke/MethodHandle" ∧ y_CA_takesBFirst.cls ≠ "java/lang/invoke/VarHandle" ∧ (parseMethodDescriptor y_CA_takesBFirst.desc).map (fun d => d.parameters.length) = some 1 := hs_CA_takesBFirst.2
abbrev b_CA_needOf : ByteArray := prog_2_method_18_code
def y_CA_needOf : MethodName := ⟨R_CA, "needOf", "(I)I"⟩
abbrev ws_CA_needOf : List Cond := .code y_CA_needOf b_CA_needOf 2 (some .int) :: gt
theorem hs_CA_needOf : y_CA_needOf.cls = R_CA ∧ y_CA_needOf.cls ≠ "java/lang/invoke/MethodHandle" ∧ y_CA_needOf.cls ≠ "java/lang/invoke/VarHandle" ∧ (parseMethodDescriptor y_CA_needOf.desc).map (fun d => d.parameters.length) = some 1 := by decide +kernel
theorem ht_CA_needOf : y_CA_needOf.cls ≠ "java/lang/invoke/MethodHandle" ∧ y_CA_needOf.cls ≠ "java/lang/invoke/VarHandle" ∧ (parseMethodDescriptor y_CA_needOf.desc).map (fun d => d.parameters.length) = some 1 := hs_CA_needOf.2
abbrev b_CA_greatestNeed : ByteArray := prog_2_method_19_code
def y_CA_greatestNeed : MethodName := ⟨R_CA, "greatestNeed", "()I"⟩
abbrev ws_CA_greatestNeed : List Cond := .code y_CA_greatestNeed b_CA_greatestNeed 3 (some .int) :: gt
theorem hs_CA_greatestNeed : y_CA_greatestNeed.cls = R_CA ∧ y_CA_greatestNeed.cls ≠ "java/lang/invoke/MethodHandle" ∧ y_CA_greatestNeed.cls ≠ "java/lang/invoke/VarHandle" ∧ (parseMethodDescriptor y_CA_greatestNeed.desc).map (fun d => d.parameters.length) = some 0 := by decide +kernel
theorem ht_CA_greatestNeed : y_CA_greatestNeed.cls ≠ "java/lang/invoke/MethodHandle" ∧ y_CA_greatestNeed.cls ≠ "java/lang/invoke/VarHandle" ∧ (parseMethodDescriptor y_CA_greatestNeed.desc).map (fun d => d.parameters.length) = some 0 := hs_CA_greatestNeed.2
abbrev b_ST_init : ByteArray := prog_6_method_1_code
def y_ST_init : MethodName := ⟨R_ST, "<init>", "(LStackCoder$RegisterCode;LStackCoder$Flow;LStackCoder$Carrying;)V"⟩
abbrev ws_ST_init : List Cond := .code y_ST_init b_ST_init 4 none :: gt
theorem hs_ST_init : y_ST_init.cls = R_ST ∧ y_ST_init.cls ≠ "java/lang/invoke/MethodHandle" ∧ y_ST_init.cls ≠ "java/lang/invoke/VarHandle" ∧ (parseMethodDescriptor y_ST_init.desc).map (fun d => d.parameters.length) = some 3 := by decide +kernel
theorem ht_ST_init : y_ST_init.cls ≠ "java/lang/invoke/MethodHandle" ∧ y_ST_init.cls ≠ "java/lang/invoke/VarHandle" ∧ (parseMethodDescriptor y_ST_init.desc).map (fun d => d.parameters.length) = some 3 := hs_ST_init.2
abbrev b_ST_layOut : ByteArray := prog_6_method_2_code
def y_ST_layOut : MethodName := ⟨R_ST, "layOut", "()V"⟩
abbrev ws_ST_layOut : List Cond := .code y_ST_layOut b_ST_layOut 2 none :: gt
theorem hs_ST_layOut : y_ST_layOut.cls = R_ST ∧ y_ST_layOut.cls ≠ "java/lang/invoke/MethodHandle" ∧ y_ST_layOut.cls ≠ "java/lang/invoke/VarHandle" ∧ (parseMethodDescriptor y_ST_layOut.desc).map (fun d => d.parameters.length) = some 0 := by decide +kernel
theorem ht_ST_layOut : y_ST_layOut.cls ≠ "java/lang/invoke/MethodHandle" ∧ y_ST_layOut.cls ≠ "java/lang/invoke/VarHandle" ∧ (parseMethodDescriptor y_ST_layOut.desc).map (fun d => d.parameters.length) = some 0 := hs_ST_layOut.2
abbrev b_ST_widthOf : ByteArray := prog_6_method_3_code
def y_ST_widthOf : MethodName := ⟨R_ST, "widthOf", "(I)I"⟩
abbrev ws_ST_widthOf : List Cond := .code y_ST_widthOf b_ST_widthOf 3 (some .int) :: gt
theorem hs_ST_widthOf : y_ST_widthOf.cls = R_ST ∧ y_ST_widthOf.cls ≠ "java/lang/invoke/MethodHandle" ∧ y_ST_widthOf.cls ≠ "java/lang/invoke/VarHandle" ∧ (parseMethodDescriptor y_ST_widthOf.desc).map (fun d => d.parameters.length) = some 1 := by decide +kernel
theorem ht_ST_widthOf : y_ST_widthOf.cls ≠ "java/lang/invoke/MethodHandle" ∧ y_ST_widthOf.cls ≠ "java/lang/invoke/VarHandle" ∧ (parseMethodDescriptor y_ST_widthOf.desc).map (fun d => d.parameters.length) = some 1 := hs_ST_widthOf.2
abbrev b_ST_thingWidth : ByteArray := prog_6_method_4_code
def y_ST_thingWidth : MethodName := ⟨R_ST, "thingWidth", "(II)I"⟩
abbrev ws_ST_thingWidth : List Cond := .code y_ST_thingWidth b_ST_thingWidth 3 (some .int) :: gt
theorem hs_ST_thingWidth : y_ST_thingWidth.cls = R_ST ∧ y_ST_thingWidth.cls ≠ "java/lang/invoke/MethodHandle" ∧ y_ST_thingWidth.cls ≠ "java/lang/invoke/VarHandle" ∧ (parseMethodDescriptor y_ST_thingWidth.desc).map (fun d => d.parameters.length) = some 2 := by decide +kernel
theorem ht_ST_thingWidth : y_ST_thingWidth.cls ≠ "java/lang/invoke/MethodHandle" ∧ y_ST_thingWidth.cls ≠ "java/lang/invoke/VarHandle" ∧ (parseMethodDescriptor y_ST_thingWidth.desc).map (fun d => d.parameters.length) = some 2 := hs_ST_thingWidth.2
abbrev b_ST_needsSwap : ByteArray := prog_6_method_5_code
def y_ST_needsSwap : MethodName := ⟨R_ST, "needsSwap", "(I)Z"⟩
abbrev ws_ST_needsSwap : List Cond := .code y_ST_needsSwap b_ST_needsSwap 3 (some .boolean) :: gt
theorem hs_ST_needsSwap : y_ST_needsSwap.cls = R_ST ∧ y_ST_needsSwap.cls ≠ "java/lang/invoke/MethodHandle" ∧ y_ST_needsSwap.cls ≠ "java/lang/invoke/VarHandle" ∧ (parseMethodDescriptor y_ST_needsSwap.desc).map (fun d => d.parameters.length) = some 1 := by decide +kernel
theorem ht_ST_needsSwap : y_ST_needsSwap.cls ≠ "java/lang/invoke/MethodHandle" ∧ y_ST_needsSwap.cls ≠ "java/lang/invoke/VarHandle" ∧ (parseMethodDescriptor y_ST_needsSwap.desc).map (fun d => d.parameters.length) = some 1 := hs_ST_needsSwap.2
abbrev b_ST_leavesValue : ByteArray := prog_6_method_6_code
def y_ST_leavesValue : MethodName := ⟨R_ST, "leavesValue", "(I)Z"⟩
abbrev ws_ST_leavesValue : List Cond := .code y_ST_leavesValue b_ST_leavesValue 2 (some .boolean) :: gt
theorem hs_ST_leavesValue : y_ST_leavesValue.cls = R_ST ∧ y_ST_leavesValue.cls ≠ "java/lang/invoke/MethodHandle" ∧ y_ST_leavesValue.cls ≠ "java/lang/invoke/VarHandle" ∧ (parseMethodDescriptor y_ST_leavesValue.desc).map (fun d => d.parameters.length) = some 1 := by decide +kernel
theorem ht_ST_leavesValue : y_ST_leavesValue.cls ≠ "java/lang/invoke/MethodHandle" ∧ y_ST_leavesValue.cls ≠ "java/lang/invoke/VarHandle" ∧ (parseMethodDescriptor y_ST_leavesValue.desc).map (fun d => d.parameters.length) = some 1 := hs_ST_leavesValue.2
abbrev b_ST_writeInstruction : ByteArray := prog_6_method_7_code
def y_ST_writeInstruction : MethodName := ⟨R_ST, "writeInstruction", "(I)V"⟩
abbrev ws_ST_writeInstruction : List Cond := .code y_ST_writeInstruction b_ST_writeInstruction 4 none :: gt
theorem hs_ST_writeInstruction : y_ST_writeInstruction.cls = R_ST ∧ y_ST_writeInstruction.cls ≠ "java/lang/invoke/MethodHandle" ∧ y_ST_writeInstruction.cls ≠ "java/lang/invoke/VarHandle" ∧ (parseMethodDescriptor y_ST_writeInstruction.desc).map (fun d => d.parameters.length) = some 1 := by decide +kernel
theorem ht_ST_writeInstruction : y_ST_writeInstruction.cls ≠ "java/lang/invoke/MethodHandle" ∧ y_ST_writeInstruction.cls ≠ "java/lang/invoke/VarHandle" ∧ (parseMethodDescriptor y_ST_writeInstruction.desc).map (fun d => d.parameters.length) = some 1 := hs_ST_writeInstruction.2
abbrev b_ST_writeThings : ByteArray := prog_6_method_8_code
def y_ST_writeThings : MethodName := ⟨R_ST, "writeThings", "(II)I"⟩
abbrev ws_ST_writeThings : List Cond := .code y_ST_writeThings b_ST_writeThings 7 (some .int) :: gt
theorem hs_ST_writeThings : y_ST_writeThings.cls = R_ST ∧ y_ST_writeThings.cls ≠ "java/lang/invoke/MethodHandle" ∧ y_ST_writeThings.cls ≠ "java/lang/invoke/VarHandle" ∧ (parseMethodDescriptor y_ST_writeThings.desc).map (fun d => d.parameters.length) = some 2 := by decide +kernel
theorem ht_ST_writeThings : y_ST_writeThings.cls ≠ "java/lang/invoke/MethodHandle" ∧ y_ST_writeThings.cls ≠ "java/lang/invoke/VarHandle" ∧ (parseMethodDescriptor y_ST_writeThings.desc).map (fun d => d.parameters.length) = some 2 := hs_ST_writeThings.2
abbrev b_ST_writeThing : ByteArray := prog_6_method_9_code
def y_ST_writeThing : MethodName := ⟨R_ST, "writeThing", "(III)I"⟩
abbrev ws_ST_writeThing : List Cond := .code y_ST_writeThing b_ST_writeThing 4 (some .int) :: gt
theorem hs_ST_writeThing : y_ST_writeThing.cls = R_ST ∧ y_ST_writeThing.cls ≠ "java/lang/invoke/MethodHandle" ∧ y_ST_writeThing.cls ≠ "java/lang/invoke/VarHandle" ∧ (parseMethodDescriptor y_ST_writeThing.desc).map (fun d => d.parameters.length) = some 3 := by decide +kernel
theorem ht_ST_writeThing : y_ST_writeThing.cls ≠ "java/lang/invoke/MethodHandle" ∧ y_ST_writeThing.cls ≠ "java/lang/invoke/VarHandle" ∧ (parseMethodDescriptor y_ST_writeThing.desc).map (fun d => d.parameters.length) = some 3 := hs_ST_writeThing.2
abbrev b_ST_ownNumber : ByteArray := prog_6_method_10_code
def y_ST_ownNumber : MethodName := ⟨R_ST, "ownNumber", "(I)I"⟩
abbrev ws_ST_ownNumber : List Cond := .code y_ST_ownNumber b_ST_ownNumber 2 (some .int) :: gt
theorem hs_ST_ownNumber : y_ST_ownNumber.cls = R_ST ∧ y_ST_ownNumber.cls ≠ "java/lang/invoke/MethodHandle" ∧ y_ST_ownNumber.cls ≠ "java/lang/invoke/VarHandle" ∧ (parseMethodDescriptor y_ST_ownNumber.desc).map (fun d => d.parameters.length) = some 1 := by decide +kernel
theorem ht_ST_ownNumber : y_ST_ownNumber.cls ≠ "java/lang/invoke/MethodHandle" ∧ y_ST_ownNumber.cls ≠ "java/lang/invoke/VarHandle" ∧ (parseMethodDescriptor y_ST_ownNumber.desc).map (fun d => d.parameters.length) = some 1 := hs_ST_ownNumber.2
abbrev b_ST_startFrom : ByteArray := prog_6_method_11_code
def y_ST_startFrom : MethodName := ⟨R_ST, "startFrom", "(I)I"⟩
abbrev ws_ST_startFrom : List Cond := .code y_ST_startFrom b_ST_startFrom 3 (some .int) :: gt
theorem hs_ST_startFrom : y_ST_startFrom.cls = R_ST ∧ y_ST_startFrom.cls ≠ "java/lang/invoke/MethodHandle" ∧ y_ST_startFrom.cls ≠ "java/lang/invoke/VarHandle" ∧ (parseMethodDescriptor y_ST_startFrom.desc).map (fun d => d.parameters.length) = some 1 := by decide +kernel
theorem ht_ST_startFrom : y_ST_startFrom.cls ≠ "java/lang/invoke/MethodHandle" ∧ y_ST_startFrom.cls ≠ "java/lang/invoke/VarHandle" ∧ (parseMethodDescriptor y_ST_startFrom.desc).map (fun d => d.parameters.length) = some 1 := hs_ST_startFrom.2
abbrev b_ST_writeEnd : ByteArray := prog_6_method_12_code
def y_ST_writeEnd : MethodName := ⟨R_ST, "writeEnd", "(II)V"⟩
abbrev ws_ST_writeEnd : List Cond := .code y_ST_writeEnd b_ST_writeEnd 4 none :: gt
theorem hs_ST_writeEnd : y_ST_writeEnd.cls = R_ST ∧ y_ST_writeEnd.cls ≠ "java/lang/invoke/MethodHandle" ∧ y_ST_writeEnd.cls ≠ "java/lang/invoke/VarHandle" ∧ (parseMethodDescriptor y_ST_writeEnd.desc).map (fun d => d.parameters.length) = some 2 := by decide +kernel
theorem ht_ST_writeEnd : y_ST_writeEnd.cls ≠ "java/lang/invoke/MethodHandle" ∧ y_ST_writeEnd.cls ≠ "java/lang/invoke/VarHandle" ∧ (parseMethodDescriptor y_ST_writeEnd.desc).map (fun d => d.parameters.length) = some 2 := hs_ST_writeEnd.2
abbrev b_ST_write : ByteArray := prog_6_method_13_code
def y_ST_write : MethodName := ⟨R_ST, "write", "(III)I"⟩
abbrev ws_ST_write : List Cond := .code y_ST_write b_ST_write 4 (some .int) :: gt
theorem hs_ST_write : y_ST_write.cls = R_ST ∧ y_ST_write.cls ≠ "java/lang/invoke/MethodHandle" ∧ y_ST_write.cls ≠ "java/lang/invoke/VarHandle" ∧ (parseMethodDescriptor y_ST_write.desc).map (fun d => d.parameters.length) = some 3 := by decide +kernel
theorem ht_ST_write : y_ST_write.cls ≠ "java/lang/invoke/MethodHandle" ∧ y_ST_write.cls ≠ "java/lang/invoke/VarHandle" ∧ (parseMethodDescriptor y_ST_write.desc).map (fun d => d.parameters.length) = some 3 := hs_ST_write.2
abbrev b_ST_holds : ByteArray := prog_6_method_14_code
def y_ST_holds : MethodName := ⟨R_ST, "holds", "(I)Z"⟩
abbrev ws_ST_holds : List Cond := .code y_ST_holds b_ST_holds 2 (some .boolean) :: gt
theorem hs_ST_holds : y_ST_holds.cls = R_ST ∧ y_ST_holds.cls ≠ "java/lang/invoke/MethodHandle" ∧ y_ST_holds.cls ≠ "java/lang/invoke/VarHandle" ∧ (parseMethodDescriptor y_ST_holds.desc).map (fun d => d.parameters.length) = some 1 := by decide +kernel
theorem ht_ST_holds : y_ST_holds.cls ≠ "java/lang/invoke/MethodHandle" ∧ y_ST_holds.cls ≠ "java/lang/invoke/VarHandle" ∧ (parseMethodDescriptor y_ST_holds.desc).map (fun d => d.parameters.length) = some 1 := hs_ST_holds.2
abbrev b_ST_operationCount : ByteArray := prog_6_method_15_code
def y_ST_operationCount : MethodName := ⟨R_ST, "operationCount", "()I"⟩
abbrev ws_ST_operationCount : List Cond := .code y_ST_operationCount b_ST_operationCount 1 (some .int) :: gt
theorem hs_ST_operationCount : y_ST_operationCount.cls = R_ST ∧ y_ST_operationCount.cls ≠ "java/lang/invoke/MethodHandle" ∧ y_ST_operationCount.cls ≠ "java/lang/invoke/VarHandle" ∧ (parseMethodDescriptor y_ST_operationCount.desc).map (fun d => d.parameters.length) = some 0 := by decide +kernel
theorem ht_ST_operationCount : y_ST_operationCount.cls ≠ "java/lang/invoke/MethodHandle" ∧ y_ST_operationCount.cls ≠ "java/lang/invoke/VarHandle" ∧ (parseMethodDescriptor y_ST_operationCount.desc).map (fun d => d.parameters.length) = some 0 := hs_ST_operationCount.2
abbrev b_ST_putCount : ByteArray := prog_6_method_16_code
def y_ST_putCount : MethodName := ⟨R_ST, "putCount", "()I"⟩
abbrev ws_ST_putCount : List Cond := .code y_ST_putCount b_ST_putCount 1 (some .int) :: gt
theorem hs_ST_putCount : y_ST_putCount.cls = R_ST ∧ y_ST_putCount.cls ≠ "java/lang/invoke/MethodHandle" ∧ y_ST_putCount.cls ≠ "java/lang/invoke/VarHandle" ∧ (parseMethodDescriptor y_ST_putCount.desc).map (fun d => d.parameters.length) = some 0 := by decide +kernel
theorem ht_ST_putCount : y_ST_putCount.cls ≠ "java/lang/invoke/MethodHandle" ∧ y_ST_putCount.cls ≠ "java/lang/invoke/VarHandle" ∧ (parseMethodDescriptor y_ST_putCount.desc).map (fun d => d.parameters.length) = some 0 := hs_ST_putCount.2
abbrev b_ST_operationAt : ByteArray := prog_6_method_17_code
def y_ST_operationAt : MethodName := ⟨R_ST, "operationAt", "(I)I"⟩
abbrev ws_ST_operationAt : List Cond := .code y_ST_operationAt b_ST_operationAt 2 (some .int) :: gt
theorem hs_ST_operationAt : y_ST_operationAt.cls = R_ST ∧ y_ST_operationAt.cls ≠ "java/lang/invoke/MethodHandle" ∧ y_ST_operationAt.cls ≠ "java/lang/invoke/VarHandle" ∧ (parseMethodDescriptor y_ST_operationAt.desc).map (fun d => d.parameters.length) = some 1 := by decide +kernel
theorem ht_ST_operationAt : y_ST_operationAt.cls ≠ "java/lang/invoke/MethodHandle" ∧ y_ST_operationAt.cls ≠ "java/lang/invoke/VarHandle" ∧ (parseMethodDescriptor y_ST_operationAt.desc).map (fun d => d.parameters.length) = some 1 := hs_ST_operationAt.2
abbrev b_ST_numberAt : ByteArray := prog_6_method_18_code
def y_ST_numberAt : MethodName := ⟨R_ST, "numberAt", "(I)I"⟩
abbrev ws_ST_numberAt : List Cond := .code y_ST_numberAt b_ST_numberAt 2 (some .int) :: gt
theorem hs_ST_numberAt : y_ST_numberAt.cls = R_ST ∧ y_ST_numberAt.cls ≠ "java/lang/invoke/MethodHandle" ∧ y_ST_numberAt.cls ≠ "java/lang/invoke/VarHandle" ∧ (parseMethodDescriptor y_ST_numberAt.desc).map (fun d => d.parameters.length) = some 1 := by decide +kernel
theorem ht_ST_numberAt : y_ST_numberAt.cls ≠ "java/lang/invoke/MethodHandle" ∧ y_ST_numberAt.cls ≠ "java/lang/invoke/VarHandle" ∧ (parseMethodDescriptor y_ST_numberAt.desc).map (fun d => d.parameters.length) = some 1 := hs_ST_numberAt.2
abbrev b_ST_encoded : ByteArray := prog_6_method_19_code
def y_ST_encoded : MethodName := ⟨R_ST, "encoded", "(I)I"⟩
abbrev ws_ST_encoded : List Cond := .code y_ST_encoded b_ST_encoded 3 (some .int) :: gt
theorem hs_ST_encoded : y_ST_encoded.cls = R_ST ∧ y_ST_encoded.cls ≠ "java/lang/invoke/MethodHandle" ∧ y_ST_encoded.cls ≠ "java/lang/invoke/VarHandle" ∧ (parseMethodDescriptor y_ST_encoded.desc).map (fun d => d.parameters.length) = some 1 := by decide +kernel
theorem ht_ST_encoded : y_ST_encoded.cls ≠ "java/lang/invoke/MethodHandle" ∧ y_ST_encoded.cls ≠ "java/lang/invoke/VarHandle" ∧ (parseMethodDescriptor y_ST_encoded.desc).map (fun d => d.parameters.length) = some 1 := hs_ST_encoded.2
abbrev b_MA_init : ByteArray := prog_4_method_1_code
def y_MA_init : MethodName := ⟨R_MA, "<init>", "()V"⟩
abbrev ws_MA_init : List Cond := .code y_MA_init b_MA_init 1 none :: gt
theorem hs_MA_init : y_MA_init.cls = R_MA ∧ y_MA_init.cls ≠ "java/lang/invoke/MethodHandle" ∧ y_MA_init.cls ≠ "java/lang/invoke/VarHandle" ∧ (parseMethodDescriptor y_MA_init.desc).map (fun d => d.parameters.length) = some 0 := by decide +kernel
theorem ht_MA_init : y_MA_init.cls ≠ "java/lang/invoke/MethodHandle" ∧ y_MA_init.cls ≠ "java/lang/invoke/VarHandle" ∧ (parseMethodDescriptor y_MA_init.desc).map (fun d => d.parameters.length) = some 0 := hs_MA_init.2
abbrev b_MA_runInstructions : ByteArray := prog_4_method_2_code
def y_MA_runInstructions : MethodName := ⟨R_MA, "runInstructions", "(LStackCoder$RegisterCode;)I"⟩
abbrev ws_MA_runInstructions : List Cond := .code y_MA_runInstructions b_MA_runInstructions 4 (some .int) :: gt
theorem hs_MA_runInstructions : y_MA_runInstructions.cls = R_MA ∧ y_MA_runInstructions.cls ≠ "java/lang/invoke/MethodHandle" ∧ y_MA_runInstructions.cls ≠ "java/lang/invoke/VarHandle" ∧ (parseMethodDescriptor y_MA_runInstructions.desc).map (fun d => d.parameters.length) = some 1 := by decide +kernel
theorem ht_MA_runInstructions : y_MA_runInstructions.cls ≠ "java/lang/invoke/MethodHandle" ∧ y_MA_runInstructions.cls ≠ "java/lang/invoke/VarHandle" ∧ (parseMethodDescriptor y_MA_runInstructions.desc).map (fun d => d.parameters.length) = some 1 := hs_MA_runInstructions.2
abbrev b_MA_runOperations : ByteArray := prog_4_method_3_code
def y_MA_runOperations : MethodName := ⟨R_MA, "runOperations", "(LStackCoder$StackCode;)I"⟩
abbrev ws_MA_runOperations : List Cond := .code y_MA_runOperations b_MA_runOperations 4 (some .int) :: gt
theorem hs_MA_runOperations : y_MA_runOperations.cls = R_MA ∧ y_MA_runOperations.cls ≠ "java/lang/invoke/MethodHandle" ∧ y_MA_runOperations.cls ≠ "java/lang/invoke/VarHandle" ∧ (parseMethodDescriptor y_MA_runOperations.desc).map (fun d => d.parameters.length) = some 1 := by decide +kernel
theorem ht_MA_runOperations : y_MA_runOperations.cls ≠ "java/lang/invoke/MethodHandle" ∧ y_MA_runOperations.cls ≠ "java/lang/invoke/VarHandle" ∧ (parseMethodDescriptor y_MA_runOperations.desc).map (fun d => d.parameters.length) = some 1 := hs_MA_runOperations.2
abbrev b_MA_reset : ByteArray := prog_4_method_4_code
def y_MA_reset : MethodName := ⟨R_MA, "reset", "()V"⟩
abbrev ws_MA_reset : List Cond := .code y_MA_reset b_MA_reset 2 none :: gt
theorem hs_MA_reset : y_MA_reset.cls = R_MA ∧ y_MA_reset.cls ≠ "java/lang/invoke/MethodHandle" ∧ y_MA_reset.cls ≠ "java/lang/invoke/VarHandle" ∧ (parseMethodDescriptor y_MA_reset.desc).map (fun d => d.parameters.length) = some 0 := by decide +kernel
theorem ht_MA_reset : y_MA_reset.cls ≠ "java/lang/invoke/MethodHandle" ∧ y_MA_reset.cls ≠ "java/lang/invoke/VarHandle" ∧ (parseMethodDescriptor y_MA_reset.desc).map (fun d => d.parameters.length) = some 0 := hs_MA_reset.2
abbrev b_MA_followInstruction : ByteArray := prog_4_method_5_code
def y_MA_followInstruction : MethodName := ⟨R_MA, "followInstruction", "(LStackCoder$RegisterCode;I)I"⟩
abbrev ws_MA_followInstruction : List Cond := .code y_MA_followInstruction b_MA_followInstruction 5 (some .int) :: gt
theorem hs_MA_followInstruction : y_MA_followInstruction.cls = R_MA ∧ y_MA_followInstruction.cls ≠ "java/lang/invoke/MethodHandle" ∧ y_MA_followInstruction.cls ≠ "java/lang/invoke/VarHandle" ∧ (parseMethodDescriptor y_MA_followInstruction.desc).map (fun d => d.parameters.length) = some 2 := by decide +kernel
theorem ht_MA_followInstruction : y_MA_followInstruction.cls ≠ "java/lang/invoke/MethodHandle" ∧ y_MA_followInstruction.cls ≠ "java/lang/invoke/VarHandle" ∧ (parseMethodDescriptor y_MA_followInstruction.desc).map (fun d => d.parameters.length) = some 2 := hs_MA_followInstruction.2
abbrev b_MA_valueOf : ByteArray := prog_4_method_6_code
def y_MA_valueOf : MethodName := ⟨R_MA, "valueOf", "(III)I"⟩
abbrev ws_MA_valueOf : List Cond := .code y_MA_valueOf b_MA_valueOf 4 (some .int) :: gt
theorem hs_MA_valueOf : y_MA_valueOf.cls = R_MA ∧ y_MA_valueOf.cls ≠ "java/lang/invoke/MethodHandle" ∧ y_MA_valueOf.cls ≠ "java/lang/invoke/VarHandle" ∧ (parseMethodDescriptor y_MA_valueOf.desc).map (fun d => d.parameters.length) = some 3 := by decide +kernel
theorem ht_MA_valueOf : y_MA_valueOf.cls ≠ "java/lang/invoke/MethodHandle" ∧ y_MA_valueOf.cls ≠ "java/lang/invoke/VarHandle" ∧ (parseMethodDescriptor y_MA_valueOf.desc).map (fun d => d.parameters.length) = some 3 := hs_MA_valueOf.2
abbrev b_MA_followOperation : ByteArray := prog_4_method_7_code
def y_MA_followOperation : MethodName := ⟨R_MA, "followOperation", "(III)I"⟩
abbrev ws_MA_followOperation : List Cond := .code y_MA_followOperation b_MA_followOperation 4 (some .int) :: gt
theorem hs_MA_followOperation : y_MA_followOperation.cls = R_MA ∧ y_MA_followOperation.cls ≠ "java/lang/invoke/MethodHandle" ∧ y_MA_followOperation.cls ≠ "java/lang/invoke/VarHandle" ∧ (parseMethodDescriptor y_MA_followOperation.desc).map (fun d => d.parameters.length) = some 3 := by decide +kernel
theorem ht_MA_followOperation : y_MA_followOperation.cls ≠ "java/lang/invoke/MethodHandle" ∧ y_MA_followOperation.cls ≠ "java/lang/invoke/VarHandle" ∧ (parseMethodDescriptor y_MA_followOperation.desc).map (fun d => d.parameters.length) = some 3 := hs_MA_followOperation.2
abbrev b_MA_joinTopTwo : ByteArray := prog_4_method_8_code
def y_MA_joinTopTwo : MethodName := ⟨R_MA, "joinTopTwo", "(I)V"⟩
abbrev ws_MA_joinTopTwo : List Cond := .code y_MA_joinTopTwo b_MA_joinTopTwo 4 none :: gt
theorem hs_MA_joinTopTwo : y_MA_joinTopTwo.cls = R_MA ∧ y_MA_joinTopTwo.cls ≠ "java/lang/invoke/MethodHandle" ∧ y_MA_joinTopTwo.cls ≠ "java/lang/invoke/VarHandle" ∧ (parseMethodDescriptor y_MA_joinTopTwo.desc).map (fun d => d.parameters.length) = some 1 := by decide +kernel
theorem ht_MA_joinTopTwo : y_MA_joinTopTwo.cls ≠ "java/lang/invoke/MethodHandle" ∧ y_MA_joinTopTwo.cls ≠ "java/lang/invoke/VarHandle" ∧ (parseMethodDescriptor y_MA_joinTopTwo.desc).map (fun d => d.parameters.length) = some 1 := hs_MA_joinTopTwo.2
abbrev b_MA_push : ByteArray := prog_4_method_9_code
def y_MA_push : MethodName := ⟨R_MA, "push", "(I)V"⟩
abbrev ws_MA_push : List Cond := .code y_MA_push b_MA_push 2 none :: gt
theorem hs_MA_push : y_MA_push.cls = R_MA ∧ y_MA_push.cls ≠ "java/lang/invoke/MethodHandle" ∧ y_MA_push.cls ≠ "java/lang/invoke/VarHandle" ∧ (parseMethodDescriptor y_MA_push.desc).map (fun d => d.parameters.length) = some 1 := by decide +kernel
theorem ht_MA_push : y_MA_push.cls ≠ "java/lang/invoke/MethodHandle" ∧ y_MA_push.cls ≠ "java/lang/invoke/VarHandle" ∧ (parseMethodDescriptor y_MA_push.desc).map (fun d => d.parameters.length) = some 1 := hs_MA_push.2
abbrev b_MA_pop : ByteArray := prog_4_method_10_code
def y_MA_pop : MethodName := ⟨R_MA, "pop", "()I"⟩
abbrev ws_MA_pop : List Cond := .code y_MA_pop b_MA_pop 1 (some .int) :: gt
theorem hs_MA_pop : y_MA_pop.cls = R_MA ∧ y_MA_pop.cls ≠ "java/lang/invoke/MethodHandle" ∧ y_MA_pop.cls ≠ "java/lang/invoke/VarHandle" ∧ (parseMethodDescriptor y_MA_pop.desc).map (fun d => d.parameters.length) = some 0 := by decide +kernel
theorem ht_MA_pop : y_MA_pop.cls ≠ "java/lang/invoke/MethodHandle" ∧ y_MA_pop.cls ≠ "java/lang/invoke/VarHandle" ∧ (parseMethodDescriptor y_MA_pop.desc).map (fun d => d.parameters.length) = some 0 := hs_MA_pop.2
abbrev b_MA_print : ByteArray := prog_4_method_11_code
def y_MA_print : MethodName := ⟨R_MA, "print", "(I)V"⟩
abbrev ws_MA_print : List Cond := .code y_MA_print b_MA_print 2 none :: gt
theorem hs_MA_print : y_MA_print.cls = R_MA ∧ y_MA_print.cls ≠ "java/lang/invoke/MethodHandle" ∧ y_MA_print.cls ≠ "java/lang/invoke/VarHandle" ∧ (parseMethodDescriptor y_MA_print.desc).map (fun d => d.parameters.length) = some 1 := by decide +kernel
theorem ht_MA_print : y_MA_print.cls ≠ "java/lang/invoke/MethodHandle" ∧ y_MA_print.cls ≠ "java/lang/invoke/VarHandle" ∧ (parseMethodDescriptor y_MA_print.desc).map (fun d => d.parameters.length) = some 1 := hs_MA_print.2
abbrev b_MA_cellIndex : ByteArray := prog_4_method_12_code
def y_MA_cellIndex : MethodName := ⟨R_MA, "cellIndex", "(I)I"⟩
abbrev ws_MA_cellIndex : List Cond := .code y_MA_cellIndex b_MA_cellIndex 1 (some .int) :: gt
theorem hs_MA_cellIndex : y_MA_cellIndex.cls = R_MA ∧ y_MA_cellIndex.cls ≠ "java/lang/invoke/MethodHandle" ∧ y_MA_cellIndex.cls ≠ "java/lang/invoke/VarHandle" ∧ (parseMethodDescriptor y_MA_cellIndex.desc).map (fun d => d.parameters.length) = some 1 := by decide +kernel
theorem ht_MA_cellIndex : y_MA_cellIndex.cls ≠ "java/lang/invoke/MethodHandle" ∧ y_MA_cellIndex.cls ≠ "java/lang/invoke/VarHandle" ∧ (parseMethodDescriptor y_MA_cellIndex.desc).map (fun d => d.parameters.length) = some 1 := hs_MA_cellIndex.2
abbrev b_MA_printedNumber : ByteArray := prog_4_method_13_code
def y_MA_printedNumber : MethodName := ⟨R_MA, "printedNumber", "(I)I"⟩
abbrev ws_MA_printedNumber : List Cond := .code y_MA_printedNumber b_MA_printedNumber 2 (some .int) :: gt
theorem hs_MA_printedNumber : y_MA_printedNumber.cls = R_MA ∧ y_MA_printedNumber.cls ≠ "java/lang/invoke/MethodHandle" ∧ y_MA_printedNumber.cls ≠ "java/lang/invoke/VarHandle" ∧ (parseMethodDescriptor y_MA_printedNumber.desc).map (fun d => d.parameters.length) = some 1 := by decide +kernel
theorem ht_MA_printedNumber : y_MA_printedNumber.cls ≠ "java/lang/invoke/MethodHandle" ∧ y_MA_printedNumber.cls ≠ "java/lang/invoke/VarHandle" ∧ (parseMethodDescriptor y_MA_printedNumber.desc).map (fun d => d.parameters.length) = some 1 := hs_MA_printedNumber.2
abbrev b_MA_stepCount : ByteArray := prog_4_method_14_code
def y_MA_stepCount : MethodName := ⟨R_MA, "stepCount", "()I"⟩
abbrev ws_MA_stepCount : List Cond := .code y_MA_stepCount b_MA_stepCount 1 (some .int) :: gt
theorem hs_MA_stepCount : y_MA_stepCount.cls = R_MA ∧ y_MA_stepCount.cls ≠ "java/lang/invoke/MethodHandle" ∧ y_MA_stepCount.cls ≠ "java/lang/invoke/VarHandle" ∧ (parseMethodDescriptor y_MA_stepCount.desc).map (fun d => d.parameters.length) = some 0 := by decide +kernel
theorem ht_MA_stepCount : y_MA_stepCount.cls ≠ "java/lang/invoke/MethodHandle" ∧ y_MA_stepCount.cls ≠ "java/lang/invoke/VarHandle" ∧ (parseMethodDescriptor y_MA_stepCount.desc).map (fun d => d.parameters.length) = some 0 := hs_MA_stepCount.2
abbrev b_MA_cellValue : ByteArray := prog_4_method_15_code
def y_MA_cellValue : MethodName := ⟨R_MA, "cellValue", "(I)I"⟩
abbrev ws_MA_cellValue : List Cond := .code y_MA_cellValue b_MA_cellValue 2 (some .int) :: gt
theorem hs_MA_cellValue : y_MA_cellValue.cls = R_MA ∧ y_MA_cellValue.cls ≠ "java/lang/invoke/MethodHandle" ∧ y_MA_cellValue.cls ≠ "java/lang/invoke/VarHandle" ∧ (parseMethodDescriptor y_MA_cellValue.desc).map (fun d => d.parameters.length) = some 1 := by decide +kernel
theorem ht_MA_cellValue : y_MA_cellValue.cls ≠ "java/lang/invoke/MethodHandle" ∧ y_MA_cellValue.cls ≠ "java/lang/invoke/VarHandle" ∧ (parseMethodDescriptor y_MA_cellValue.desc).map (fun d => d.parameters.length) = some 1 := hs_MA_cellValue.2
abbrev b_MO_init : ByteArray := prog_8_method_1_code
def y_MO_init : MethodName := ⟨R_MO, "<init>", "(I)V"⟩
abbrev ws_MO_init : List Cond := .code y_MO_init b_MO_init 2 none :: gt
theorem hs_MO_init : y_MO_init.cls = R_MO ∧ y_MO_init.cls ≠ "java/lang/invoke/MethodHandle" ∧ y_MO_init.cls ≠ "java/lang/invoke/VarHandle" ∧ (parseMethodDescriptor y_MO_init.desc).map (fun d => d.parameters.length) = some 1 := by decide +kernel
theorem ht_MO_init : y_MO_init.cls ≠ "java/lang/invoke/MethodHandle" ∧ y_MO_init.cls ≠ "java/lang/invoke/VarHandle" ∧ (parseMethodDescriptor y_MO_init.desc).map (fun d => d.parameters.length) = some 1 := hs_MO_init.2
abbrev b_MO_in : ByteArray := prog_8_method_2_code
def y_MO_in : MethodName := ⟨R_MO, "in", "(III)Z"⟩
abbrev ws_MO_in : List Cond := .code y_MO_in b_MO_in 3 (some .boolean) :: gt
theorem hs_MO_in : y_MO_in.cls = R_MO ∧ y_MO_in.cls ≠ "java/lang/invoke/MethodHandle" ∧ y_MO_in.cls ≠ "java/lang/invoke/VarHandle" ∧ (parseMethodDescriptor y_MO_in.desc).map (fun d => d.parameters.length) = some 3 := by decide +kernel
theorem ht_MO_in : y_MO_in.cls ≠ "java/lang/invoke/MethodHandle" ∧ y_MO_in.cls ≠ "java/lang/invoke/VarHandle" ∧ (parseMethodDescriptor y_MO_in.desc).map (fun d => d.parameters.length) = some 3 := hs_MO_in.2
abbrev b_MO_isRegister : ByteArray := prog_8_method_3_code
def y_MO_isRegister : MethodName := ⟨R_MO, "isRegister", "(I)Z"⟩
abbrev ws_MO_isRegister : List Cond := .code y_MO_isRegister b_MO_isRegister 1 (some .boolean) :: gt
theorem hs_MO_isRegister : y_MO_isRegister.cls = R_MO ∧ y_MO_isRegister.cls ≠ "java/lang/invoke/MethodHandle" ∧ y_MO_isRegister.cls ≠ "java/lang/invoke/VarHandle" ∧ (parseMethodDescriptor y_MO_isRegister.desc).map (fun d => d.parameters.length) = some 1 := by decide +kernel
theorem ht_MO_isRegister : y_MO_isRegister.cls ≠ "java/lang/invoke/MethodHandle" ∧ y_MO_isRegister.cls ≠ "java/lang/invoke/VarHandle" ∧ (parseMethodDescriptor y_MO_isRegister.desc).map (fun d => d.parameters.length) = some 1 := hs_MO_isRegister.2
abbrev b_MO_isRight : ByteArray := prog_8_method_4_code
def y_MO_isRight : MethodName := ⟨R_MO, "isRight", "(IIII)Z"⟩
abbrev ws_MO_isRight : List Cond := .code y_MO_isRight b_MO_isRight 7 (some .boolean) :: gt
theorem hs_MO_isRight : y_MO_isRight.cls = R_MO ∧ y_MO_isRight.cls ≠ "java/lang/invoke/MethodHandle" ∧ y_MO_isRight.cls ≠ "java/lang/invoke/VarHandle" ∧ (parseMethodDescriptor y_MO_isRight.desc).map (fun d => d.parameters.length) = some 4 := by decide +kernel
theorem ht_MO_isRight : y_MO_isRight.cls ≠ "java/lang/invoke/MethodHandle" ∧ y_MO_isRight.cls ≠ "java/lang/invoke/VarHandle" ∧ (parseMethodDescriptor y_MO_isRight.desc).map (fun d => d.parameters.length) = some 4 := hs_MO_isRight.2
abbrev b_MO_put : ByteArray := prog_8_method_5_code
def y_MO_put : MethodName := ⟨R_MO, "put", "(IIIII)V"⟩
abbrev ws_MO_put : List Cond := .code y_MO_put b_MO_put 6 none :: gt
theorem hs_MO_put : y_MO_put.cls = R_MO ∧ y_MO_put.cls ≠ "java/lang/invoke/MethodHandle" ∧ y_MO_put.cls ≠ "java/lang/invoke/VarHandle" ∧ (parseMethodDescriptor y_MO_put.desc).map (fun d => d.parameters.length) = some 5 := by decide +kernel
theorem ht_MO_put : y_MO_put.cls ≠ "java/lang/invoke/MethodHandle" ∧ y_MO_put.cls ≠ "java/lang/invoke/VarHandle" ∧ (parseMethodDescriptor y_MO_put.desc).map (fun d => d.parameters.length) = some 5 := hs_MO_put.2
abbrev b_MO_add : ByteArray := prog_8_method_6_code
def y_MO_add : MethodName := ⟨R_MO, "add", "(IIII)I"⟩
abbrev ws_MO_add : List Cond := .code y_MO_add b_MO_add 5 (some .int) :: gt
theorem hs_MO_add : y_MO_add.cls = R_MO ∧ y_MO_add.cls ≠ "java/lang/invoke/MethodHandle" ∧ y_MO_add.cls ≠ "java/lang/invoke/VarHandle" ∧ (parseMethodDescriptor y_MO_add.desc).map (fun d => d.parameters.length) = some 4 := by decide +kernel
theorem ht_MO_add : y_MO_add.cls ≠ "java/lang/invoke/MethodHandle" ∧ y_MO_add.cls ≠ "java/lang/invoke/VarHandle" ∧ (parseMethodDescriptor y_MO_add.desc).map (fun d => d.parameters.length) = some 4 := hs_MO_add.2
abbrev b_MO_set : ByteArray := prog_8_method_7_code
def y_MO_set : MethodName := ⟨R_MO, "set", "(IIIII)Z"⟩
abbrev ws_MO_set : List Cond := .code y_MO_set b_MO_set 6 (some .boolean) :: gt
theorem hs_MO_set : y_MO_set.cls = R_MO ∧ y_MO_set.cls ≠ "java/lang/invoke/MethodHandle" ∧ y_MO_set.cls ≠ "java/lang/invoke/VarHandle" ∧ (parseMethodDescriptor y_MO_set.desc).map (fun d => d.parameters.length) = some 5 := by decide +kernel
theorem ht_MO_set : y_MO_set.cls ≠ "java/lang/invoke/MethodHandle" ∧ y_MO_set.cls ≠ "java/lang/invoke/VarHandle" ∧ (parseMethodDescriptor y_MO_set.desc).map (fun d => d.parameters.length) = some 5 := hs_MO_set.2
abbrev b_MO_cut : ByteArray := prog_8_method_8_code
def y_MO_cut : MethodName := ⟨R_MO, "cut", "(I)Z"⟩
abbrev ws_MO_cut : List Cond := .code y_MO_cut b_MO_cut 2 (some .boolean) :: gt
theorem hs_MO_cut : y_MO_cut.cls = R_MO ∧ y_MO_cut.cls ≠ "java/lang/invoke/MethodHandle" ∧ y_MO_cut.cls ≠ "java/lang/invoke/VarHandle" ∧ (parseMethodDescriptor y_MO_cut.desc).map (fun d => d.parameters.length) = some 1 := by decide +kernel
theorem ht_MO_cut : y_MO_cut.cls ≠ "java/lang/invoke/MethodHandle" ∧ y_MO_cut.cls ≠ "java/lang/invoke/VarHandle" ∧ (parseMethodDescriptor y_MO_cut.desc).map (fun d => d.parameters.length) = some 1 := hs_MO_cut.2
abbrev b_MO_size : ByteArray := prog_8_method_9_code
def y_MO_size : MethodName := ⟨R_MO, "size", "()I"⟩
abbrev ws_MO_size : List Cond := .code y_MO_size b_MO_size 1 (some .int) :: gt
theorem hs_MO_size : y_MO_size.cls = R_MO ∧ y_MO_size.cls ≠ "java/lang/invoke/MethodHandle" ∧ y_MO_size.cls ≠ "java/lang/invoke/VarHandle" ∧ (parseMethodDescriptor y_MO_size.desc).map (fun d => d.parameters.length) = some 0 := by decide +kernel
theorem ht_MO_size : y_MO_size.cls ≠ "java/lang/invoke/MethodHandle" ∧ y_MO_size.cls ≠ "java/lang/invoke/VarHandle" ∧ (parseMethodDescriptor y_MO_size.desc).map (fun d => d.parameters.length) = some 0 := hs_MO_size.2
abbrev b_MO_isWriter : ByteArray := prog_8_method_10_code
def y_MO_isWriter : MethodName := ⟨R_MO, "isWriter", "(I)Z"⟩
abbrev ws_MO_isWriter : List Cond := .code y_MO_isWriter b_MO_isWriter 2 (some .boolean) :: gt
theorem hs_MO_isWriter : y_MO_isWriter.cls = R_MO ∧ y_MO_isWriter.cls ≠ "java/lang/invoke/MethodHandle" ∧ y_MO_isWriter.cls ≠ "java/lang/invoke/VarHandle" ∧ (parseMethodDescriptor y_MO_isWriter.desc).map (fun d => d.parameters.length) = some 1 := by decide +kernel
theorem ht_MO_isWriter : y_MO_isWriter.cls ≠ "java/lang/invoke/MethodHandle" ∧ y_MO_isWriter.cls ≠ "java/lang/invoke/VarHandle" ∧ (parseMethodDescriptor y_MO_isWriter.desc).map (fun d => d.parameters.length) = some 1 := hs_MO_isWriter.2
abbrev b_MO_writes : ByteArray := prog_8_method_11_code
def y_MO_writes : MethodName := ⟨R_MO, "writes", "(II)Z"⟩
abbrev ws_MO_writes : List Cond := .code y_MO_writes b_MO_writes 3 (some .boolean) :: gt
theorem hs_MO_writes : y_MO_writes.cls = R_MO ∧ y_MO_writes.cls ≠ "java/lang/invoke/MethodHandle" ∧ y_MO_writes.cls ≠ "java/lang/invoke/VarHandle" ∧ (parseMethodDescriptor y_MO_writes.desc).map (fun d => d.parameters.length) = some 2 := by decide +kernel
theorem ht_MO_writes : y_MO_writes.cls ≠ "java/lang/invoke/MethodHandle" ∧ y_MO_writes.cls ≠ "java/lang/invoke/VarHandle" ∧ (parseMethodDescriptor y_MO_writes.desc).map (fun d => d.parameters.length) = some 2 := hs_MO_writes.2
abbrev b_MO_readsA : ByteArray := prog_8_method_12_code
def y_MO_readsA : MethodName := ⟨R_MO, "readsA", "(I)Z"⟩
abbrev ws_MO_readsA : List Cond := .code y_MO_readsA b_MO_readsA 2 (some .boolean) :: gt
theorem hs_MO_readsA : y_MO_readsA.cls = R_MO ∧ y_MO_readsA.cls ≠ "java/lang/invoke/MethodHandle" ∧ y_MO_readsA.cls ≠ "java/lang/invoke/VarHandle" ∧ (parseMethodDescriptor y_MO_readsA.desc).map (fun d => d.parameters.length) = some 1 := by decide +kernel
theorem ht_MO_readsA : y_MO_readsA.cls ≠ "java/lang/invoke/MethodHandle" ∧ y_MO_readsA.cls ≠ "java/lang/invoke/VarHandle" ∧ (parseMethodDescriptor y_MO_readsA.desc).map (fun d => d.parameters.length) = some 1 := hs_MO_readsA.2
abbrev b_MO_readsB : ByteArray := prog_8_method_13_code
def y_MO_readsB : MethodName := ⟨R_MO, "readsB", "(I)Z"⟩
abbrev ws_MO_readsB : List Cond := .code y_MO_readsB b_MO_readsB 2 (some .boolean) :: gt
theorem hs_MO_readsB : y_MO_readsB.cls = R_MO ∧ y_MO_readsB.cls ≠ "java/lang/invoke/MethodHandle" ∧ y_MO_readsB.cls ≠ "java/lang/invoke/VarHandle" ∧ (parseMethodDescriptor y_MO_readsB.desc).map (fun d => d.parameters.length) = some 1 := by decide +kernel
theorem ht_MO_readsB : y_MO_readsB.cls ≠ "java/lang/invoke/MethodHandle" ∧ y_MO_readsB.cls ≠ "java/lang/invoke/VarHandle" ∧ (parseMethodDescriptor y_MO_readsB.desc).map (fun d => d.parameters.length) = some 1 := hs_MO_readsB.2
abbrev b_MO_times : ByteArray := prog_8_method_14_code
def y_MO_times : MethodName := ⟨R_MO, "times", "(II)I"⟩
abbrev ws_MO_times : List Cond := .code y_MO_times b_MO_times 3 (some .int) :: gt
theorem hs_MO_times : y_MO_times.cls = R_MO ∧ y_MO_times.cls ≠ "java/lang/invoke/MethodHandle" ∧ y_MO_times.cls ≠ "java/lang/invoke/VarHandle" ∧ (parseMethodDescriptor y_MO_times.desc).map (fun d => d.parameters.length) = some 2 := by decide +kernel
theorem ht_MO_times : y_MO_times.cls ≠ "java/lang/invoke/MethodHandle" ∧ y_MO_times.cls ≠ "java/lang/invoke/VarHandle" ∧ (parseMethodDescriptor y_MO_times.desc).map (fun d => d.parameters.length) = some 2 := hs_MO_times.2
abbrev b_MO_leaves : ByteArray := prog_8_method_15_code
def y_MO_leaves : MethodName := ⟨R_MO, "leaves", "(I)Z"⟩
abbrev ws_MO_leaves : List Cond := .code y_MO_leaves b_MO_leaves 2 (some .boolean) :: gt
theorem hs_MO_leaves : y_MO_leaves.cls = R_MO ∧ y_MO_leaves.cls ≠ "java/lang/invoke/MethodHandle" ∧ y_MO_leaves.cls ≠ "java/lang/invoke/VarHandle" ∧ (parseMethodDescriptor y_MO_leaves.desc).map (fun d => d.parameters.length) = some 1 := by decide +kernel
theorem ht_MO_leaves : y_MO_leaves.cls ≠ "java/lang/invoke/MethodHandle" ∧ y_MO_leaves.cls ≠ "java/lang/invoke/VarHandle" ∧ (parseMethodDescriptor y_MO_leaves.desc).map (fun d => d.parameters.length) = some 1 := hs_MO_leaves.2
abbrev b_MO_findBlocks : ByteArray := prog_8_method_16_code
def y_MO_findBlocks : MethodName := ⟨R_MO, "findBlocks", "()V"⟩
abbrev ws_MO_findBlocks : List Cond := .code y_MO_findBlocks b_MO_findBlocks 2 none :: gt
theorem hs_MO_findBlocks : y_MO_findBlocks.cls = R_MO ∧ y_MO_findBlocks.cls ≠ "java/lang/invoke/MethodHandle" ∧ y_MO_findBlocks.cls ≠ "java/lang/invoke/VarHandle" ∧ (parseMethodDescriptor y_MO_findBlocks.desc).map (fun d => d.parameters.length) = some 0 := by decide +kernel
theorem ht_MO_findBlocks : y_MO_findBlocks.cls ≠ "java/lang/invoke/MethodHandle" ∧ y_MO_findBlocks.cls ≠ "java/lang/invoke/VarHandle" ∧ (parseMethodDescriptor y_MO_findBlocks.desc).map (fun d => d.parameters.length) = some 0 := hs_MO_findBlocks.2
abbrev b_MO_behind : ByteArray := prog_8_method_17_code
def y_MO_behind : MethodName := ⟨R_MO, "behind", "(I)I"⟩
abbrev ws_MO_behind : List Cond := .code y_MO_behind b_MO_behind 2 (some .int) :: gt
theorem hs_MO_behind : y_MO_behind.cls = R_MO ∧ y_MO_behind.cls ≠ "java/lang/invoke/MethodHandle" ∧ y_MO_behind.cls ≠ "java/lang/invoke/VarHandle" ∧ (parseMethodDescriptor y_MO_behind.desc).map (fun d => d.parameters.length) = some 1 := by decide +kernel
theorem ht_MO_behind : y_MO_behind.cls ≠ "java/lang/invoke/MethodHandle" ∧ y_MO_behind.cls ≠ "java/lang/invoke/VarHandle" ∧ (parseMethodDescriptor y_MO_behind.desc).map (fun d => d.parameters.length) = some 1 := hs_MO_behind.2
abbrev b_MO_aliveAt : ByteArray := prog_8_method_18_code
def y_MO_aliveAt : MethodName := ⟨R_MO, "aliveAt", "(I)I"⟩
abbrev ws_MO_aliveAt : List Cond := .code y_MO_aliveAt b_MO_aliveAt 2 (some .int) :: gt
theorem hs_MO_aliveAt : y_MO_aliveAt.cls = R_MO ∧ y_MO_aliveAt.cls ≠ "java/lang/invoke/MethodHandle" ∧ y_MO_aliveAt.cls ≠ "java/lang/invoke/VarHandle" ∧ (parseMethodDescriptor y_MO_aliveAt.desc).map (fun d => d.parameters.length) = some 1 := by decide +kernel
theorem ht_MO_aliveAt : y_MO_aliveAt.cls ≠ "java/lang/invoke/MethodHandle" ∧ y_MO_aliveAt.cls ≠ "java/lang/invoke/VarHandle" ∧ (parseMethodDescriptor y_MO_aliveAt.desc).map (fun d => d.parameters.length) = some 1 := hs_MO_aliveAt.2
abbrev b_MO_findAlive : ByteArray := prog_8_method_19_code
def y_MO_findAlive : MethodName := ⟨R_MO, "findAlive", "()V"⟩
abbrev ws_MO_findAlive : List Cond := .code y_MO_findAlive b_MO_findAlive 4 none :: gt
theorem hs_MO_findAlive : y_MO_findAlive.cls = R_MO ∧ y_MO_findAlive.cls ≠ "java/lang/invoke/MethodHandle" ∧ y_MO_findAlive.cls ≠ "java/lang/invoke/VarHandle" ∧ (parseMethodDescriptor y_MO_findAlive.desc).map (fun d => d.parameters.length) = some 0 := by decide +kernel
theorem ht_MO_findAlive : y_MO_findAlive.cls ≠ "java/lang/invoke/MethodHandle" ∧ y_MO_findAlive.cls ≠ "java/lang/invoke/VarHandle" ∧ (parseMethodDescriptor y_MO_findAlive.desc).map (fun d => d.parameters.length) = some 0 := hs_MO_findAlive.2
abbrev b_MO_blockEnd : ByteArray := prog_8_method_20_code
def y_MO_blockEnd : MethodName := ⟨R_MO, "blockEnd", "(I)I"⟩
abbrev ws_MO_blockEnd : List Cond := .code y_MO_blockEnd b_MO_blockEnd 3 (some .int) :: gt
theorem hs_MO_blockEnd : y_MO_blockEnd.cls = R_MO ∧ y_MO_blockEnd.cls ≠ "java/lang/invoke/MethodHandle" ∧ y_MO_blockEnd.cls ≠ "java/lang/invoke/VarHandle" ∧ (parseMethodDescriptor y_MO_blockEnd.desc).map (fun d => d.parameters.length) = some 1 := by decide +kernel
theorem ht_MO_blockEnd : y_MO_blockEnd.cls ≠ "java/lang/invoke/MethodHandle" ∧ y_MO_blockEnd.cls ≠ "java/lang/invoke/VarHandle" ∧ (parseMethodDescriptor y_MO_blockEnd.desc).map (fun d => d.parameters.length) = some 1 := hs_MO_blockEnd.2
abbrev b_MO_writerBefore : ByteArray := prog_8_method_21_code
def y_MO_writerBefore : MethodName := ⟨R_MO, "writerBefore", "(II)I"⟩
abbrev ws_MO_writerBefore : List Cond := .code y_MO_writerBefore b_MO_writerBefore 4 (some .int) :: gt
theorem hs_MO_writerBefore : y_MO_writerBefore.cls = R_MO ∧ y_MO_writerBefore.cls ≠ "java/lang/invoke/MethodHandle" ∧ y_MO_writerBefore.cls ≠ "java/lang/invoke/VarHandle" ∧ (parseMethodDescriptor y_MO_writerBefore.desc).map (fun d => d.parameters.length) = some 2 := by decide +kernel
theorem ht_MO_writerBefore : y_MO_writerBefore.cls ≠ "java/lang/invoke/MethodHandle" ∧ y_MO_writerBefore.cls ≠ "java/lang/invoke/VarHandle" ∧ (parseMethodDescriptor y_MO_writerBefore.desc).map (fun d => d.parameters.length) = some 2 := hs_MO_writerBefore.2
abbrev b_MO_nextWriter : ByteArray := prog_8_method_22_code
def y_MO_nextWriter : MethodName := ⟨R_MO, "nextWriter", "(I)I"⟩
abbrev ws_MO_nextWriter : List Cond := .code y_MO_nextWriter b_MO_nextWriter 5 (some .int) :: gt
theorem hs_MO_nextWriter : y_MO_nextWriter.cls = R_MO ∧ y_MO_nextWriter.cls ≠ "java/lang/invoke/MethodHandle" ∧ y_MO_nextWriter.cls ≠ "java/lang/invoke/VarHandle" ∧ (parseMethodDescriptor y_MO_nextWriter.desc).map (fun d => d.parameters.length) = some 1 := by decide +kernel
theorem ht_MO_nextWriter : y_MO_nextWriter.cls ≠ "java/lang/invoke/MethodHandle" ∧ y_MO_nextWriter.cls ≠ "java/lang/invoke/VarHandle" ∧ (parseMethodDescriptor y_MO_nextWriter.desc).map (fun d => d.parameters.length) = some 1 := hs_MO_nextWriter.2
abbrev b_MO_canCarry : ByteArray := prog_8_method_23_code
def y_MO_canCarry : MethodName := ⟨R_MO, "canCarry", "(II)Z"⟩
abbrev ws_MO_canCarry : List Cond := .code y_MO_canCarry b_MO_canCarry 8 (some .boolean) :: gt
theorem hs_MO_canCarry : y_MO_canCarry.cls = R_MO ∧ y_MO_canCarry.cls ≠ "java/lang/invoke/MethodHandle" ∧ y_MO_canCarry.cls ≠ "java/lang/invoke/VarHandle" ∧ (parseMethodDescriptor y_MO_canCarry.desc).map (fun d => d.parameters.length) = some 2 := by decide +kernel
theorem ht_MO_canCarry : y_MO_canCarry.cls ≠ "java/lang/invoke/MethodHandle" ∧ y_MO_canCarry.cls ≠ "java/lang/invoke/VarHandle" ∧ (parseMethodDescriptor y_MO_canCarry.desc).map (fun d => d.parameters.length) = some 2 := hs_MO_canCarry.2
abbrev b_MO_needOf : ByteArray := prog_8_method_24_code
def y_MO_needOf : MethodName := ⟨R_MO, "needOf", "(III)I"⟩
abbrev ws_MO_needOf : List Cond := .code y_MO_needOf b_MO_needOf 6 (some .int) :: gt
theorem hs_MO_needOf : y_MO_needOf.cls = R_MO ∧ y_MO_needOf.cls ≠ "java/lang/invoke/MethodHandle" ∧ y_MO_needOf.cls ≠ "java/lang/invoke/VarHandle" ∧ (parseMethodDescriptor y_MO_needOf.desc).map (fun d => d.parameters.length) = some 3 := by decide +kernel
theorem ht_MO_needOf : y_MO_needOf.cls ≠ "java/lang/invoke/MethodHandle" ∧ y_MO_needOf.cls ≠ "java/lang/invoke/VarHandle" ∧ (parseMethodDescriptor y_MO_needOf.desc).map (fun d => d.parameters.length) = some 3 := hs_MO_needOf.2
abbrev b_MO_settle : ByteArray := prog_8_method_25_code
def y_MO_settle : MethodName := ⟨R_MO, "settle", "(I)V"⟩
abbrev ws_MO_settle : List Cond := .code y_MO_settle b_MO_settle 6 none :: gt
theorem hs_MO_settle : y_MO_settle.cls = R_MO ∧ y_MO_settle.cls ≠ "java/lang/invoke/MethodHandle" ∧ y_MO_settle.cls ≠ "java/lang/invoke/VarHandle" ∧ (parseMethodDescriptor y_MO_settle.desc).map (fun d => d.parameters.length) = some 1 := by decide +kernel
theorem ht_MO_settle : y_MO_settle.cls ≠ "java/lang/invoke/MethodHandle" ∧ y_MO_settle.cls ≠ "java/lang/invoke/VarHandle" ∧ (parseMethodDescriptor y_MO_settle.desc).map (fun d => d.parameters.length) = some 1 := hs_MO_settle.2
abbrev b_MO_emit : ByteArray := prog_8_method_26_code
def y_MO_emit : MethodName := ⟨R_MO, "emit", "(II)V"⟩
abbrev ws_MO_emit : List Cond := .code y_MO_emit b_MO_emit 3 none :: gt
theorem hs_MO_emit : y_MO_emit.cls = R_MO ∧ y_MO_emit.cls ≠ "java/lang/invoke/MethodHandle" ∧ y_MO_emit.cls ≠ "java/lang/invoke/VarHandle" ∧ (parseMethodDescriptor y_MO_emit.desc).map (fun d => d.parameters.length) = some 2 := by decide +kernel
theorem ht_MO_emit : y_MO_emit.cls ≠ "java/lang/invoke/MethodHandle" ∧ y_MO_emit.cls ≠ "java/lang/invoke/VarHandle" ∧ (parseMethodDescriptor y_MO_emit.desc).map (fun d => d.parameters.length) = some 2 := hs_MO_emit.2
abbrev b_MO_emitOperation : ByteArray := prog_8_method_27_code
def y_MO_emitOperation : MethodName := ⟨R_MO, "emitOperation", "(I)V"⟩
abbrev ws_MO_emitOperation : List Cond := .code y_MO_emitOperation b_MO_emitOperation 3 none :: gt
theorem hs_MO_emitOperation : y_MO_emitOperation.cls = R_MO ∧ y_MO_emitOperation.cls ≠ "java/lang/invoke/MethodHandle" ∧ y_MO_emitOperation.cls ≠ "java/lang/invoke/VarHandle" ∧ (parseMethodDescriptor y_MO_emitOperation.desc).map (fun d => d.parameters.length) = some 1 := by decide +kernel
theorem ht_MO_emitOperation : y_MO_emitOperation.cls ≠ "java/lang/invoke/MethodHandle" ∧ y_MO_emitOperation.cls ≠ "java/lang/invoke/VarHandle" ∧ (parseMethodDescriptor y_MO_emitOperation.desc).map (fun d => d.parameters.length) = some 1 := hs_MO_emitOperation.2
abbrev b_MO_writeTree : ByteArray := prog_8_method_28_code
def y_MO_writeTree : MethodName := ⟨R_MO, "writeTree", "(I)V"⟩
abbrev ws_MO_writeTree : List Cond := .code y_MO_writeTree b_MO_writeTree 4 none :: gt
theorem hs_MO_writeTree : y_MO_writeTree.cls = R_MO ∧ y_MO_writeTree.cls ≠ "java/lang/invoke/MethodHandle" ∧ y_MO_writeTree.cls ≠ "java/lang/invoke/VarHandle" ∧ (parseMethodDescriptor y_MO_writeTree.desc).map (fun d => d.parameters.length) = some 1 := by decide +kernel
theorem ht_MO_writeTree : y_MO_writeTree.cls ≠ "java/lang/invoke/MethodHandle" ∧ y_MO_writeTree.cls ≠ "java/lang/invoke/VarHandle" ∧ (parseMethodDescriptor y_MO_writeTree.desc).map (fun d => d.parameters.length) = some 1 := hs_MO_writeTree.2
abbrev b_MO_open : ByteArray := prog_8_method_29_code
def y_MO_open : MethodName := ⟨R_MO, "open", "(II)I"⟩
abbrev ws_MO_open : List Cond := .code y_MO_open b_MO_open 9 (some .int) :: gt
theorem hs_MO_open : y_MO_open.cls = R_MO ∧ y_MO_open.cls ≠ "java/lang/invoke/MethodHandle" ∧ y_MO_open.cls ≠ "java/lang/invoke/VarHandle" ∧ (parseMethodDescriptor y_MO_open.desc).map (fun d => d.parameters.length) = some 2 := by decide +kernel
theorem ht_MO_open : y_MO_open.cls ≠ "java/lang/invoke/MethodHandle" ∧ y_MO_open.cls ≠ "java/lang/invoke/VarHandle" ∧ (parseMethodDescriptor y_MO_open.desc).map (fun d => d.parameters.length) = some 2 := hs_MO_open.2
abbrev b_MO_isWanted : ByteArray := prog_8_method_30_code
def y_MO_isWanted : MethodName := ⟨R_MO, "isWanted", "(I)Z"⟩
abbrev ws_MO_isWanted : List Cond := .code y_MO_isWanted b_MO_isWanted 6 (some .boolean) :: gt
theorem hs_MO_isWanted : y_MO_isWanted.cls = R_MO ∧ y_MO_isWanted.cls ≠ "java/lang/invoke/MethodHandle" ∧ y_MO_isWanted.cls ≠ "java/lang/invoke/VarHandle" ∧ (parseMethodDescriptor y_MO_isWanted.desc).map (fun d => d.parameters.length) = some 1 := by decide +kernel
theorem ht_MO_isWanted : y_MO_isWanted.cls ≠ "java/lang/invoke/MethodHandle" ∧ y_MO_isWanted.cls ≠ "java/lang/invoke/VarHandle" ∧ (parseMethodDescriptor y_MO_isWanted.desc).map (fun d => d.parameters.length) = some 1 := hs_MO_isWanted.2
abbrev b_MO_work : ByteArray := prog_8_method_31_code
def y_MO_work : MethodName := ⟨R_MO, "work", "()V"⟩
abbrev ws_MO_work : List Cond := .code y_MO_work b_MO_work 2 none :: gt
theorem hs_MO_work : y_MO_work.cls = R_MO ∧ y_MO_work.cls ≠ "java/lang/invoke/MethodHandle" ∧ y_MO_work.cls ≠ "java/lang/invoke/VarHandle" ∧ (parseMethodDescriptor y_MO_work.desc).map (fun d => d.parameters.length) = some 0 := by decide +kernel
theorem ht_MO_work : y_MO_work.cls ≠ "java/lang/invoke/MethodHandle" ∧ y_MO_work.cls ≠ "java/lang/invoke/VarHandle" ∧ (parseMethodDescriptor y_MO_work.desc).map (fun d => d.parameters.length) = some 0 := hs_MO_work.2
abbrev b_MO_length : ByteArray := prog_8_method_32_code
def y_MO_length : MethodName := ⟨R_MO, "length", "()I"⟩
abbrev ws_MO_length : List Cond := .code y_MO_length b_MO_length 1 (some .int) :: gt
theorem hs_MO_length : y_MO_length.cls = R_MO ∧ y_MO_length.cls ≠ "java/lang/invoke/MethodHandle" ∧ y_MO_length.cls ≠ "java/lang/invoke/VarHandle" ∧ (parseMethodDescriptor y_MO_length.desc).map (fun d => d.parameters.length) = some 0 := by decide +kernel
theorem ht_MO_length : y_MO_length.cls ≠ "java/lang/invoke/MethodHandle" ∧ y_MO_length.cls ≠ "java/lang/invoke/VarHandle" ∧ (parseMethodDescriptor y_MO_length.desc).map (fun d => d.parameters.length) = some 0 := hs_MO_length.2
abbrev b_MO_code : ByteArray := prog_8_method_33_code
def y_MO_code : MethodName := ⟨R_MO, "code", "(I)I"⟩
abbrev ws_MO_code : List Cond := .code y_MO_code b_MO_code 2 (some .int) :: gt
theorem hs_MO_code : y_MO_code.cls = R_MO ∧ y_MO_code.cls ≠ "java/lang/invoke/MethodHandle" ∧ y_MO_code.cls ≠ "java/lang/invoke/VarHandle" ∧ (parseMethodDescriptor y_MO_code.desc).map (fun d => d.parameters.length) = some 1 := by decide +kernel
theorem ht_MO_code : y_MO_code.cls ≠ "java/lang/invoke/MethodHandle" ∧ y_MO_code.cls ≠ "java/lang/invoke/VarHandle" ∧ (parseMethodDescriptor y_MO_code.desc).map (fun d => d.parameters.length) = some 1 := hs_MO_code.2
abbrev b_MO_carried : ByteArray := prog_8_method_34_code
def y_MO_carried : MethodName := ⟨R_MO, "carried", "(I)I"⟩
abbrev ws_MO_carried : List Cond := .code y_MO_carried b_MO_carried 2 (some .int) :: gt
theorem hs_MO_carried : y_MO_carried.cls = R_MO ∧ y_MO_carried.cls ≠ "java/lang/invoke/MethodHandle" ∧ y_MO_carried.cls ≠ "java/lang/invoke/VarHandle" ∧ (parseMethodDescriptor y_MO_carried.desc).map (fun d => d.parameters.length) = some 1 := by decide +kernel
theorem ht_MO_carried : y_MO_carried.cls ≠ "java/lang/invoke/MethodHandle" ∧ y_MO_carried.cls ≠ "java/lang/invoke/VarHandle" ∧ (parseMethodDescriptor y_MO_carried.desc).map (fun d => d.parameters.length) = some 1 := hs_MO_carried.2
abbrev b_MO_need : ByteArray := prog_8_method_35_code
def y_MO_need : MethodName := ⟨R_MO, "need", "(I)I"⟩
abbrev ws_MO_need : List Cond := .code y_MO_need b_MO_need 2 (some .int) :: gt
theorem hs_MO_need : y_MO_need.cls = R_MO ∧ y_MO_need.cls ≠ "java/lang/invoke/MethodHandle" ∧ y_MO_need.cls ≠ "java/lang/invoke/VarHandle" ∧ (parseMethodDescriptor y_MO_need.desc).map (fun d => d.parameters.length) = some 1 := by decide +kernel
theorem ht_MO_need : y_MO_need.cls ≠ "java/lang/invoke/MethodHandle" ∧ y_MO_need.cls ≠ "java/lang/invoke/VarHandle" ∧ (parseMethodDescriptor y_MO_need.desc).map (fun d => d.parameters.length) = some 1 := hs_MO_need.2
abbrev b_MO_live : ByteArray := prog_8_method_36_code
def y_MO_live : MethodName := ⟨R_MO, "live", "(I)I"⟩
abbrev ws_MO_live : List Cond := .code y_MO_live b_MO_live 2 (some .int) :: gt
theorem hs_MO_live : y_MO_live.cls = R_MO ∧ y_MO_live.cls ≠ "java/lang/invoke/MethodHandle" ∧ y_MO_live.cls ≠ "java/lang/invoke/VarHandle" ∧ (parseMethodDescriptor y_MO_live.desc).map (fun d => d.parameters.length) = some 1 := by decide +kernel
theorem ht_MO_live : y_MO_live.cls ≠ "java/lang/invoke/MethodHandle" ∧ y_MO_live.cls ≠ "java/lang/invoke/VarHandle" ∧ (parseMethodDescriptor y_MO_live.desc).map (fun d => d.parameters.length) = some 1 := hs_MO_live.2
abbrev b_MO_stores : ByteArray := prog_8_method_37_code
def y_MO_stores : MethodName := ⟨R_MO, "stores", "()I"⟩
abbrev ws_MO_stores : List Cond := .code y_MO_stores b_MO_stores 3 (some .int) :: gt
theorem hs_MO_stores : y_MO_stores.cls = R_MO ∧ y_MO_stores.cls ≠ "java/lang/invoke/MethodHandle" ∧ y_MO_stores.cls ≠ "java/lang/invoke/VarHandle" ∧ (parseMethodDescriptor y_MO_stores.desc).map (fun d => d.parameters.length) = some 0 := by decide +kernel
theorem ht_MO_stores : y_MO_stores.cls ≠ "java/lang/invoke/MethodHandle" ∧ y_MO_stores.cls ≠ "java/lang/invoke/VarHandle" ∧ (parseMethodDescriptor y_MO_stores.desc).map (fun d => d.parameters.length) = some 0 := hs_MO_stores.2
abbrev b_MO_depth : ByteArray := prog_8_method_38_code
def y_MO_depth : MethodName := ⟨R_MO, "depth", "()I"⟩
abbrev ws_MO_depth : List Cond := .code y_MO_depth b_MO_depth 3 (some .int) :: gt
theorem hs_MO_depth : y_MO_depth.cls = R_MO ∧ y_MO_depth.cls ≠ "java/lang/invoke/MethodHandle" ∧ y_MO_depth.cls ≠ "java/lang/invoke/VarHandle" ∧ (parseMethodDescriptor y_MO_depth.desc).map (fun d => d.parameters.length) = some 0 := by decide +kernel
theorem ht_MO_depth : y_MO_depth.cls ≠ "java/lang/invoke/MethodHandle" ∧ y_MO_depth.cls ≠ "java/lang/invoke/VarHandle" ∧ (parseMethodDescriptor y_MO_depth.desc).map (fun d => d.parameters.length) = some 0 := hs_MO_depth.2
abbrev b_MO_print : ByteArray := prog_8_method_39_code
def y_MO_print : MethodName := ⟨R_MO, "print", "(I)V"⟩
abbrev ws_MO_print : List Cond := .code y_MO_print b_MO_print 2 none :: gt
theorem hs_MO_print : y_MO_print.cls = R_MO ∧ y_MO_print.cls ≠ "java/lang/invoke/MethodHandle" ∧ y_MO_print.cls ≠ "java/lang/invoke/VarHandle" ∧ (parseMethodDescriptor y_MO_print.desc).map (fun d => d.parameters.length) = some 1 := by decide +kernel
theorem ht_MO_print : y_MO_print.cls ≠ "java/lang/invoke/MethodHandle" ∧ y_MO_print.cls ≠ "java/lang/invoke/VarHandle" ∧ (parseMethodDescriptor y_MO_print.desc).map (fun d => d.parameters.length) = some 1 := hs_MO_print.2
abbrev b_MO_combine : ByteArray := prog_8_method_40_code
def y_MO_combine : MethodName := ⟨R_MO, "combine", "(III)I"⟩
abbrev ws_MO_combine : List Cond := .code y_MO_combine b_MO_combine 3 (some .int) :: gt
theorem hs_MO_combine : y_MO_combine.cls = R_MO ∧ y_MO_combine.cls ≠ "java/lang/invoke/MethodHandle" ∧ y_MO_combine.cls ≠ "java/lang/invoke/VarHandle" ∧ (parseMethodDescriptor y_MO_combine.desc).map (fun d => d.parameters.length) = some 3 := by decide +kernel
theorem ht_MO_combine : y_MO_combine.cls ≠ "java/lang/invoke/MethodHandle" ∧ y_MO_combine.cls ≠ "java/lang/invoke/VarHandle" ∧ (parseMethodDescriptor y_MO_combine.desc).map (fun d => d.parameters.length) = some 3 := hs_MO_combine.2
abbrev b_MO_instruct : ByteArray := prog_8_method_41_code
def y_MO_instruct : MethodName := ⟨R_MO, "instruct", "(I)I"⟩
abbrev ws_MO_instruct : List Cond := .code y_MO_instruct b_MO_instruct 5 (some .int) :: gt
theorem hs_MO_instruct : y_MO_instruct.cls = R_MO ∧ y_MO_instruct.cls ≠ "java/lang/invoke/MethodHandle" ∧ y_MO_instruct.cls ≠ "java/lang/invoke/VarHandle" ∧ (parseMethodDescriptor y_MO_instruct.desc).map (fun d => d.parameters.length) = some 1 := by decide +kernel
theorem ht_MO_instruct : y_MO_instruct.cls ≠ "java/lang/invoke/MethodHandle" ∧ y_MO_instruct.cls ≠ "java/lang/invoke/VarHandle" ∧ (parseMethodDescriptor y_MO_instruct.desc).map (fun d => d.parameters.length) = some 1 := hs_MO_instruct.2
abbrev b_MO_runRegisters : ByteArray := prog_8_method_42_code
def y_MO_runRegisters : MethodName := ⟨R_MO, "runRegisters", "()V"⟩
abbrev ws_MO_runRegisters : List Cond := .code y_MO_runRegisters b_MO_runRegisters 2 none :: gt
theorem hs_MO_runRegisters : y_MO_runRegisters.cls = R_MO ∧ y_MO_runRegisters.cls ≠ "java/lang/invoke/MethodHandle" ∧ y_MO_runRegisters.cls ≠ "java/lang/invoke/VarHandle" ∧ (parseMethodDescriptor y_MO_runRegisters.desc).map (fun d => d.parameters.length) = some 0 := by decide +kernel
theorem ht_MO_runRegisters : y_MO_runRegisters.cls ≠ "java/lang/invoke/MethodHandle" ∧ y_MO_runRegisters.cls ≠ "java/lang/invoke/VarHandle" ∧ (parseMethodDescriptor y_MO_runRegisters.desc).map (fun d => d.parameters.length) = some 0 := hs_MO_runRegisters.2
abbrev b_MO_runStack : ByteArray := prog_8_method_43_code
def y_MO_runStack : MethodName := ⟨R_MO, "runStack", "()V"⟩
abbrev ws_MO_runStack : List Cond := .code y_MO_runStack b_MO_runStack 7 none :: gt
theorem hs_MO_runStack : y_MO_runStack.cls = R_MO ∧ y_MO_runStack.cls ≠ "java/lang/invoke/MethodHandle" ∧ y_MO_runStack.cls ≠ "java/lang/invoke/VarHandle" ∧ (parseMethodDescriptor y_MO_runStack.desc).map (fun d => d.parameters.length) = some 0 := by decide +kernel
theorem ht_MO_runStack : y_MO_runStack.cls ≠ "java/lang/invoke/MethodHandle" ∧ y_MO_runStack.cls ≠ "java/lang/invoke/VarHandle" ∧ (parseMethodDescriptor y_MO_runStack.desc).map (fun d => d.parameters.length) = some 0 := hs_MO_runStack.2
abbrev b_MO_run : ByteArray := prog_8_method_44_code
def y_MO_run : MethodName := ⟨R_MO, "run", "(I)I"⟩
abbrev ws_MO_run : List Cond := .code y_MO_run b_MO_run 3 (some .int) :: gt
theorem hs_MO_run : y_MO_run.cls = R_MO ∧ y_MO_run.cls ≠ "java/lang/invoke/MethodHandle" ∧ y_MO_run.cls ≠ "java/lang/invoke/VarHandle" ∧ (parseMethodDescriptor y_MO_run.desc).map (fun d => d.parameters.length) = some 1 := by decide +kernel
theorem ht_MO_run : y_MO_run.cls ≠ "java/lang/invoke/MethodHandle" ∧ y_MO_run.cls ≠ "java/lang/invoke/VarHandle" ∧ (parseMethodDescriptor y_MO_run.desc).map (fun d => d.parameters.length) = some 1 := hs_MO_run.2
abbrev b_MO_out : ByteArray := prog_8_method_45_code
def y_MO_out : MethodName := ⟨R_MO, "out", "(I)I"⟩
abbrev ws_MO_out : List Cond := .code y_MO_out b_MO_out 2 (some .int) :: gt
theorem hs_MO_out : y_MO_out.cls = R_MO ∧ y_MO_out.cls ≠ "java/lang/invoke/MethodHandle" ∧ y_MO_out.cls ≠ "java/lang/invoke/VarHandle" ∧ (parseMethodDescriptor y_MO_out.desc).map (fun d => d.parameters.length) = some 1 := by decide +kernel
theorem ht_MO_out : y_MO_out.cls ≠ "java/lang/invoke/MethodHandle" ∧ y_MO_out.cls ≠ "java/lang/invoke/VarHandle" ∧ (parseMethodDescriptor y_MO_out.desc).map (fun d => d.parameters.length) = some 1 := hs_MO_out.2
abbrev b_MO_steps : ByteArray := prog_8_method_46_code
def y_MO_steps : MethodName := ⟨R_MO, "steps", "()I"⟩
abbrev ws_MO_steps : List Cond := .code y_MO_steps b_MO_steps 1 (some .int) :: gt
theorem hs_MO_steps : y_MO_steps.cls = R_MO ∧ y_MO_steps.cls ≠ "java/lang/invoke/MethodHandle" ∧ y_MO_steps.cls ≠ "java/lang/invoke/VarHandle" ∧ (parseMethodDescriptor y_MO_steps.desc).map (fun d => d.parameters.length) = some 0 := by decide +kernel
theorem ht_MO_steps : y_MO_steps.cls ≠ "java/lang/invoke/MethodHandle" ∧ y_MO_steps.cls ≠ "java/lang/invoke/VarHandle" ∧ (parseMethodDescriptor y_MO_steps.desc).map (fun d => d.parameters.length) = some 0 := hs_MO_steps.2
abbrev b_MO_cell : ByteArray := prog_8_method_47_code
def y_MO_cell : MethodName := ⟨R_MO, "cell", "(I)I"⟩
abbrev ws_MO_cell : List Cond := .code y_MO_cell b_MO_cell 2 (some .int) :: gt
theorem hs_MO_cell : y_MO_cell.cls = R_MO ∧ y_MO_cell.cls ≠ "java/lang/invoke/MethodHandle" ∧ y_MO_cell.cls ≠ "java/lang/invoke/VarHandle" ∧ (parseMethodDescriptor y_MO_cell.desc).map (fun d => d.parameters.length) = some 1 := by decide +kernel
theorem ht_MO_cell : y_MO_cell.cls ≠ "java/lang/invoke/MethodHandle" ∧ y_MO_cell.cls ≠ "java/lang/invoke/VarHandle" ∧ (parseMethodDescriptor y_MO_cell.desc).map (fun d => d.parameters.length) = some 1 := hs_MO_cell.2
end
section
theorem gw_0 : (Jvm.Cond.initialized "StackCoderLaw") ∈ gt := mem_gt 61 (by decide +kernel) rfl
theorem gw_1 : (Jvm.Cond.initialized "StackCoder") ∈ gt := mem_gt 62 (by decide +kernel) rfl
theorem gw_2 : (Jvm.Cond.initialized "StackCoder$RegisterCode") ∈ gt := mem_gt 63 (by decide +kernel) rfl
theorem gw_3 : (Jvm.Cond.initialized "StackCoder$Flow") ∈ gt := mem_gt 64 (by decide +kernel) rfl
theorem gw_4 : (Jvm.Cond.initialized "StackCoder$Carrying") ∈ gt := mem_gt 65 (by decide +kernel) rfl
theorem gw_5 : (Jvm.Cond.initialized "StackCoder$StackCode") ∈ gt := mem_gt 66 (by decide +kernel) rfl
theorem gw_6 : (Jvm.Cond.initialized "StackCoder$Machine") ∈ gt := mem_gt 67 (by decide +kernel) rfl
theorem gw_7 : (Jvm.Cond.initialized "StackCoderModel") ∈ gt := mem_gt 68 (by decide +kernel) rfl
theorem gw_8 : (Jvm.Cond.initialized "java/lang/Math") ∈ gt := mem_gt 69 (by decide +kernel) rfl
theorem gw_9 : (Jvm.Cond.classLink "StackCoderLaw" (7 : Nat) "StackCoder") ∈ gt := mem_gt 70 (by decide +kernel) rfl
theorem gw_10 : (Jvm.Cond.instantiable "StackCoder" (6 : Nat)) ∈ gt := mem_gt 71 (by decide +kernel) rfl
theorem gw_11 : (Jvm.Cond.methodLink "StackCoderLaw" (15 : Nat) ({ cls := "StackCoder", name := "<init>", desc := "(I)V" } : Jvm.MethodName)) ∈ gt := mem_gt 72 (by decide +kernel) rfl
theorem gw_12 : (Jvm.Cond.instanceMethod ({ cls := "StackCoder", name := "<init>", desc := "(I)V" } : Jvm.MethodName)) ∈ gt := mem_gt 73 (by decide +kernel) rfl
theorem gw_13 : (Jvm.Cond.code ({ cls := "StackCoder", name := "<init>", desc := "(I)V" } : Jvm.MethodName) prog_1_method_1_code (3 : Nat) (Option.none : Option Jvm.ClassFile.FieldType)) ∈ gt := mem_gt 74 (by rfl) rfl
theorem gw_14 : (Jvm.Cond.methodLink "StackCoder" (1 : Nat) ({ cls := "java/lang/Object", name := "<init>", desc := "()V" } : Jvm.MethodName)) ∈ gt := mem_gt 75 (by decide +kernel) rfl
theorem gw_15 : (Jvm.Cond.instanceMethod ({ cls := "java/lang/Object", name := "<init>", desc := "()V" } : Jvm.MethodName)) ∈ gt := mem_gt 76 (by decide +kernel) rfl
theorem gw_16 : (Jvm.Cond.code ({ cls := "java/lang/Object", name := "<init>", desc := "()V" } : Jvm.MethodName) object_method_1_code (1 : Nat) (Option.none : Option Jvm.ClassFile.FieldType)) ∈ gt := mem_gt 77 (by rfl) rfl
theorem gw_17 : (Jvm.Cond.classLink "StackCoder" (9 : Nat) "StackCoder$RegisterCode") ∈ gt := mem_gt 78 (by decide +kernel) rfl
theorem gw_18 : (Jvm.Cond.instantiable "StackCoder$RegisterCode" (8 : Nat)) ∈ gt := mem_gt 79 (by decide +kernel) rfl
theorem gw_20 : (Jvm.Cond.instanceMethod ({ cls := "StackCoder$RegisterCode", name := "<init>", desc := "()V" } : Jvm.MethodName)) ∈ gt := mem_gt 81 (by decide +kernel) rfl
theorem gw_21 : (Jvm.Cond.code ({ cls := "StackCoder$RegisterCode", name := "<init>", desc := "()V" } : Jvm.MethodName) prog_5_method_1_code (1 : Nat) (Option.none : Option Jvm.ClassFile.FieldType)) ∈ gt := mem_gt 82 (by rfl) rfl
theorem gw_22 : (Jvm.Cond.methodLink "StackCoder$RegisterCode" (3 : Nat) ({ cls := "java/lang/Object", name := "<init>", desc := "()V" } : Jvm.MethodName)) ∈ gt := mem_gt 83 (by decide +kernel) rfl
theorem gw_23 : (Jvm.Cond.fieldLink "StackCoder$RegisterCode" (9 : Nat) "StackCoder$RegisterCode" "operations" "[I") ∈ gt := mem_gt 84 (by decide +kernel) rfl
theorem gw_24 : (Jvm.Cond.fieldLink "StackCoder$RegisterCode" (15 : Nat) "StackCoder$RegisterCode" "ds" "[I") ∈ gt := mem_gt 85 (by decide +kernel) rfl
theorem gw_25 : (Jvm.Cond.fieldLink "StackCoder$RegisterCode" (18 : Nat) "StackCoder$RegisterCode" "as" "[I") ∈ gt := mem_gt 86 (by decide +kernel) rfl
theorem gw_26 : (Jvm.Cond.fieldLink "StackCoder$RegisterCode" (21 : Nat) "StackCoder$RegisterCode" "bs" "[I") ∈ gt := mem_gt 87 (by decide +kernel) rfl
theorem gw_27 : (Jvm.Cond.fieldLink "StackCoder$RegisterCode" (24 : Nat) "StackCoder$RegisterCode" "written" "[I") ∈ gt := mem_gt 88 (by decide +kernel) rfl
theorem gw_28 : (Jvm.Cond.fieldLink "StackCoder$RegisterCode" (27 : Nat) "StackCoder$RegisterCode" "readA" "[I") ∈ gt := mem_gt 89 (by decide +kernel) rfl
theorem gw_29 : (Jvm.Cond.fieldLink "StackCoder$RegisterCode" (30 : Nat) "StackCoder$RegisterCode" "readB" "[I") ∈ gt := mem_gt 90 (by decide +kernel) rfl
theorem gw_30 : (Jvm.Cond.fieldLink "StackCoder$RegisterCode" (46 : Nat) "StackCoder$RegisterCode" "count" "I") ∈ gt := mem_gt 91 (by decide +kernel) rfl
theorem gw_31 : (Jvm.Cond.laysFinal "StackCoder$RegisterCode" "StackCoder$RegisterCode" "operations" "[I") ∈ gt := mem_gt 92 (by decide +kernel) rfl
theorem gw_33 : (Jvm.Cond.laysFinal "StackCoder$RegisterCode" "StackCoder$RegisterCode" "ds" "[I") ∈ gt := mem_gt 94 (by decide +kernel) rfl
theorem gw_35 : (Jvm.Cond.laysFinal "StackCoder$RegisterCode" "StackCoder$RegisterCode" "as" "[I") ∈ gt := mem_gt 96 (by decide +kernel) rfl
theorem gw_37 : (Jvm.Cond.laysFinal "StackCoder$RegisterCode" "StackCoder$RegisterCode" "bs" "[I") ∈ gt := mem_gt 98 (by decide +kernel) rfl
theorem gw_39 : (Jvm.Cond.laysFinal "StackCoder$RegisterCode" "StackCoder$RegisterCode" "written" "[I") ∈ gt := mem_gt 100 (by decide +kernel) rfl
theorem gw_41 : (Jvm.Cond.laysFinal "StackCoder$RegisterCode" "StackCoder$RegisterCode" "readA" "[I") ∈ gt := mem_gt 102 (by decide +kernel) rfl
theorem gw_43 : (Jvm.Cond.laysFinal "StackCoder$RegisterCode" "StackCoder$RegisterCode" "readB" "[I") ∈ gt := mem_gt 104 (by decide +kernel) rfl
theorem gw_45 : (Jvm.Cond.lays "StackCoder$RegisterCode" "StackCoder$RegisterCode" "count" "I") ∈ gt := mem_gt 106 (by decide +kernel) rfl
theorem gw_48 : (Jvm.Cond.arrayClass Jvm.ClassFile.FieldType.int) ∈ gt := mem_gt 109 (by decide +kernel) rfl
theorem gw_49 : (Jvm.Cond.classLink "StackCoder" (16 : Nat) "StackCoder$Flow") ∈ gt := mem_gt 110 (by decide +kernel) rfl
theorem gw_50 : (Jvm.Cond.instantiable "StackCoder$Flow" (4 : Nat)) ∈ gt := mem_gt 111 (by decide +kernel) rfl
theorem gw_51 : (Jvm.Cond.methodLink "StackCoder" (18 : Nat) ({ cls := "StackCoder$Flow", name := "<init>", desc := "(LStackCoder$RegisterCode;)V" } : Jvm.MethodName)) ∈ gt := mem_gt 112 (by decide +kernel) rfl
theorem gw_52 : (Jvm.Cond.instanceMethod ({ cls := "StackCoder$Flow", name := "<init>", desc := "(LStackCoder$RegisterCode;)V" } : Jvm.MethodName)) ∈ gt := mem_gt 113 (by decide +kernel) rfl
theorem gw_53 : (Jvm.Cond.code ({ cls := "StackCoder$Flow", name := "<init>", desc := "(LStackCoder$RegisterCode;)V" } : Jvm.MethodName) prog_3_method_1_code (2 : Nat) (Option.none : Option Jvm.ClassFile.FieldType)) ∈ gt := mem_gt 114 (by rfl) rfl
theorem gw_54 : (Jvm.Cond.methodLink "StackCoder$Flow" (3 : Nat) ({ cls := "java/lang/Object", name := "<init>", desc := "()V" } : Jvm.MethodName)) ∈ gt := mem_gt 115 (by decide +kernel) rfl
theorem gw_55 : (Jvm.Cond.fieldLink "StackCoder$Flow" (22 : Nat) "StackCoder$Flow" "code" "LStackCoder$RegisterCode;") ∈ gt := mem_gt 116 (by decide +kernel) rfl
theorem gw_56 : (Jvm.Cond.fieldLink "StackCoder$Flow" (9 : Nat) "StackCoder$Flow" "begins" "[Z") ∈ gt := mem_gt 117 (by decide +kernel) rfl
theorem gw_57 : (Jvm.Cond.fieldLink "StackCoder$Flow" (15 : Nat) "StackCoder$Flow" "before" "[I") ∈ gt := mem_gt 118 (by decide +kernel) rfl
theorem gw_58 : (Jvm.Cond.fieldLink "StackCoder$Flow" (19 : Nat) "StackCoder$Flow" "after" "[I") ∈ gt := mem_gt 119 (by decide +kernel) rfl
theorem gw_59 : (Jvm.Cond.laysFinal "StackCoder$Flow" "StackCoder$Flow" "code" "LStackCoder$RegisterCode;") ∈ gt := mem_gt 120 (by decide +kernel) rfl
theorem gw_61 : (Jvm.Cond.laysFinal "StackCoder$Flow" "StackCoder$Flow" "begins" "[Z") ∈ gt := mem_gt 122 (by decide +kernel) rfl
theorem gw_63 : (Jvm.Cond.laysFinal "StackCoder$Flow" "StackCoder$Flow" "before" "[I") ∈ gt := mem_gt 124 (by decide +kernel) rfl
theorem gw_65 : (Jvm.Cond.laysFinal "StackCoder$Flow" "StackCoder$Flow" "after" "[I") ∈ gt := mem_gt 126 (by decide +kernel) rfl
theorem gw_68 : (Jvm.Cond.arrayClass Jvm.ClassFile.FieldType.boolean) ∈ gt := mem_gt 129 (by decide +kernel) rfl
theorem gw_69 : (Jvm.Cond.classLink "StackCoder" (25 : Nat) "StackCoder$Carrying") ∈ gt := mem_gt 130 (by decide +kernel) rfl
theorem gw_70 : (Jvm.Cond.instantiable "StackCoder$Carrying" (9 : Nat)) ∈ gt := mem_gt 131 (by decide +kernel) rfl
theorem gw_71 : (Jvm.Cond.methodLink "StackCoder" (27 : Nat) ({ cls := "StackCoder$Carrying", name := "<init>", desc := "(LStackCoder$RegisterCode;LStackCoder$Flow;I)V" } : Jvm.MethodName)) ∈ gt := mem_gt 132 (by decide +kernel) rfl
theorem gw_72 : (Jvm.Cond.instanceMethod ({ cls := "StackCoder$Carrying", name := "<init>", desc := "(LStackCoder$RegisterCode;LStackCoder$Flow;I)V" } : Jvm.MethodName)) ∈ gt := mem_gt 133 (by decide +kernel) rfl
theorem gw_73 : (Jvm.Cond.code ({ cls := "StackCoder$Carrying", name := "<init>", desc := "(LStackCoder$RegisterCode;LStackCoder$Flow;I)V" } : Jvm.MethodName) prog_2_method_1_code (4 : Nat) (Option.none : Option Jvm.ClassFile.FieldType)) ∈ gt := mem_gt 134 (by rfl) rfl
theorem gw_74 : (Jvm.Cond.methodLink "StackCoder$Carrying" (3 : Nat) ({ cls := "java/lang/Object", name := "<init>", desc := "()V" } : Jvm.MethodName)) ∈ gt := mem_gt 135 (by decide +kernel) rfl
theorem gw_75 : (Jvm.Cond.fieldLink "StackCoder$Carrying" (31 : Nat) "StackCoder$Carrying" "code" "LStackCoder$RegisterCode;") ∈ gt := mem_gt 136 (by decide +kernel) rfl
theorem gw_76 : (Jvm.Cond.fieldLink "StackCoder$Carrying" (35 : Nat) "StackCoder$Carrying" "flow" "LStackCoder$Flow;") ∈ gt := mem_gt 137 (by decide +kernel) rfl
theorem gw_77 : (Jvm.Cond.fieldLink "StackCoder$Carrying" (39 : Nat) "StackCoder$Carrying" "mostNeed" "I") ∈ gt := mem_gt 138 (by decide +kernel) rfl
theorem gw_78 : (Jvm.Cond.fieldLink "StackCoder$Carrying" (9 : Nat) "StackCoder$Carrying" "goals" "[I") ∈ gt := mem_gt 139 (by decide +kernel) rfl
theorem gw_79 : (Jvm.Cond.fieldLink "StackCoder$Carrying" (15 : Nat) "StackCoder$Carrying" "carriedAsA" "[I") ∈ gt := mem_gt 140 (by decide +kernel) rfl
theorem gw_80 : (Jvm.Cond.fieldLink "StackCoder$Carrying" (18 : Nat) "StackCoder$Carrying" "carriedAsB" "[I") ∈ gt := mem_gt 141 (by decide +kernel) rfl
theorem gw_81 : (Jvm.Cond.fieldLink "StackCoder$Carrying" (21 : Nat) "StackCoder$Carrying" "needs" "[I") ∈ gt := mem_gt 142 (by decide +kernel) rfl
theorem gw_82 : (Jvm.Cond.fieldLink "StackCoder$Carrying" (24 : Nat) "StackCoder$Carrying" "treeReads" "[I") ∈ gt := mem_gt 143 (by decide +kernel) rfl
theorem gw_83 : (Jvm.Cond.fieldLink "StackCoder$Carrying" (27 : Nat) "StackCoder$Carrying" "treeLoads" "[Z") ∈ gt := mem_gt 144 (by decide +kernel) rfl
theorem gw_84 : (Jvm.Cond.laysFinal "StackCoder$Carrying" "StackCoder$Carrying" "code" "LStackCoder$RegisterCode;") ∈ gt := mem_gt 145 (by decide +kernel) rfl
theorem gw_86 : (Jvm.Cond.laysFinal "StackCoder$Carrying" "StackCoder$Carrying" "flow" "LStackCoder$Flow;") ∈ gt := mem_gt 147 (by decide +kernel) rfl
theorem gw_88 : (Jvm.Cond.laysFinal "StackCoder$Carrying" "StackCoder$Carrying" "mostNeed" "I") ∈ gt := mem_gt 149 (by decide +kernel) rfl
theorem gw_90 : (Jvm.Cond.laysFinal "StackCoder$Carrying" "StackCoder$Carrying" "goals" "[I") ∈ gt := mem_gt 151 (by decide +kernel) rfl
theorem gw_92 : (Jvm.Cond.laysFinal "StackCoder$Carrying" "StackCoder$Carrying" "carriedAsA" "[I") ∈ gt := mem_gt 153 (by decide +kernel) rfl
theorem gw_94 : (Jvm.Cond.laysFinal "StackCoder$Carrying" "StackCoder$Carrying" "carriedAsB" "[I") ∈ gt := mem_gt 155 (by decide +kernel) rfl
theorem gw_96 : (Jvm.Cond.laysFinal "StackCoder$Carrying" "StackCoder$Carrying" "needs" "[I") ∈ gt := mem_gt 157 (by decide +kernel) rfl
theorem gw_98 : (Jvm.Cond.laysFinal "StackCoder$Carrying" "StackCoder$Carrying" "treeReads" "[I") ∈ gt := mem_gt 159 (by decide +kernel) rfl
theorem gw_100 : (Jvm.Cond.laysFinal "StackCoder$Carrying" "StackCoder$Carrying" "treeLoads" "[Z") ∈ gt := mem_gt 161 (by decide +kernel) rfl
theorem gw_103 : (Jvm.Cond.classLink "StackCoder" (34 : Nat) "StackCoder$StackCode") ∈ gt := mem_gt 164 (by decide +kernel) rfl
theorem gw_104 : (Jvm.Cond.instantiable "StackCoder$StackCode" (9 : Nat)) ∈ gt := mem_gt 165 (by decide +kernel) rfl
theorem gw_105 : (Jvm.Cond.methodLink "StackCoder" (36 : Nat) ({ cls := "StackCoder$StackCode", name := "<init>", desc := "(LStackCoder$RegisterCode;LStackCoder$Flow;LStackCoder$Carrying;)V" } : Jvm.MethodName)) ∈ gt := mem_gt 166 (by decide +kernel) rfl
theorem gw_106 : (Jvm.Cond.instanceMethod ({ cls := "StackCoder$StackCode", name := "<init>", desc := "(LStackCoder$RegisterCode;LStackCoder$Flow;LStackCoder$Carrying;)V" } : Jvm.MethodName)) ∈ gt := mem_gt 167 (by decide +kernel) rfl
theorem gw_107 : (Jvm.Cond.code ({ cls := "StackCoder$StackCode", name := "<init>", desc := "(LStackCoder$RegisterCode;LStackCoder$Flow;LStackCoder$Carrying;)V" } : Jvm.MethodName) prog_6_method_1_code (4 : Nat) (Option.none : Option Jvm.ClassFile.FieldType)) ∈ gt := mem_gt 168 (by rfl) rfl
theorem gw_108 : (Jvm.Cond.methodLink "StackCoder$StackCode" (3 : Nat) ({ cls := "java/lang/Object", name := "<init>", desc := "()V" } : Jvm.MethodName)) ∈ gt := mem_gt 169 (by decide +kernel) rfl
theorem gw_109 : (Jvm.Cond.fieldLink "StackCoder$StackCode" (24 : Nat) "StackCoder$StackCode" "code" "LStackCoder$RegisterCode;") ∈ gt := mem_gt 170 (by decide +kernel) rfl
theorem gw_110 : (Jvm.Cond.fieldLink "StackCoder$StackCode" (28 : Nat) "StackCoder$StackCode" "flow" "LStackCoder$Flow;") ∈ gt := mem_gt 171 (by decide +kernel) rfl
theorem gw_111 : (Jvm.Cond.fieldLink "StackCoder$StackCode" (32 : Nat) "StackCoder$StackCode" "carrying" "LStackCoder$Carrying;") ∈ gt := mem_gt 172 (by decide +kernel) rfl
theorem gw_112 : (Jvm.Cond.fieldLink "StackCoder$StackCode" (11 : Nat) "StackCoder$StackCode" "operations" "[I") ∈ gt := mem_gt 173 (by decide +kernel) rfl
theorem gw_113 : (Jvm.Cond.fieldLink "StackCoder$StackCode" (15 : Nat) "StackCoder$StackCode" "numbers" "[I") ∈ gt := mem_gt 174 (by decide +kernel) rfl
theorem gw_114 : (Jvm.Cond.fieldLink "StackCoder$StackCode" (18 : Nat) "StackCoder$StackCode" "widths" "[I") ∈ gt := mem_gt 175 (by decide +kernel) rfl
theorem gw_115 : (Jvm.Cond.fieldLink "StackCoder$StackCode" (21 : Nat) "StackCoder$StackCode" "starts" "[I") ∈ gt := mem_gt 176 (by decide +kernel) rfl
theorem gw_116 : (Jvm.Cond.fieldLink "StackCoder$StackCode" (36 : Nat) "StackCoder$StackCode" "endPlace" "I") ∈ gt := mem_gt 177 (by decide +kernel) rfl
theorem gw_117 : (Jvm.Cond.fieldLink "StackCoder$StackCode" (40 : Nat) "StackCoder$StackCode" "puts" "I") ∈ gt := mem_gt 178 (by decide +kernel) rfl
theorem gw_118 : (Jvm.Cond.laysFinal "StackCoder$StackCode" "StackCoder$StackCode" "code" "LStackCoder$RegisterCode;") ∈ gt := mem_gt 179 (by decide +kernel) rfl
theorem gw_120 : (Jvm.Cond.laysFinal "StackCoder$StackCode" "StackCoder$StackCode" "flow" "LStackCoder$Flow;") ∈ gt := mem_gt 181 (by decide +kernel) rfl
theorem gw_122 : (Jvm.Cond.laysFinal "StackCoder$StackCode" "StackCoder$StackCode" "carrying" "LStackCoder$Carrying;") ∈ gt := mem_gt 183 (by decide +kernel) rfl
theorem gw_124 : (Jvm.Cond.laysFinal "StackCoder$StackCode" "StackCoder$StackCode" "operations" "[I") ∈ gt := mem_gt 185 (by decide +kernel) rfl
theorem gw_126 : (Jvm.Cond.laysFinal "StackCoder$StackCode" "StackCoder$StackCode" "numbers" "[I") ∈ gt := mem_gt 187 (by decide +kernel) rfl
theorem gw_128 : (Jvm.Cond.laysFinal "StackCoder$StackCode" "StackCoder$StackCode" "widths" "[I") ∈ gt := mem_gt 189 (by decide +kernel) rfl
theorem gw_130 : (Jvm.Cond.laysFinal "StackCoder$StackCode" "StackCoder$StackCode" "starts" "[I") ∈ gt := mem_gt 191 (by decide +kernel) rfl
theorem gw_132 : (Jvm.Cond.lays "StackCoder$StackCode" "StackCoder$StackCode" "endPlace" "I") ∈ gt := mem_gt 193 (by decide +kernel) rfl
theorem gw_134 : (Jvm.Cond.lays "StackCoder$StackCode" "StackCoder$StackCode" "puts" "I") ∈ gt := mem_gt 195 (by decide +kernel) rfl
theorem gw_137 : (Jvm.Cond.classLink "StackCoder" (43 : Nat) "StackCoder$Machine") ∈ gt := mem_gt 198 (by decide +kernel) rfl
theorem gw_138 : (Jvm.Cond.instantiable "StackCoder$Machine" (7 : Nat)) ∈ gt := mem_gt 199 (by decide +kernel) rfl
theorem gw_140 : (Jvm.Cond.instanceMethod ({ cls := "StackCoder$Machine", name := "<init>", desc := "()V" } : Jvm.MethodName)) ∈ gt := mem_gt 201 (by decide +kernel) rfl
theorem gw_141 : (Jvm.Cond.code ({ cls := "StackCoder$Machine", name := "<init>", desc := "()V" } : Jvm.MethodName) prog_4_method_1_code (1 : Nat) (Option.none : Option Jvm.ClassFile.FieldType)) ∈ gt := mem_gt 202 (by rfl) rfl
theorem gw_142 : (Jvm.Cond.methodLink "StackCoder$Machine" (3 : Nat) ({ cls := "java/lang/Object", name := "<init>", desc := "()V" } : Jvm.MethodName)) ∈ gt := mem_gt 203 (by decide +kernel) rfl
theorem gw_143 : (Jvm.Cond.fieldLink "StackCoder$Machine" (9 : Nat) "StackCoder$Machine" "registers" "[I") ∈ gt := mem_gt 204 (by decide +kernel) rfl
theorem gw_144 : (Jvm.Cond.fieldLink "StackCoder$Machine" (15 : Nat) "StackCoder$Machine" "cells" "[I") ∈ gt := mem_gt 205 (by decide +kernel) rfl
theorem gw_145 : (Jvm.Cond.fieldLink "StackCoder$Machine" (18 : Nat) "StackCoder$Machine" "kept" "[I") ∈ gt := mem_gt 206 (by decide +kernel) rfl
theorem gw_146 : (Jvm.Cond.fieldLink "StackCoder$Machine" (21 : Nat) "StackCoder$Machine" "stack" "[I") ∈ gt := mem_gt 207 (by decide +kernel) rfl
theorem gw_147 : (Jvm.Cond.fieldLink "StackCoder$Machine" (58 : Nat) "StackCoder$Machine" "height" "I") ∈ gt := mem_gt 208 (by decide +kernel) rfl
theorem gw_148 : (Jvm.Cond.fieldLink "StackCoder$Machine" (41 : Nat) "StackCoder$Machine" "printed" "I") ∈ gt := mem_gt 209 (by decide +kernel) rfl
theorem gw_149 : (Jvm.Cond.fieldLink "StackCoder$Machine" (37 : Nat) "StackCoder$Machine" "steps" "I") ∈ gt := mem_gt 210 (by decide +kernel) rfl
theorem gw_150 : (Jvm.Cond.laysFinal "StackCoder$Machine" "StackCoder$Machine" "registers" "[I") ∈ gt := mem_gt 211 (by decide +kernel) rfl
theorem gw_152 : (Jvm.Cond.laysFinal "StackCoder$Machine" "StackCoder$Machine" "cells" "[I") ∈ gt := mem_gt 213 (by decide +kernel) rfl
theorem gw_154 : (Jvm.Cond.laysFinal "StackCoder$Machine" "StackCoder$Machine" "kept" "[I") ∈ gt := mem_gt 215 (by decide +kernel) rfl
theorem gw_156 : (Jvm.Cond.laysFinal "StackCoder$Machine" "StackCoder$Machine" "stack" "[I") ∈ gt := mem_gt 217 (by decide +kernel) rfl
theorem gw_158 : (Jvm.Cond.lays "StackCoder$Machine" "StackCoder$Machine" "height" "I") ∈ gt := mem_gt 219 (by decide +kernel) rfl
theorem gw_160 : (Jvm.Cond.lays "StackCoder$Machine" "StackCoder$Machine" "printed" "I") ∈ gt := mem_gt 221 (by decide +kernel) rfl
theorem gw_162 : (Jvm.Cond.lays "StackCoder$Machine" "StackCoder$Machine" "steps" "I") ∈ gt := mem_gt 223 (by decide +kernel) rfl
theorem gw_165 : (Jvm.Cond.fieldLink "StackCoder" (12 : Nat) "StackCoder" "source" "LStackCoder$RegisterCode;") ∈ gt := mem_gt 226 (by decide +kernel) rfl
theorem gw_166 : (Jvm.Cond.fieldLink "StackCoder" (21 : Nat) "StackCoder" "flow" "LStackCoder$Flow;") ∈ gt := mem_gt 227 (by decide +kernel) rfl
theorem gw_167 : (Jvm.Cond.fieldLink "StackCoder" (30 : Nat) "StackCoder" "carrying" "LStackCoder$Carrying;") ∈ gt := mem_gt 228 (by decide +kernel) rfl
theorem gw_168 : (Jvm.Cond.fieldLink "StackCoder" (39 : Nat) "StackCoder" "target" "LStackCoder$StackCode;") ∈ gt := mem_gt 229 (by decide +kernel) rfl
theorem gw_169 : (Jvm.Cond.fieldLink "StackCoder" (46 : Nat) "StackCoder" "machine" "LStackCoder$Machine;") ∈ gt := mem_gt 230 (by decide +kernel) rfl
theorem gw_170 : (Jvm.Cond.fieldLink "StackCoder" (50 : Nat) "StackCoder" "stale" "Z") ∈ gt := mem_gt 231 (by decide +kernel) rfl
theorem gw_171 : (Jvm.Cond.laysFinal "StackCoder" "StackCoder" "source" "LStackCoder$RegisterCode;") ∈ gt := mem_gt 232 (by decide +kernel) rfl
theorem gw_173 : (Jvm.Cond.laysFinal "StackCoder" "StackCoder" "flow" "LStackCoder$Flow;") ∈ gt := mem_gt 234 (by decide +kernel) rfl
theorem gw_175 : (Jvm.Cond.laysFinal "StackCoder" "StackCoder" "carrying" "LStackCoder$Carrying;") ∈ gt := mem_gt 236 (by decide +kernel) rfl
theorem gw_177 : (Jvm.Cond.laysFinal "StackCoder" "StackCoder" "target" "LStackCoder$StackCode;") ∈ gt := mem_gt 238 (by decide +kernel) rfl
theorem gw_179 : (Jvm.Cond.laysFinal "StackCoder" "StackCoder" "machine" "LStackCoder$Machine;") ∈ gt := mem_gt 240 (by decide +kernel) rfl
theorem gw_181 : (Jvm.Cond.lays "StackCoder" "StackCoder" "stale" "Z") ∈ gt := mem_gt 242 (by decide +kernel) rfl
theorem gw_184 : (Jvm.Cond.methodLink "StackCoderLaw" (21 : Nat) ({ cls := "StackCoder", name := "add", desc := "(IIII)I" } : Jvm.MethodName)) ∈ gt := mem_gt 245 (by decide +kernel) rfl
theorem gw_185 : (Jvm.Cond.instanceMethod ({ cls := "StackCoder", name := "add", desc := "(IIII)I" } : Jvm.MethodName)) ∈ gt := mem_gt 246 (by decide +kernel) rfl
theorem gw_186 : (Jvm.Cond.selects "StackCoder" ({ cls := "StackCoder", name := "add", desc := "(IIII)I" } : Jvm.MethodName) ({ cls := "StackCoder", name := "add", desc := "(IIII)I" } : Jvm.MethodName)) ∈ gt := mem_gt 247 (by decide +kernel) rfl
theorem gw_187 : (Jvm.Cond.code ({ cls := "StackCoder", name := "add", desc := "(IIII)I" } : Jvm.MethodName) prog_1_method_2_code (6 : Nat) (Option.some Jvm.ClassFile.FieldType.int)) ∈ gt := mem_gt 248 (by rfl) rfl
theorem gw_188 : (Jvm.Cond.methodLink "StackCoder" (54 : Nat) ({ cls := "StackCoder$RegisterCode", name := "count", desc := "()I" } : Jvm.MethodName)) ∈ gt := mem_gt 249 (by decide +kernel) rfl
theorem gw_189 : (Jvm.Cond.instanceMethod ({ cls := "StackCoder$RegisterCode", name := "count", desc := "()I" } : Jvm.MethodName)) ∈ gt := mem_gt 250 (by decide +kernel) rfl
theorem gw_190 : (Jvm.Cond.selects "StackCoder$RegisterCode" ({ cls := "StackCoder$RegisterCode", name := "count", desc := "()I" } : Jvm.MethodName) ({ cls := "StackCoder$RegisterCode", name := "count", desc := "()I" } : Jvm.MethodName)) ∈ gt := mem_gt 251 (by decide +kernel) rfl
theorem gw_191 : (Jvm.Cond.code ({ cls := "StackCoder$RegisterCode", name := "count", desc := "()I" } : Jvm.MethodName) prog_5_method_4_code (1 : Nat) (Option.some Jvm.ClassFile.FieldType.int)) ∈ gt := mem_gt 252 (by rfl) rfl
theorem gw_192 : (Jvm.Cond.methodLink "StackCoder" (58 : Nat) ({ cls := "StackCoder$RegisterCode", name := "fits", desc := "(IIII)Z" } : Jvm.MethodName)) ∈ gt := mem_gt 253 (by decide +kernel) rfl
theorem gw_193 : (Jvm.Cond.static ({ cls := "StackCoder$RegisterCode", name := "fits", desc := "(IIII)Z" } : Jvm.MethodName)) ∈ gt := mem_gt 254 (by decide +kernel) rfl
theorem gw_194 : (Jvm.Cond.code ({ cls := "StackCoder$RegisterCode", name := "fits", desc := "(IIII)Z" } : Jvm.MethodName) prog_5_method_2_code (4 : Nat) (Option.some Jvm.ClassFile.FieldType.boolean)) ∈ gt := mem_gt 255 (by rfl) rfl
theorem gw_195 : (Jvm.Cond.fieldLink "StackCoder$RegisterCode" (33 : Nat) "StackCoder$RegisterCode" "D_KINDS" "[I") ∈ gt := mem_gt 256 (by decide +kernel) rfl
theorem gw_197 : (Jvm.Cond.methodLink "StackCoder$RegisterCode" (36 : Nat) ({ cls := "StackCoder$RegisterCode", name := "isOfKind", desc := "(II)Z" } : Jvm.MethodName)) ∈ gt := mem_gt 258 (by decide +kernel) rfl
theorem gw_198 : (Jvm.Cond.static ({ cls := "StackCoder$RegisterCode", name := "isOfKind", desc := "(II)Z" } : Jvm.MethodName)) ∈ gt := mem_gt 259 (by decide +kernel) rfl
theorem gw_199 : (Jvm.Cond.code ({ cls := "StackCoder$RegisterCode", name := "isOfKind", desc := "(II)Z" } : Jvm.MethodName) prog_5_method_3_code (2 : Nat) (Option.some Jvm.ClassFile.FieldType.boolean)) ∈ gt := mem_gt 260 (by rfl) rfl
theorem gw_200 : (Jvm.Cond.fieldLink "StackCoder$RegisterCode" (40 : Nat) "StackCoder$RegisterCode" "A_KINDS" "[I") ∈ gt := mem_gt 261 (by decide +kernel) rfl
theorem gw_202 : (Jvm.Cond.fieldLink "StackCoder$RegisterCode" (43 : Nat) "StackCoder$RegisterCode" "B_KINDS" "[I") ∈ gt := mem_gt 263 (by decide +kernel) rfl
theorem gw_204 : (Jvm.Cond.methodLink "StackCoder" (62 : Nat) ({ cls := "StackCoder$RegisterCode", name := "resize", desc := "(I)V" } : Jvm.MethodName)) ∈ gt := mem_gt 265 (by decide +kernel) rfl
theorem gw_205 : (Jvm.Cond.instanceMethod ({ cls := "StackCoder$RegisterCode", name := "resize", desc := "(I)V" } : Jvm.MethodName)) ∈ gt := mem_gt 266 (by decide +kernel) rfl
theorem gw_206 : (Jvm.Cond.selects "StackCoder$RegisterCode" ({ cls := "StackCoder$RegisterCode", name := "resize", desc := "(I)V" } : Jvm.MethodName) ({ cls := "StackCoder$RegisterCode", name := "resize", desc := "(I)V" } : Jvm.MethodName)) ∈ gt := mem_gt 267 (by decide +kernel) rfl
theorem gw_207 : (Jvm.Cond.code ({ cls := "StackCoder$RegisterCode", name := "resize", desc := "(I)V" } : Jvm.MethodName) prog_5_method_6_code (2 : Nat) (Option.none : Option Jvm.ClassFile.FieldType)) ∈ gt := mem_gt 268 (by rfl) rfl
theorem gw_208 : (Jvm.Cond.methodLink "StackCoder" (66 : Nat) ({ cls := "StackCoder$RegisterCode", name := "write", desc := "(IIIII)V" } : Jvm.MethodName)) ∈ gt := mem_gt 269 (by decide +kernel) rfl
theorem gw_209 : (Jvm.Cond.instanceMethod ({ cls := "StackCoder$RegisterCode", name := "write", desc := "(IIIII)V" } : Jvm.MethodName)) ∈ gt := mem_gt 270 (by decide +kernel) rfl
theorem gw_210 : (Jvm.Cond.selects "StackCoder$RegisterCode" ({ cls := "StackCoder$RegisterCode", name := "write", desc := "(IIIII)V" } : Jvm.MethodName) ({ cls := "StackCoder$RegisterCode", name := "write", desc := "(IIIII)V" } : Jvm.MethodName)) ∈ gt := mem_gt 271 (by decide +kernel) rfl
theorem gw_211 : (Jvm.Cond.code ({ cls := "StackCoder$RegisterCode", name := "write", desc := "(IIIII)V" } : Jvm.MethodName) prog_5_method_7_code (6 : Nat) (Option.none : Option Jvm.ClassFile.FieldType)) ∈ gt := mem_gt 272 (by rfl) rfl
theorem gw_212 : (Jvm.Cond.methodLink "StackCoderLaw" (26 : Nat) ({ cls := "StackCoder", name := "set", desc := "(IIIII)Z" } : Jvm.MethodName)) ∈ gt := mem_gt 273 (by decide +kernel) rfl
theorem gw_213 : (Jvm.Cond.instanceMethod ({ cls := "StackCoder", name := "set", desc := "(IIIII)Z" } : Jvm.MethodName)) ∈ gt := mem_gt 274 (by decide +kernel) rfl
theorem gw_214 : (Jvm.Cond.selects "StackCoder" ({ cls := "StackCoder", name := "set", desc := "(IIIII)Z" } : Jvm.MethodName) ({ cls := "StackCoder", name := "set", desc := "(IIIII)Z" } : Jvm.MethodName)) ∈ gt := mem_gt 275 (by decide +kernel) rfl
theorem gw_215 : (Jvm.Cond.code ({ cls := "StackCoder", name := "set", desc := "(IIIII)Z" } : Jvm.MethodName) prog_1_method_3_code (6 : Nat) (Option.some Jvm.ClassFile.FieldType.boolean)) ∈ gt := mem_gt 276 (by rfl) rfl
theorem gw_216 : (Jvm.Cond.methodLink "StackCoder" (70 : Nat) ({ cls := "StackCoder$RegisterCode", name := "holds", desc := "(I)Z" } : Jvm.MethodName)) ∈ gt := mem_gt 277 (by decide +kernel) rfl
theorem gw_217 : (Jvm.Cond.instanceMethod ({ cls := "StackCoder$RegisterCode", name := "holds", desc := "(I)Z" } : Jvm.MethodName)) ∈ gt := mem_gt 278 (by decide +kernel) rfl
theorem gw_218 : (Jvm.Cond.selects "StackCoder$RegisterCode" ({ cls := "StackCoder$RegisterCode", name := "holds", desc := "(I)Z" } : Jvm.MethodName) ({ cls := "StackCoder$RegisterCode", name := "holds", desc := "(I)Z" } : Jvm.MethodName)) ∈ gt := mem_gt 279 (by decide +kernel) rfl
theorem gw_219 : (Jvm.Cond.code ({ cls := "StackCoder$RegisterCode", name := "holds", desc := "(I)Z" } : Jvm.MethodName) prog_5_method_5_code (2 : Nat) (Option.some Jvm.ClassFile.FieldType.boolean)) ∈ gt := mem_gt 280 (by rfl) rfl
theorem gw_220 : (Jvm.Cond.methodLink "StackCoderLaw" (31 : Nat) ({ cls := "StackCoder", name := "cut", desc := "(I)Z" } : Jvm.MethodName)) ∈ gt := mem_gt 281 (by decide +kernel) rfl
theorem gw_221 : (Jvm.Cond.instanceMethod ({ cls := "StackCoder", name := "cut", desc := "(I)Z" } : Jvm.MethodName)) ∈ gt := mem_gt 282 (by decide +kernel) rfl
theorem gw_222 : (Jvm.Cond.selects "StackCoder" ({ cls := "StackCoder", name := "cut", desc := "(I)Z" } : Jvm.MethodName) ({ cls := "StackCoder", name := "cut", desc := "(I)Z" } : Jvm.MethodName)) ∈ gt := mem_gt 283 (by decide +kernel) rfl
theorem gw_223 : (Jvm.Cond.code ({ cls := "StackCoder", name := "cut", desc := "(I)Z" } : Jvm.MethodName) prog_1_method_4_code (2 : Nat) (Option.some Jvm.ClassFile.FieldType.boolean)) ∈ gt := mem_gt 284 (by rfl) rfl
theorem gw_224 : (Jvm.Cond.methodLink "StackCoderLaw" (36 : Nat) ({ cls := "StackCoder", name := "size", desc := "()I" } : Jvm.MethodName)) ∈ gt := mem_gt 285 (by decide +kernel) rfl
theorem gw_225 : (Jvm.Cond.instanceMethod ({ cls := "StackCoder", name := "size", desc := "()I" } : Jvm.MethodName)) ∈ gt := mem_gt 286 (by decide +kernel) rfl
theorem gw_226 : (Jvm.Cond.selects "StackCoder" ({ cls := "StackCoder", name := "size", desc := "()I" } : Jvm.MethodName) ({ cls := "StackCoder", name := "size", desc := "()I" } : Jvm.MethodName)) ∈ gt := mem_gt 287 (by decide +kernel) rfl
theorem gw_227 : (Jvm.Cond.code ({ cls := "StackCoder", name := "size", desc := "()I" } : Jvm.MethodName) prog_1_method_5_code (1 : Nat) (Option.some Jvm.ClassFile.FieldType.int)) ∈ gt := mem_gt 288 (by rfl) rfl
theorem gw_228 : (Jvm.Cond.methodLink "StackCoderLaw" (41 : Nat) ({ cls := "StackCoder", name := "length", desc := "()I" } : Jvm.MethodName)) ∈ gt := mem_gt 289 (by decide +kernel) rfl
theorem gw_229 : (Jvm.Cond.instanceMethod ({ cls := "StackCoder", name := "length", desc := "()I" } : Jvm.MethodName)) ∈ gt := mem_gt 290 (by decide +kernel) rfl
theorem gw_230 : (Jvm.Cond.selects "StackCoder" ({ cls := "StackCoder", name := "length", desc := "()I" } : Jvm.MethodName) ({ cls := "StackCoder", name := "length", desc := "()I" } : Jvm.MethodName)) ∈ gt := mem_gt 291 (by decide +kernel) rfl
theorem gw_231 : (Jvm.Cond.code ({ cls := "StackCoder", name := "length", desc := "()I" } : Jvm.MethodName) prog_1_method_6_code (1 : Nat) (Option.some Jvm.ClassFile.FieldType.int)) ∈ gt := mem_gt 292 (by rfl) rfl
theorem gw_232 : (Jvm.Cond.methodLink "StackCoder" (74 : Nat) ({ cls := "StackCoder", name := "translate", desc := "()V" } : Jvm.MethodName)) ∈ gt := mem_gt 293 (by decide +kernel) rfl
theorem gw_234 : (Jvm.Cond.instanceMethod ({ cls := "StackCoder", name := "translate", desc := "()V" } : Jvm.MethodName)) ∈ gt := mem_gt 295 (by decide +kernel) rfl
theorem gw_235 : (Jvm.Cond.code ({ cls := "StackCoder", name := "translate", desc := "()V" } : Jvm.MethodName) prog_1_method_17_code (1 : Nat) (Option.none : Option Jvm.ClassFile.FieldType)) ∈ gt := mem_gt 296 (by rfl) rfl
theorem gw_236 : (Jvm.Cond.methodLink "StackCoder" (117 : Nat) ({ cls := "StackCoder$Flow", name := "trace", desc := "()V" } : Jvm.MethodName)) ∈ gt := mem_gt 297 (by decide +kernel) rfl
theorem gw_237 : (Jvm.Cond.instanceMethod ({ cls := "StackCoder$Flow", name := "trace", desc := "()V" } : Jvm.MethodName)) ∈ gt := mem_gt 298 (by decide +kernel) rfl
theorem gw_238 : (Jvm.Cond.selects "StackCoder$Flow" ({ cls := "StackCoder$Flow", name := "trace", desc := "()V" } : Jvm.MethodName) ({ cls := "StackCoder$Flow", name := "trace", desc := "()V" } : Jvm.MethodName)) ∈ gt := mem_gt 299 (by decide +kernel) rfl
theorem gw_239 : (Jvm.Cond.code ({ cls := "StackCoder$Flow", name := "trace", desc := "()V" } : Jvm.MethodName) prog_3_method_3_code (3 : Nat) (Option.none : Option Jvm.ClassFile.FieldType)) ∈ gt := mem_gt 300 (by rfl) rfl
theorem gw_240 : (Jvm.Cond.methodLink "StackCoder$Flow" (26 : Nat) ({ cls := "StackCoder$Flow", name := "markBlocks", desc := "()V" } : Jvm.MethodName)) ∈ gt := mem_gt 301 (by decide +kernel) rfl
theorem gw_242 : (Jvm.Cond.instanceMethod ({ cls := "StackCoder$Flow", name := "markBlocks", desc := "()V" } : Jvm.MethodName)) ∈ gt := mem_gt 303 (by decide +kernel) rfl
theorem gw_243 : (Jvm.Cond.code ({ cls := "StackCoder$Flow", name := "markBlocks", desc := "()V" } : Jvm.MethodName) prog_3_method_4_code (2 : Nat) (Option.none : Option Jvm.ClassFile.FieldType)) ∈ gt := mem_gt 304 (by rfl) rfl
theorem gw_244 : (Jvm.Cond.methodLink "StackCoder$Flow" (29 : Nat) ({ cls := "StackCoder$RegisterCode", name := "count", desc := "()I" } : Jvm.MethodName)) ∈ gt := mem_gt 305 (by decide +kernel) rfl
theorem gw_245 : (Jvm.Cond.methodLink "StackCoder$Flow" (39 : Nat) ({ cls := "StackCoder$RegisterCode", name := "operationOf", desc := "(I)I" } : Jvm.MethodName)) ∈ gt := mem_gt 306 (by decide +kernel) rfl
theorem gw_246 : (Jvm.Cond.instanceMethod ({ cls := "StackCoder$RegisterCode", name := "operationOf", desc := "(I)I" } : Jvm.MethodName)) ∈ gt := mem_gt 307 (by decide +kernel) rfl
theorem gw_247 : (Jvm.Cond.selects "StackCoder$RegisterCode" ({ cls := "StackCoder$RegisterCode", name := "operationOf", desc := "(I)I" } : Jvm.MethodName) ({ cls := "StackCoder$RegisterCode", name := "operationOf", desc := "(I)I" } : Jvm.MethodName)) ∈ gt := mem_gt 308 (by decide +kernel) rfl
theorem gw_248 : (Jvm.Cond.code ({ cls := "StackCoder$RegisterCode", name := "operationOf", desc := "(I)I" } : Jvm.MethodName) prog_5_method_8_code (2 : Nat) (Option.some Jvm.ClassFile.FieldType.int)) ∈ gt := mem_gt 309 (by rfl) rfl
theorem gw_249 : (Jvm.Cond.methodLink "StackCoder$Flow" (43 : Nat) ({ cls := "StackCoder$RegisterCode", name := "aOf", desc := "(I)I" } : Jvm.MethodName)) ∈ gt := mem_gt 310 (by decide +kernel) rfl
theorem gw_250 : (Jvm.Cond.instanceMethod ({ cls := "StackCoder$RegisterCode", name := "aOf", desc := "(I)I" } : Jvm.MethodName)) ∈ gt := mem_gt 311 (by decide +kernel) rfl
theorem gw_251 : (Jvm.Cond.selects "StackCoder$RegisterCode" ({ cls := "StackCoder$RegisterCode", name := "aOf", desc := "(I)I" } : Jvm.MethodName) ({ cls := "StackCoder$RegisterCode", name := "aOf", desc := "(I)I" } : Jvm.MethodName)) ∈ gt := mem_gt 312 (by decide +kernel) rfl
theorem gw_252 : (Jvm.Cond.code ({ cls := "StackCoder$RegisterCode", name := "aOf", desc := "(I)I" } : Jvm.MethodName) prog_5_method_10_code (2 : Nat) (Option.some Jvm.ClassFile.FieldType.int)) ∈ gt := mem_gt 313 (by rfl) rfl
theorem gw_253 : (Jvm.Cond.methodLink "StackCoder$Flow" (46 : Nat) ({ cls := "StackCoder$Flow", name := "markBegin", desc := "(I)V" } : Jvm.MethodName)) ∈ gt := mem_gt 314 (by decide +kernel) rfl
theorem gw_255 : (Jvm.Cond.instanceMethod ({ cls := "StackCoder$Flow", name := "markBegin", desc := "(I)V" } : Jvm.MethodName)) ∈ gt := mem_gt 316 (by decide +kernel) rfl
theorem gw_256 : (Jvm.Cond.code ({ cls := "StackCoder$Flow", name := "markBegin", desc := "(I)V" } : Jvm.MethodName) prog_3_method_5_code (2 : Nat) (Option.none : Option Jvm.ClassFile.FieldType)) ∈ gt := mem_gt 317 (by rfl) rfl
theorem gw_257 : (Jvm.Cond.methodLink "StackCoder$Flow" (53 : Nat) ({ cls := "StackCoder$RegisterCode", name := "holds", desc := "(I)Z" } : Jvm.MethodName)) ∈ gt := mem_gt 318 (by decide +kernel) rfl
theorem gw_258 : (Jvm.Cond.methodLink "StackCoder$Flow" (50 : Nat) ({ cls := "StackCoder$RegisterCode", name := "bOf", desc := "(I)I" } : Jvm.MethodName)) ∈ gt := mem_gt 319 (by decide +kernel) rfl
theorem gw_259 : (Jvm.Cond.instanceMethod ({ cls := "StackCoder$RegisterCode", name := "bOf", desc := "(I)I" } : Jvm.MethodName)) ∈ gt := mem_gt 320 (by decide +kernel) rfl
theorem gw_260 : (Jvm.Cond.selects "StackCoder$RegisterCode" ({ cls := "StackCoder$RegisterCode", name := "bOf", desc := "(I)I" } : Jvm.MethodName) ({ cls := "StackCoder$RegisterCode", name := "bOf", desc := "(I)I" } : Jvm.MethodName)) ∈ gt := mem_gt 321 (by decide +kernel) rfl
theorem gw_261 : (Jvm.Cond.code ({ cls := "StackCoder$RegisterCode", name := "bOf", desc := "(I)I" } : Jvm.MethodName) prog_5_method_11_code (2 : Nat) (Option.some Jvm.ClassFile.FieldType.int)) ∈ gt := mem_gt 322 (by rfl) rfl
theorem gw_262 : (Jvm.Cond.methodLink "StackCoder$Flow" (35 : Nat) ({ cls := "StackCoder$Flow", name := "flowBack", desc := "()Z" } : Jvm.MethodName)) ∈ gt := mem_gt 323 (by decide +kernel) rfl
theorem gw_264 : (Jvm.Cond.instanceMethod ({ cls := "StackCoder$Flow", name := "flowBack", desc := "()Z" } : Jvm.MethodName)) ∈ gt := mem_gt 325 (by decide +kernel) rfl
theorem gw_265 : (Jvm.Cond.code ({ cls := "StackCoder$Flow", name := "flowBack", desc := "()Z" } : Jvm.MethodName) prog_3_method_6_code (5 : Nat) (Option.some Jvm.ClassFile.FieldType.boolean)) ∈ gt := mem_gt 326 (by rfl) rfl
theorem gw_266 : (Jvm.Cond.methodLink "StackCoder$Flow" (57 : Nat) ({ cls := "StackCoder$Flow", name := "gatherAfter", desc := "(I)I" } : Jvm.MethodName)) ∈ gt := mem_gt 327 (by decide +kernel) rfl
theorem gw_268 : (Jvm.Cond.instanceMethod ({ cls := "StackCoder$Flow", name := "gatherAfter", desc := "(I)I" } : Jvm.MethodName)) ∈ gt := mem_gt 329 (by decide +kernel) rfl
theorem gw_269 : (Jvm.Cond.code ({ cls := "StackCoder$Flow", name := "gatherAfter", desc := "(I)I" } : Jvm.MethodName) prog_3_method_7_code (2 : Nat) (Option.some Jvm.ClassFile.FieldType.int)) ∈ gt := mem_gt 330 (by rfl) rfl
theorem gw_270 : (Jvm.Cond.methodLink "StackCoder$Flow" (72 : Nat) ({ cls := "StackCoder$Flow", name := "liveBefore", desc := "(I)I" } : Jvm.MethodName)) ∈ gt := mem_gt 331 (by decide +kernel) rfl
theorem gw_271 : (Jvm.Cond.instanceMethod ({ cls := "StackCoder$Flow", name := "liveBefore", desc := "(I)I" } : Jvm.MethodName)) ∈ gt := mem_gt 332 (by decide +kernel) rfl
theorem gw_272 : (Jvm.Cond.selects "StackCoder$Flow" ({ cls := "StackCoder$Flow", name := "liveBefore", desc := "(I)I" } : Jvm.MethodName) ({ cls := "StackCoder$Flow", name := "liveBefore", desc := "(I)I" } : Jvm.MethodName)) ∈ gt := mem_gt 333 (by decide +kernel) rfl
theorem gw_273 : (Jvm.Cond.code ({ cls := "StackCoder$Flow", name := "liveBefore", desc := "(I)I" } : Jvm.MethodName) prog_3_method_9_code (2 : Nat) (Option.some Jvm.ClassFile.FieldType.int)) ∈ gt := mem_gt 334 (by rfl) rfl
theorem gw_274 : (Jvm.Cond.methodLink "StackCoder$Flow" (60 : Nat) ({ cls := "StackCoder$RegisterCode", name := "readAsA", desc := "(I)I" } : Jvm.MethodName)) ∈ gt := mem_gt 335 (by decide +kernel) rfl
theorem gw_275 : (Jvm.Cond.instanceMethod ({ cls := "StackCoder$RegisterCode", name := "readAsA", desc := "(I)I" } : Jvm.MethodName)) ∈ gt := mem_gt 336 (by decide +kernel) rfl
theorem gw_276 : (Jvm.Cond.selects "StackCoder$RegisterCode" ({ cls := "StackCoder$RegisterCode", name := "readAsA", desc := "(I)I" } : Jvm.MethodName) ({ cls := "StackCoder$RegisterCode", name := "readAsA", desc := "(I)I" } : Jvm.MethodName)) ∈ gt := mem_gt 337 (by decide +kernel) rfl
theorem gw_277 : (Jvm.Cond.code ({ cls := "StackCoder$RegisterCode", name := "readAsA", desc := "(I)I" } : Jvm.MethodName) prog_5_method_13_code (2 : Nat) (Option.some Jvm.ClassFile.FieldType.int)) ∈ gt := mem_gt 338 (by rfl) rfl
theorem gw_278 : (Jvm.Cond.methodLink "StackCoder$Flow" (63 : Nat) ({ cls := "StackCoder$Flow", name := "setOf", desc := "(I)I" } : Jvm.MethodName)) ∈ gt := mem_gt 339 (by decide +kernel) rfl
theorem gw_279 : (Jvm.Cond.static ({ cls := "StackCoder$Flow", name := "setOf", desc := "(I)I" } : Jvm.MethodName)) ∈ gt := mem_gt 340 (by decide +kernel) rfl
theorem gw_280 : (Jvm.Cond.code ({ cls := "StackCoder$Flow", name := "setOf", desc := "(I)I" } : Jvm.MethodName) prog_3_method_2_code (1 : Nat) (Option.some Jvm.ClassFile.FieldType.int)) ∈ gt := mem_gt 341 (by rfl) rfl
theorem gw_281 : (Jvm.Cond.methodLink "StackCoder$Flow" (66 : Nat) ({ cls := "StackCoder$RegisterCode", name := "readAsB", desc := "(I)I" } : Jvm.MethodName)) ∈ gt := mem_gt 342 (by decide +kernel) rfl
theorem gw_282 : (Jvm.Cond.instanceMethod ({ cls := "StackCoder$RegisterCode", name := "readAsB", desc := "(I)I" } : Jvm.MethodName)) ∈ gt := mem_gt 343 (by decide +kernel) rfl
theorem gw_283 : (Jvm.Cond.selects "StackCoder$RegisterCode" ({ cls := "StackCoder$RegisterCode", name := "readAsB", desc := "(I)I" } : Jvm.MethodName) ({ cls := "StackCoder$RegisterCode", name := "readAsB", desc := "(I)I" } : Jvm.MethodName)) ∈ gt := mem_gt 344 (by decide +kernel) rfl
theorem gw_284 : (Jvm.Cond.code ({ cls := "StackCoder$RegisterCode", name := "readAsB", desc := "(I)I" } : Jvm.MethodName) prog_5_method_14_code (2 : Nat) (Option.some Jvm.ClassFile.FieldType.int)) ∈ gt := mem_gt 345 (by rfl) rfl
theorem gw_285 : (Jvm.Cond.methodLink "StackCoder$Flow" (69 : Nat) ({ cls := "StackCoder$RegisterCode", name := "writtenBy", desc := "(I)I" } : Jvm.MethodName)) ∈ gt := mem_gt 346 (by decide +kernel) rfl
theorem gw_286 : (Jvm.Cond.instanceMethod ({ cls := "StackCoder$RegisterCode", name := "writtenBy", desc := "(I)I" } : Jvm.MethodName)) ∈ gt := mem_gt 347 (by decide +kernel) rfl
theorem gw_287 : (Jvm.Cond.selects "StackCoder$RegisterCode" ({ cls := "StackCoder$RegisterCode", name := "writtenBy", desc := "(I)I" } : Jvm.MethodName) ({ cls := "StackCoder$RegisterCode", name := "writtenBy", desc := "(I)I" } : Jvm.MethodName)) ∈ gt := mem_gt 348 (by decide +kernel) rfl
theorem gw_288 : (Jvm.Cond.code ({ cls := "StackCoder$RegisterCode", name := "writtenBy", desc := "(I)I" } : Jvm.MethodName) prog_5_method_12_code (2 : Nat) (Option.some Jvm.ClassFile.FieldType.int)) ∈ gt := mem_gt 349 (by rfl) rfl
theorem gw_289 : (Jvm.Cond.methodLink "StackCoder" (120 : Nat) ({ cls := "StackCoder$Carrying", name := "settle", desc := "()V" } : Jvm.MethodName)) ∈ gt := mem_gt 350 (by decide +kernel) rfl
theorem gw_290 : (Jvm.Cond.instanceMethod ({ cls := "StackCoder$Carrying", name := "settle", desc := "()V" } : Jvm.MethodName)) ∈ gt := mem_gt 351 (by decide +kernel) rfl
theorem gw_291 : (Jvm.Cond.selects "StackCoder$Carrying" ({ cls := "StackCoder$Carrying", name := "settle", desc := "()V" } : Jvm.MethodName) ({ cls := "StackCoder$Carrying", name := "settle", desc := "()V" } : Jvm.MethodName)) ∈ gt := mem_gt 352 (by decide +kernel) rfl
theorem gw_292 : (Jvm.Cond.code ({ cls := "StackCoder$Carrying", name := "settle", desc := "()V" } : Jvm.MethodName) prog_2_method_2_code (2 : Nat) (Option.none : Option Jvm.ClassFile.FieldType)) ∈ gt := mem_gt 353 (by rfl) rfl
theorem gw_293 : (Jvm.Cond.methodLink "StackCoder$Carrying" (43 : Nat) ({ cls := "StackCoder$RegisterCode", name := "count", desc := "()I" } : Jvm.MethodName)) ∈ gt := mem_gt 354 (by decide +kernel) rfl
theorem gw_294 : (Jvm.Cond.methodLink "StackCoder$Carrying" (49 : Nat) ({ cls := "StackCoder$Carrying", name := "carryInto", desc := "(I)V" } : Jvm.MethodName)) ∈ gt := mem_gt 355 (by decide +kernel) rfl
theorem gw_296 : (Jvm.Cond.instanceMethod ({ cls := "StackCoder$Carrying", name := "carryInto", desc := "(I)V" } : Jvm.MethodName)) ∈ gt := mem_gt 357 (by decide +kernel) rfl
theorem gw_297 : (Jvm.Cond.code ({ cls := "StackCoder$Carrying", name := "carryInto", desc := "(I)V" } : Jvm.MethodName) prog_2_method_3_code (4 : Nat) (Option.none : Option Jvm.ClassFile.FieldType)) ∈ gt := mem_gt 358 (by rfl) rfl
theorem gw_298 : (Jvm.Cond.methodLink "StackCoder$Carrying" (56 : Nat) ({ cls := "StackCoder$RegisterCode", name := "readAsA", desc := "(I)I" } : Jvm.MethodName)) ∈ gt := mem_gt 359 (by decide +kernel) rfl
theorem gw_299 : (Jvm.Cond.methodLink "StackCoder$Carrying" (60 : Nat) ({ cls := "StackCoder$Carrying", name := "carriable", desc := "(II)I" } : Jvm.MethodName)) ∈ gt := mem_gt 360 (by decide +kernel) rfl
theorem gw_301 : (Jvm.Cond.instanceMethod ({ cls := "StackCoder$Carrying", name := "carriable", desc := "(II)I" } : Jvm.MethodName)) ∈ gt := mem_gt 362 (by decide +kernel) rfl
theorem gw_302 : (Jvm.Cond.code ({ cls := "StackCoder$Carrying", name := "carriable", desc := "(II)I" } : Jvm.MethodName) prog_2_method_5_code (5 : Nat) (Option.some Jvm.ClassFile.FieldType.int)) ∈ gt := mem_gt 363 (by rfl) rfl
theorem gw_303 : (Jvm.Cond.methodLink "StackCoder$Carrying" (81 : Nat) ({ cls := "StackCoder$Carrying", name := "lastWriter", desc := "(II)I" } : Jvm.MethodName)) ∈ gt := mem_gt 364 (by decide +kernel) rfl
theorem gw_305 : (Jvm.Cond.instanceMethod ({ cls := "StackCoder$Carrying", name := "lastWriter", desc := "(II)I" } : Jvm.MethodName)) ∈ gt := mem_gt 366 (by decide +kernel) rfl
theorem gw_306 : (Jvm.Cond.code ({ cls := "StackCoder$Carrying", name := "lastWriter", desc := "(II)I" } : Jvm.MethodName) prog_2_method_6_code (4 : Nat) (Option.some Jvm.ClassFile.FieldType.int)) ∈ gt := mem_gt 367 (by rfl) rfl
theorem gw_307 : (Jvm.Cond.methodLink "StackCoder$Carrying" (94 : Nat) ({ cls := "StackCoder$Flow", name := "beginsBlock", desc := "(I)Z" } : Jvm.MethodName)) ∈ gt := mem_gt 368 (by decide +kernel) rfl
theorem gw_308 : (Jvm.Cond.instanceMethod ({ cls := "StackCoder$Flow", name := "beginsBlock", desc := "(I)Z" } : Jvm.MethodName)) ∈ gt := mem_gt 369 (by decide +kernel) rfl
theorem gw_309 : (Jvm.Cond.selects "StackCoder$Flow" ({ cls := "StackCoder$Flow", name := "beginsBlock", desc := "(I)Z" } : Jvm.MethodName) ({ cls := "StackCoder$Flow", name := "beginsBlock", desc := "(I)Z" } : Jvm.MethodName)) ∈ gt := mem_gt 370 (by decide +kernel) rfl
theorem gw_310 : (Jvm.Cond.code ({ cls := "StackCoder$Flow", name := "beginsBlock", desc := "(I)Z" } : Jvm.MethodName) prog_3_method_8_code (2 : Nat) (Option.some Jvm.ClassFile.FieldType.boolean)) ∈ gt := mem_gt 371 (by rfl) rfl
theorem gw_311 : (Jvm.Cond.methodLink "StackCoder$Carrying" (99 : Nat) ({ cls := "StackCoder$RegisterCode", name := "writtenBy", desc := "(I)I" } : Jvm.MethodName)) ∈ gt := mem_gt 372 (by decide +kernel) rfl
theorem gw_312 : (Jvm.Cond.methodLink "StackCoder$Carrying" (84 : Nat) ({ cls := "StackCoder$RegisterCode", name := "readsOnce", desc := "(II)Z" } : Jvm.MethodName)) ∈ gt := mem_gt 373 (by decide +kernel) rfl
theorem gw_313 : (Jvm.Cond.instanceMethod ({ cls := "StackCoder$RegisterCode", name := "readsOnce", desc := "(II)Z" } : Jvm.MethodName)) ∈ gt := mem_gt 374 (by decide +kernel) rfl
theorem gw_314 : (Jvm.Cond.selects "StackCoder$RegisterCode" ({ cls := "StackCoder$RegisterCode", name := "readsOnce", desc := "(II)Z" } : Jvm.MethodName) ({ cls := "StackCoder$RegisterCode", name := "readsOnce", desc := "(II)Z" } : Jvm.MethodName)) ∈ gt := mem_gt 375 (by decide +kernel) rfl
theorem gw_315 : (Jvm.Cond.code ({ cls := "StackCoder$RegisterCode", name := "readsOnce", desc := "(II)Z" } : Jvm.MethodName) prog_5_method_16_code (3 : Nat) (Option.some Jvm.ClassFile.FieldType.boolean)) ∈ gt := mem_gt 376 (by rfl) rfl
theorem gw_316 : (Jvm.Cond.methodLink "StackCoder$Carrying" (88 : Nat) ({ cls := "StackCoder$Carrying", name := "isReadByNoneBut", desc := "(II)Z" } : Jvm.MethodName)) ∈ gt := mem_gt 377 (by decide +kernel) rfl
theorem gw_318 : (Jvm.Cond.instanceMethod ({ cls := "StackCoder$Carrying", name := "isReadByNoneBut", desc := "(II)Z" } : Jvm.MethodName)) ∈ gt := mem_gt 379 (by decide +kernel) rfl
theorem gw_319 : (Jvm.Cond.code ({ cls := "StackCoder$Carrying", name := "isReadByNoneBut", desc := "(II)Z" } : Jvm.MethodName) prog_2_method_7_code (6 : Nat) (Option.some Jvm.ClassFile.FieldType.boolean)) ∈ gt := mem_gt 380 (by rfl) rfl
theorem gw_320 : (Jvm.Cond.methodLink "StackCoder$Carrying" (102 : Nat) ({ cls := "StackCoder$RegisterCode", name := "reads", desc := "(II)Z" } : Jvm.MethodName)) ∈ gt := mem_gt 381 (by decide +kernel) rfl
theorem gw_321 : (Jvm.Cond.instanceMethod ({ cls := "StackCoder$RegisterCode", name := "reads", desc := "(II)Z" } : Jvm.MethodName)) ∈ gt := mem_gt 382 (by decide +kernel) rfl
theorem gw_322 : (Jvm.Cond.selects "StackCoder$RegisterCode" ({ cls := "StackCoder$RegisterCode", name := "reads", desc := "(II)Z" } : Jvm.MethodName) ({ cls := "StackCoder$RegisterCode", name := "reads", desc := "(II)Z" } : Jvm.MethodName)) ∈ gt := mem_gt 383 (by decide +kernel) rfl
theorem gw_323 : (Jvm.Cond.code ({ cls := "StackCoder$RegisterCode", name := "reads", desc := "(II)Z" } : Jvm.MethodName) prog_5_method_15_code (3 : Nat) (Option.some Jvm.ClassFile.FieldType.boolean)) ∈ gt := mem_gt 384 (by rfl) rfl
theorem gw_324 : (Jvm.Cond.methodLink "StackCoder$Carrying" (105 : Nat) ({ cls := "StackCoder$Flow", name := "liveAfter", desc := "(I)I" } : Jvm.MethodName)) ∈ gt := mem_gt 385 (by decide +kernel) rfl
theorem gw_325 : (Jvm.Cond.instanceMethod ({ cls := "StackCoder$Flow", name := "liveAfter", desc := "(I)I" } : Jvm.MethodName)) ∈ gt := mem_gt 386 (by decide +kernel) rfl
theorem gw_326 : (Jvm.Cond.selects "StackCoder$Flow" ({ cls := "StackCoder$Flow", name := "liveAfter", desc := "(I)I" } : Jvm.MethodName) ({ cls := "StackCoder$Flow", name := "liveAfter", desc := "(I)I" } : Jvm.MethodName)) ∈ gt := mem_gt 387 (by decide +kernel) rfl
theorem gw_327 : (Jvm.Cond.code ({ cls := "StackCoder$Flow", name := "liveAfter", desc := "(I)I" } : Jvm.MethodName) prog_3_method_10_code (2 : Nat) (Option.some Jvm.ClassFile.FieldType.int)) ∈ gt := mem_gt 388 (by rfl) rfl
theorem gw_328 : (Jvm.Cond.methodLink "StackCoder$Carrying" (108 : Nat) ({ cls := "StackCoder$Flow", name := "setOf", desc := "(I)I" } : Jvm.MethodName)) ∈ gt := mem_gt 389 (by decide +kernel) rfl
theorem gw_329 : (Jvm.Cond.methodLink "StackCoder$Carrying" (91 : Nat) ({ cls := "StackCoder$Carrying", name := "canWait", desc := "(II)Z" } : Jvm.MethodName)) ∈ gt := mem_gt 390 (by decide +kernel) rfl
theorem gw_331 : (Jvm.Cond.instanceMethod ({ cls := "StackCoder$Carrying", name := "canWait", desc := "(II)Z" } : Jvm.MethodName)) ∈ gt := mem_gt 392 (by decide +kernel) rfl
theorem gw_332 : (Jvm.Cond.code ({ cls := "StackCoder$Carrying", name := "canWait", desc := "(II)Z" } : Jvm.MethodName) prog_2_method_8_code (4 : Nat) (Option.some Jvm.ClassFile.FieldType.boolean)) ∈ gt := mem_gt 393 (by rfl) rfl
theorem gw_333 : (Jvm.Cond.methodLink "StackCoder$Carrying" (74 : Nat) ({ cls := "StackCoder$RegisterCode", name := "operationOf", desc := "(I)I" } : Jvm.MethodName)) ∈ gt := mem_gt 394 (by decide +kernel) rfl
theorem gw_334 : (Jvm.Cond.methodLink "StackCoder$Carrying" (64 : Nat) ({ cls := "StackCoder$Carrying", name := "needWith", desc := "(III)I" } : Jvm.MethodName)) ∈ gt := mem_gt 395 (by decide +kernel) rfl
theorem gw_336 : (Jvm.Cond.instanceMethod ({ cls := "StackCoder$Carrying", name := "needWith", desc := "(III)I" } : Jvm.MethodName)) ∈ gt := mem_gt 397 (by decide +kernel) rfl
theorem gw_337 : (Jvm.Cond.code ({ cls := "StackCoder$Carrying", name := "needWith", desc := "(III)I" } : Jvm.MethodName) prog_2_method_9_code (6 : Nat) (Option.some Jvm.ClassFile.FieldType.int)) ∈ gt := mem_gt 398 (by rfl) rfl
theorem gw_338 : (Jvm.Cond.methodLink "StackCoder$Carrying" (111 : Nat) ({ cls := "StackCoder$Carrying", name := "thingNeed", desc := "(I)I" } : Jvm.MethodName)) ∈ gt := mem_gt 399 (by decide +kernel) rfl
theorem gw_340 : (Jvm.Cond.instanceMethod ({ cls := "StackCoder$Carrying", name := "thingNeed", desc := "(I)I" } : Jvm.MethodName)) ∈ gt := mem_gt 401 (by decide +kernel) rfl
theorem gw_341 : (Jvm.Cond.code ({ cls := "StackCoder$Carrying", name := "thingNeed", desc := "(I)I" } : Jvm.MethodName) prog_2_method_10_code (2 : Nat) (Option.some Jvm.ClassFile.FieldType.int)) ∈ gt := mem_gt 402 (by rfl) rfl
theorem gw_342 : (Jvm.Cond.methodLink "StackCoder$Carrying" (68 : Nat) ({ cls := "StackCoder$RegisterCode", name := "readAsB", desc := "(I)I" } : Jvm.MethodName)) ∈ gt := mem_gt 403 (by decide +kernel) rfl
theorem gw_343 : (Jvm.Cond.methodLink "StackCoder$Carrying" (114 : Nat) ({ cls := "java/lang/Math", name := "max", desc := "(II)I" } : Jvm.MethodName)) ∈ gt := mem_gt 404 (by decide +kernel) rfl
theorem gw_344 : (Jvm.Cond.static ({ cls := "java/lang/Math", name := "max", desc := "(II)I" } : Jvm.MethodName)) ∈ gt := mem_gt 405 (by decide +kernel) rfl
theorem gw_345 : (Jvm.Cond.code ({ cls := "java/lang/Math", name := "max", desc := "(II)I" } : Jvm.MethodName) prog_9_method_65_code (2 : Nat) (Option.some Jvm.ClassFile.FieldType.int)) ∈ gt := mem_gt 406 (by rfl) rfl
theorem gw_346 : (Jvm.Cond.methodLink "StackCoder$Carrying" (53 : Nat) ({ cls := "StackCoder$Carrying", name := "noteTree", desc := "(I)V" } : Jvm.MethodName)) ∈ gt := mem_gt 407 (by decide +kernel) rfl
theorem gw_348 : (Jvm.Cond.instanceMethod ({ cls := "StackCoder$Carrying", name := "noteTree", desc := "(I)V" } : Jvm.MethodName)) ∈ gt := mem_gt 409 (by decide +kernel) rfl
theorem gw_349 : (Jvm.Cond.code ({ cls := "StackCoder$Carrying", name := "noteTree", desc := "(I)V" } : Jvm.MethodName) prog_2_method_4_code (4 : Nat) (Option.none : Option Jvm.ClassFile.FieldType)) ∈ gt := mem_gt 410 (by rfl) rfl
theorem gw_350 : (Jvm.Cond.methodLink "StackCoder$Carrying" (71 : Nat) ({ cls := "StackCoder$Carrying", name := "thingReads", desc := "(II)I" } : Jvm.MethodName)) ∈ gt := mem_gt 411 (by decide +kernel) rfl
theorem gw_352 : (Jvm.Cond.instanceMethod ({ cls := "StackCoder$Carrying", name := "thingReads", desc := "(II)I" } : Jvm.MethodName)) ∈ gt := mem_gt 413 (by decide +kernel) rfl
theorem gw_353 : (Jvm.Cond.code ({ cls := "StackCoder$Carrying", name := "thingReads", desc := "(II)I" } : Jvm.MethodName) prog_2_method_11_code (3 : Nat) (Option.some Jvm.ClassFile.FieldType.int)) ∈ gt := mem_gt 414 (by rfl) rfl
theorem gw_354 : (Jvm.Cond.methodLink "StackCoder$Carrying" (77 : Nat) ({ cls := "StackCoder$Carrying", name := "thingLoads", desc := "(I)Z" } : Jvm.MethodName)) ∈ gt := mem_gt 415 (by decide +kernel) rfl
theorem gw_356 : (Jvm.Cond.instanceMethod ({ cls := "StackCoder$Carrying", name := "thingLoads", desc := "(I)Z" } : Jvm.MethodName)) ∈ gt := mem_gt 417 (by decide +kernel) rfl
theorem gw_357 : (Jvm.Cond.code ({ cls := "StackCoder$Carrying", name := "thingLoads", desc := "(I)Z" } : Jvm.MethodName) prog_2_method_12_code (2 : Nat) (Option.some Jvm.ClassFile.FieldType.boolean)) ∈ gt := mem_gt 418 (by rfl) rfl
theorem gw_358 : (Jvm.Cond.methodLink "StackCoder" (123 : Nat) ({ cls := "StackCoder$StackCode", name := "layOut", desc := "()V" } : Jvm.MethodName)) ∈ gt := mem_gt 419 (by decide +kernel) rfl
theorem gw_359 : (Jvm.Cond.instanceMethod ({ cls := "StackCoder$StackCode", name := "layOut", desc := "()V" } : Jvm.MethodName)) ∈ gt := mem_gt 420 (by decide +kernel) rfl
theorem gw_360 : (Jvm.Cond.selects "StackCoder$StackCode" ({ cls := "StackCoder$StackCode", name := "layOut", desc := "()V" } : Jvm.MethodName) ({ cls := "StackCoder$StackCode", name := "layOut", desc := "()V" } : Jvm.MethodName)) ∈ gt := mem_gt 421 (by decide +kernel) rfl
theorem gw_361 : (Jvm.Cond.code ({ cls := "StackCoder$StackCode", name := "layOut", desc := "()V" } : Jvm.MethodName) prog_6_method_2_code (2 : Nat) (Option.none : Option Jvm.ClassFile.FieldType)) ∈ gt := mem_gt 422 (by rfl) rfl
theorem gw_362 : (Jvm.Cond.methodLink "StackCoder$StackCode" (43 : Nat) ({ cls := "StackCoder$RegisterCode", name := "count", desc := "()I" } : Jvm.MethodName)) ∈ gt := mem_gt 423 (by decide +kernel) rfl
theorem gw_363 : (Jvm.Cond.methodLink "StackCoder$StackCode" (49 : Nat) ({ cls := "StackCoder$StackCode", name := "widthOf", desc := "(I)I" } : Jvm.MethodName)) ∈ gt := mem_gt 424 (by decide +kernel) rfl
theorem gw_365 : (Jvm.Cond.instanceMethod ({ cls := "StackCoder$StackCode", name := "widthOf", desc := "(I)I" } : Jvm.MethodName)) ∈ gt := mem_gt 426 (by decide +kernel) rfl
theorem gw_366 : (Jvm.Cond.code ({ cls := "StackCoder$StackCode", name := "widthOf", desc := "(I)I" } : Jvm.MethodName) prog_6_method_3_code (3 : Nat) (Option.some Jvm.ClassFile.FieldType.int)) ∈ gt := mem_gt 427 (by rfl) rfl
theorem gw_367 : (Jvm.Cond.methodLink "StackCoder$StackCode" (67 : Nat) ({ cls := "StackCoder$RegisterCode", name := "readAsA", desc := "(I)I" } : Jvm.MethodName)) ∈ gt := mem_gt 428 (by decide +kernel) rfl
theorem gw_368 : (Jvm.Cond.methodLink "StackCoder$StackCode" (70 : Nat) ({ cls := "StackCoder$Carrying", name := "inForA", desc := "(I)I" } : Jvm.MethodName)) ∈ gt := mem_gt 429 (by decide +kernel) rfl
theorem gw_369 : (Jvm.Cond.instanceMethod ({ cls := "StackCoder$Carrying", name := "inForA", desc := "(I)I" } : Jvm.MethodName)) ∈ gt := mem_gt 430 (by decide +kernel) rfl
theorem gw_370 : (Jvm.Cond.selects "StackCoder$Carrying" ({ cls := "StackCoder$Carrying", name := "inForA", desc := "(I)I" } : Jvm.MethodName) ({ cls := "StackCoder$Carrying", name := "inForA", desc := "(I)I" } : Jvm.MethodName)) ∈ gt := mem_gt 431 (by decide +kernel) rfl
theorem gw_371 : (Jvm.Cond.code ({ cls := "StackCoder$Carrying", name := "inForA", desc := "(I)I" } : Jvm.MethodName) prog_2_method_15_code (2 : Nat) (Option.some Jvm.ClassFile.FieldType.int)) ∈ gt := mem_gt 432 (by rfl) rfl
theorem gw_372 : (Jvm.Cond.methodLink "StackCoder$StackCode" (73 : Nat) ({ cls := "StackCoder$StackCode", name := "thingWidth", desc := "(II)I" } : Jvm.MethodName)) ∈ gt := mem_gt 433 (by decide +kernel) rfl
theorem gw_374 : (Jvm.Cond.instanceMethod ({ cls := "StackCoder$StackCode", name := "thingWidth", desc := "(II)I" } : Jvm.MethodName)) ∈ gt := mem_gt 435 (by decide +kernel) rfl
theorem gw_375 : (Jvm.Cond.code ({ cls := "StackCoder$StackCode", name := "thingWidth", desc := "(II)I" } : Jvm.MethodName) prog_6_method_4_code (3 : Nat) (Option.some Jvm.ClassFile.FieldType.int)) ∈ gt := mem_gt 436 (by rfl) rfl
theorem gw_376 : (Jvm.Cond.methodLink "StackCoder$StackCode" (77 : Nat) ({ cls := "StackCoder$RegisterCode", name := "readAsB", desc := "(I)I" } : Jvm.MethodName)) ∈ gt := mem_gt 437 (by decide +kernel) rfl
theorem gw_377 : (Jvm.Cond.methodLink "StackCoder$StackCode" (80 : Nat) ({ cls := "StackCoder$Carrying", name := "inForB", desc := "(I)I" } : Jvm.MethodName)) ∈ gt := mem_gt 438 (by decide +kernel) rfl
theorem gw_378 : (Jvm.Cond.instanceMethod ({ cls := "StackCoder$Carrying", name := "inForB", desc := "(I)I" } : Jvm.MethodName)) ∈ gt := mem_gt 439 (by decide +kernel) rfl
theorem gw_379 : (Jvm.Cond.selects "StackCoder$Carrying" ({ cls := "StackCoder$Carrying", name := "inForB", desc := "(I)I" } : Jvm.MethodName) ({ cls := "StackCoder$Carrying", name := "inForB", desc := "(I)I" } : Jvm.MethodName)) ∈ gt := mem_gt 440 (by decide +kernel) rfl
theorem gw_380 : (Jvm.Cond.code ({ cls := "StackCoder$Carrying", name := "inForB", desc := "(I)I" } : Jvm.MethodName) prog_2_method_16_code (2 : Nat) (Option.some Jvm.ClassFile.FieldType.int)) ∈ gt := mem_gt 441 (by rfl) rfl
theorem gw_381 : (Jvm.Cond.methodLink "StackCoder$StackCode" (83 : Nat) ({ cls := "StackCoder$StackCode", name := "needsSwap", desc := "(I)Z" } : Jvm.MethodName)) ∈ gt := mem_gt 442 (by decide +kernel) rfl
theorem gw_383 : (Jvm.Cond.instanceMethod ({ cls := "StackCoder$StackCode", name := "needsSwap", desc := "(I)Z" } : Jvm.MethodName)) ∈ gt := mem_gt 444 (by decide +kernel) rfl
theorem gw_384 : (Jvm.Cond.code ({ cls := "StackCoder$StackCode", name := "needsSwap", desc := "(I)Z" } : Jvm.MethodName) prog_6_method_5_code (3 : Nat) (Option.some Jvm.ClassFile.FieldType.boolean)) ∈ gt := mem_gt 445 (by rfl) rfl
theorem gw_385 : (Jvm.Cond.methodLink "StackCoder$StackCode" (89 : Nat) ({ cls := "StackCoder$RegisterCode", name := "operationOf", desc := "(I)I" } : Jvm.MethodName)) ∈ gt := mem_gt 446 (by decide +kernel) rfl
theorem gw_386 : (Jvm.Cond.methodLink "StackCoder$StackCode" (95 : Nat) ({ cls := "StackCoder$Carrying", name := "takesBFirst", desc := "(I)Z" } : Jvm.MethodName)) ∈ gt := mem_gt 447 (by decide +kernel) rfl
theorem gw_387 : (Jvm.Cond.instanceMethod ({ cls := "StackCoder$Carrying", name := "takesBFirst", desc := "(I)Z" } : Jvm.MethodName)) ∈ gt := mem_gt 448 (by decide +kernel) rfl
theorem gw_388 : (Jvm.Cond.selects "StackCoder$Carrying" ({ cls := "StackCoder$Carrying", name := "takesBFirst", desc := "(I)Z" } : Jvm.MethodName) ({ cls := "StackCoder$Carrying", name := "takesBFirst", desc := "(I)Z" } : Jvm.MethodName)) ∈ gt := mem_gt 449 (by decide +kernel) rfl
theorem gw_389 : (Jvm.Cond.code ({ cls := "StackCoder$Carrying", name := "takesBFirst", desc := "(I)Z" } : Jvm.MethodName) prog_2_method_17_code (2 : Nat) (Option.some Jvm.ClassFile.FieldType.boolean)) ∈ gt := mem_gt 450 (by rfl) rfl
theorem gw_390 : (Jvm.Cond.fieldLink "StackCoder$StackCode" (86 : Nat) "StackCoder$StackCode" "OWN" "[I") ∈ gt := mem_gt 451 (by decide +kernel) rfl
theorem gw_392 : (Jvm.Cond.methodLink "StackCoder$StackCode" (92 : Nat) ({ cls := "StackCoder$StackCode", name := "leavesValue", desc := "(I)Z" } : Jvm.MethodName)) ∈ gt := mem_gt 453 (by decide +kernel) rfl
theorem gw_394 : (Jvm.Cond.instanceMethod ({ cls := "StackCoder$StackCode", name := "leavesValue", desc := "(I)Z" } : Jvm.MethodName)) ∈ gt := mem_gt 455 (by decide +kernel) rfl
theorem gw_395 : (Jvm.Cond.code ({ cls := "StackCoder$StackCode", name := "leavesValue", desc := "(I)Z" } : Jvm.MethodName) prog_6_method_6_code (2 : Nat) (Option.some Jvm.ClassFile.FieldType.boolean)) ∈ gt := mem_gt 456 (by rfl) rfl
theorem gw_396 : (Jvm.Cond.methodLink "StackCoder$StackCode" (98 : Nat) ({ cls := "StackCoder$RegisterCode", name := "writtenBy", desc := "(I)I" } : Jvm.MethodName)) ∈ gt := mem_gt 457 (by decide +kernel) rfl
theorem gw_397 : (Jvm.Cond.methodLink "StackCoder$StackCode" (53 : Nat) ({ cls := "StackCoder$Carrying", name := "isCarried", desc := "(I)Z" } : Jvm.MethodName)) ∈ gt := mem_gt 458 (by decide +kernel) rfl
theorem gw_398 : (Jvm.Cond.instanceMethod ({ cls := "StackCoder$Carrying", name := "isCarried", desc := "(I)Z" } : Jvm.MethodName)) ∈ gt := mem_gt 459 (by decide +kernel) rfl
theorem gw_399 : (Jvm.Cond.selects "StackCoder$Carrying" ({ cls := "StackCoder$Carrying", name := "isCarried", desc := "(I)Z" } : Jvm.MethodName) ({ cls := "StackCoder$Carrying", name := "isCarried", desc := "(I)Z" } : Jvm.MethodName)) ∈ gt := mem_gt 460 (by decide +kernel) rfl
theorem gw_400 : (Jvm.Cond.code ({ cls := "StackCoder$Carrying", name := "isCarried", desc := "(I)Z" } : Jvm.MethodName) prog_2_method_13_code (2 : Nat) (Option.some Jvm.ClassFile.FieldType.boolean)) ∈ gt := mem_gt 461 (by rfl) rfl
theorem gw_401 : (Jvm.Cond.methodLink "StackCoder$StackCode" (59 : Nat) ({ cls := "StackCoder$StackCode", name := "writeInstruction", desc := "(I)V" } : Jvm.MethodName)) ∈ gt := mem_gt 462 (by decide +kernel) rfl
theorem gw_403 : (Jvm.Cond.instanceMethod ({ cls := "StackCoder$StackCode", name := "writeInstruction", desc := "(I)V" } : Jvm.MethodName)) ∈ gt := mem_gt 464 (by decide +kernel) rfl
theorem gw_404 : (Jvm.Cond.code ({ cls := "StackCoder$StackCode", name := "writeInstruction", desc := "(I)V" } : Jvm.MethodName) prog_6_method_7_code (4 : Nat) (Option.none : Option Jvm.ClassFile.FieldType)) ∈ gt := mem_gt 465 (by rfl) rfl
theorem gw_405 : (Jvm.Cond.methodLink "StackCoder$StackCode" (101 : Nat) ({ cls := "StackCoder$StackCode", name := "writeThings", desc := "(II)I" } : Jvm.MethodName)) ∈ gt := mem_gt 466 (by decide +kernel) rfl
theorem gw_407 : (Jvm.Cond.instanceMethod ({ cls := "StackCoder$StackCode", name := "writeThings", desc := "(II)I" } : Jvm.MethodName)) ∈ gt := mem_gt 468 (by decide +kernel) rfl
theorem gw_408 : (Jvm.Cond.code ({ cls := "StackCoder$StackCode", name := "writeThings", desc := "(II)I" } : Jvm.MethodName) prog_6_method_8_code (7 : Nat) (Option.some Jvm.ClassFile.FieldType.int)) ∈ gt := mem_gt 469 (by rfl) rfl
theorem gw_409 : (Jvm.Cond.methodLink "StackCoder$StackCode" (111 : Nat) ({ cls := "StackCoder$StackCode", name := "writeThing", desc := "(III)I" } : Jvm.MethodName)) ∈ gt := mem_gt 470 (by decide +kernel) rfl
theorem gw_411 : (Jvm.Cond.instanceMethod ({ cls := "StackCoder$StackCode", name := "writeThing", desc := "(III)I" } : Jvm.MethodName)) ∈ gt := mem_gt 472 (by decide +kernel) rfl
theorem gw_412 : (Jvm.Cond.code ({ cls := "StackCoder$StackCode", name := "writeThing", desc := "(III)I" } : Jvm.MethodName) prog_6_method_9_code (4 : Nat) (Option.some Jvm.ClassFile.FieldType.int)) ∈ gt := mem_gt 473 (by rfl) rfl
theorem gw_413 : (Jvm.Cond.methodLink "StackCoder$StackCode" (63 : Nat) ({ cls := "StackCoder$StackCode", name := "write", desc := "(III)I" } : Jvm.MethodName)) ∈ gt := mem_gt 474 (by decide +kernel) rfl
theorem gw_415 : (Jvm.Cond.instanceMethod ({ cls := "StackCoder$StackCode", name := "write", desc := "(III)I" } : Jvm.MethodName)) ∈ gt := mem_gt 476 (by decide +kernel) rfl
theorem gw_416 : (Jvm.Cond.code ({ cls := "StackCoder$StackCode", name := "write", desc := "(III)I" } : Jvm.MethodName) prog_6_method_13_code (4 : Nat) (Option.some Jvm.ClassFile.FieldType.int)) ∈ gt := mem_gt 477 (by rfl) rfl
theorem gw_417 : (Jvm.Cond.methodLink "StackCoder$StackCode" (104 : Nat) ({ cls := "StackCoder$StackCode", name := "ownNumber", desc := "(I)I" } : Jvm.MethodName)) ∈ gt := mem_gt 478 (by decide +kernel) rfl
theorem gw_419 : (Jvm.Cond.instanceMethod ({ cls := "StackCoder$StackCode", name := "ownNumber", desc := "(I)I" } : Jvm.MethodName)) ∈ gt := mem_gt 480 (by decide +kernel) rfl
theorem gw_420 : (Jvm.Cond.code ({ cls := "StackCoder$StackCode", name := "ownNumber", desc := "(I)I" } : Jvm.MethodName) prog_6_method_10_code (2 : Nat) (Option.some Jvm.ClassFile.FieldType.int)) ∈ gt := mem_gt 481 (by rfl) rfl
end
section
theorem gw_421 : (Jvm.Cond.methodLink "StackCoder$StackCode" (114 : Nat) ({ cls := "StackCoder$RegisterCode", name := "aOf", desc := "(I)I" } : Jvm.MethodName)) ∈ gt := mem_gt 482 (by decide +kernel) rfl
theorem gw_422 : (Jvm.Cond.methodLink "StackCoder$StackCode" (117 : Nat) ({ cls := "StackCoder$StackCode", name := "startFrom", desc := "(I)I" } : Jvm.MethodName)) ∈ gt := mem_gt 483 (by decide +kernel) rfl
theorem gw_424 : (Jvm.Cond.instanceMethod ({ cls := "StackCoder$StackCode", name := "startFrom", desc := "(I)I" } : Jvm.MethodName)) ∈ gt := mem_gt 485 (by decide +kernel) rfl
set_option maxRecDepth 100000 in
theorem gw_425 : (Jvm.Cond.code ({ cls := "StackCoder$StackCode", name := "startFrom", desc := "(I)I" } : Jvm.MethodName) prog_6_method_11_code (3 : Nat) (Option.some Jvm.ClassFile.FieldType.int)) ∈ gt := mem_gt 486 (by rfl) rfl
theorem gw_426 : (Jvm.Cond.methodLink "StackCoder$StackCode" (120 : Nat) ({ cls := "StackCoder$RegisterCode", name := "bOf", desc := "(I)I" } : Jvm.MethodName)) ∈ gt := mem_gt 487 (by decide +kernel) rfl
theorem gw_427 : (Jvm.Cond.methodLink "StackCoder$StackCode" (107 : Nat) ({ cls := "StackCoder$StackCode", name := "writeEnd", desc := "(II)V" } : Jvm.MethodName)) ∈ gt := mem_gt 488 (by decide +kernel) rfl
theorem gw_429 : (Jvm.Cond.instanceMethod ({ cls := "StackCoder$StackCode", name := "writeEnd", desc := "(II)V" } : Jvm.MethodName)) ∈ gt := mem_gt 490 (by decide +kernel) rfl
set_option maxRecDepth 100000 in
theorem gw_430 : (Jvm.Cond.code ({ cls := "StackCoder$StackCode", name := "writeEnd", desc := "(II)V" } : Jvm.MethodName) prog_6_method_12_code (4 : Nat) (Option.none : Option Jvm.ClassFile.FieldType)) ∈ gt := mem_gt 491 (by rfl) rfl
theorem gw_431 : (Jvm.Cond.methodLink "StackCoder$StackCode" (123 : Nat) ({ cls := "StackCoder$Flow", name := "liveAfter", desc := "(I)I" } : Jvm.MethodName)) ∈ gt := mem_gt 492 (by decide +kernel) rfl
theorem gw_432 : (Jvm.Cond.methodLink "StackCoder$StackCode" (128 : Nat) ({ cls := "StackCoder$Flow", name := "setOf", desc := "(I)I" } : Jvm.MethodName)) ∈ gt := mem_gt 493 (by decide +kernel) rfl
theorem gw_433 : (Jvm.Cond.methodLink "StackCoder" (77 : Nat) ({ cls := "StackCoder$StackCode", name := "operationCount", desc := "()I" } : Jvm.MethodName)) ∈ gt := mem_gt 494 (by decide +kernel) rfl
theorem gw_434 : (Jvm.Cond.instanceMethod ({ cls := "StackCoder$StackCode", name := "operationCount", desc := "()I" } : Jvm.MethodName)) ∈ gt := mem_gt 495 (by decide +kernel) rfl
theorem gw_435 : (Jvm.Cond.selects "StackCoder$StackCode" ({ cls := "StackCoder$StackCode", name := "operationCount", desc := "()I" } : Jvm.MethodName) ({ cls := "StackCoder$StackCode", name := "operationCount", desc := "()I" } : Jvm.MethodName)) ∈ gt := mem_gt 496 (by decide +kernel) rfl
set_option maxRecDepth 100000 in
theorem gw_436 : (Jvm.Cond.code ({ cls := "StackCoder$StackCode", name := "operationCount", desc := "()I" } : Jvm.MethodName) prog_6_method_15_code (1 : Nat) (Option.some Jvm.ClassFile.FieldType.int)) ∈ gt := mem_gt 497 (by rfl) rfl
theorem gw_437 : (Jvm.Cond.methodLink "StackCoderLaw" (45 : Nat) ({ cls := "StackCoder", name := "code", desc := "(I)I" } : Jvm.MethodName)) ∈ gt := mem_gt 498 (by decide +kernel) rfl
theorem gw_438 : (Jvm.Cond.instanceMethod ({ cls := "StackCoder", name := "code", desc := "(I)I" } : Jvm.MethodName)) ∈ gt := mem_gt 499 (by decide +kernel) rfl
theorem gw_439 : (Jvm.Cond.selects "StackCoder" ({ cls := "StackCoder", name := "code", desc := "(I)I" } : Jvm.MethodName) ({ cls := "StackCoder", name := "code", desc := "(I)I" } : Jvm.MethodName)) ∈ gt := mem_gt 500 (by decide +kernel) rfl
set_option maxRecDepth 100000 in
theorem gw_440 : (Jvm.Cond.code ({ cls := "StackCoder", name := "code", desc := "(I)I" } : Jvm.MethodName) prog_1_method_7_code (2 : Nat) (Option.some Jvm.ClassFile.FieldType.int)) ∈ gt := mem_gt 501 (by rfl) rfl
theorem gw_441 : (Jvm.Cond.methodLink "StackCoder" (80 : Nat) ({ cls := "StackCoder$StackCode", name := "holds", desc := "(I)Z" } : Jvm.MethodName)) ∈ gt := mem_gt 502 (by decide +kernel) rfl
theorem gw_442 : (Jvm.Cond.instanceMethod ({ cls := "StackCoder$StackCode", name := "holds", desc := "(I)Z" } : Jvm.MethodName)) ∈ gt := mem_gt 503 (by decide +kernel) rfl
theorem gw_443 : (Jvm.Cond.selects "StackCoder$StackCode" ({ cls := "StackCoder$StackCode", name := "holds", desc := "(I)Z" } : Jvm.MethodName) ({ cls := "StackCoder$StackCode", name := "holds", desc := "(I)Z" } : Jvm.MethodName)) ∈ gt := mem_gt 504 (by decide +kernel) rfl
set_option maxRecDepth 100000 in
theorem gw_444 : (Jvm.Cond.code ({ cls := "StackCoder$StackCode", name := "holds", desc := "(I)Z" } : Jvm.MethodName) prog_6_method_14_code (2 : Nat) (Option.some Jvm.ClassFile.FieldType.boolean)) ∈ gt := mem_gt 505 (by rfl) rfl
theorem gw_445 : (Jvm.Cond.methodLink "StackCoder" (81 : Nat) ({ cls := "StackCoder$StackCode", name := "encoded", desc := "(I)I" } : Jvm.MethodName)) ∈ gt := mem_gt 506 (by decide +kernel) rfl
theorem gw_446 : (Jvm.Cond.instanceMethod ({ cls := "StackCoder$StackCode", name := "encoded", desc := "(I)I" } : Jvm.MethodName)) ∈ gt := mem_gt 507 (by decide +kernel) rfl
theorem gw_447 : (Jvm.Cond.selects "StackCoder$StackCode" ({ cls := "StackCoder$StackCode", name := "encoded", desc := "(I)I" } : Jvm.MethodName) ({ cls := "StackCoder$StackCode", name := "encoded", desc := "(I)I" } : Jvm.MethodName)) ∈ gt := mem_gt 508 (by decide +kernel) rfl
set_option maxRecDepth 100000 in
theorem gw_448 : (Jvm.Cond.code ({ cls := "StackCoder$StackCode", name := "encoded", desc := "(I)I" } : Jvm.MethodName) prog_6_method_19_code (3 : Nat) (Option.some Jvm.ClassFile.FieldType.int)) ∈ gt := mem_gt 509 (by rfl) rfl
theorem gw_449 : (Jvm.Cond.methodLink "StackCoderLaw" (50 : Nat) ({ cls := "StackCoder", name := "carried", desc := "(I)I" } : Jvm.MethodName)) ∈ gt := mem_gt 510 (by decide +kernel) rfl
theorem gw_450 : (Jvm.Cond.instanceMethod ({ cls := "StackCoder", name := "carried", desc := "(I)I" } : Jvm.MethodName)) ∈ gt := mem_gt 511 (by decide +kernel) rfl
theorem gw_451 : (Jvm.Cond.selects "StackCoder" ({ cls := "StackCoder", name := "carried", desc := "(I)I" } : Jvm.MethodName) ({ cls := "StackCoder", name := "carried", desc := "(I)I" } : Jvm.MethodName)) ∈ gt := mem_gt 512 (by decide +kernel) rfl
set_option maxRecDepth 100000 in
theorem gw_452 : (Jvm.Cond.code ({ cls := "StackCoder", name := "carried", desc := "(I)I" } : Jvm.MethodName) prog_1_method_8_code (2 : Nat) (Option.some Jvm.ClassFile.FieldType.int)) ∈ gt := mem_gt 513 (by rfl) rfl
theorem gw_453 : (Jvm.Cond.methodLink "StackCoder" (85 : Nat) ({ cls := "StackCoder$Carrying", name := "goalOf", desc := "(I)I" } : Jvm.MethodName)) ∈ gt := mem_gt 514 (by decide +kernel) rfl
theorem gw_454 : (Jvm.Cond.instanceMethod ({ cls := "StackCoder$Carrying", name := "goalOf", desc := "(I)I" } : Jvm.MethodName)) ∈ gt := mem_gt 515 (by decide +kernel) rfl
theorem gw_455 : (Jvm.Cond.selects "StackCoder$Carrying" ({ cls := "StackCoder$Carrying", name := "goalOf", desc := "(I)I" } : Jvm.MethodName) ({ cls := "StackCoder$Carrying", name := "goalOf", desc := "(I)I" } : Jvm.MethodName)) ∈ gt := mem_gt 516 (by decide +kernel) rfl
set_option maxRecDepth 100000 in
theorem gw_456 : (Jvm.Cond.code ({ cls := "StackCoder$Carrying", name := "goalOf", desc := "(I)I" } : Jvm.MethodName) prog_2_method_14_code (2 : Nat) (Option.some Jvm.ClassFile.FieldType.int)) ∈ gt := mem_gt 517 (by rfl) rfl
theorem gw_457 : (Jvm.Cond.methodLink "StackCoderLaw" (54 : Nat) ({ cls := "StackCoder", name := "need", desc := "(I)I" } : Jvm.MethodName)) ∈ gt := mem_gt 518 (by decide +kernel) rfl
theorem gw_458 : (Jvm.Cond.instanceMethod ({ cls := "StackCoder", name := "need", desc := "(I)I" } : Jvm.MethodName)) ∈ gt := mem_gt 519 (by decide +kernel) rfl
theorem gw_459 : (Jvm.Cond.selects "StackCoder" ({ cls := "StackCoder", name := "need", desc := "(I)I" } : Jvm.MethodName) ({ cls := "StackCoder", name := "need", desc := "(I)I" } : Jvm.MethodName)) ∈ gt := mem_gt 520 (by decide +kernel) rfl
set_option maxRecDepth 100000 in
theorem gw_460 : (Jvm.Cond.code ({ cls := "StackCoder", name := "need", desc := "(I)I" } : Jvm.MethodName) prog_1_method_9_code (2 : Nat) (Option.some Jvm.ClassFile.FieldType.int)) ∈ gt := mem_gt 521 (by rfl) rfl
theorem gw_461 : (Jvm.Cond.methodLink "StackCoder" (88 : Nat) ({ cls := "StackCoder$Carrying", name := "needOf", desc := "(I)I" } : Jvm.MethodName)) ∈ gt := mem_gt 522 (by decide +kernel) rfl
theorem gw_462 : (Jvm.Cond.instanceMethod ({ cls := "StackCoder$Carrying", name := "needOf", desc := "(I)I" } : Jvm.MethodName)) ∈ gt := mem_gt 523 (by decide +kernel) rfl
theorem gw_463 : (Jvm.Cond.selects "StackCoder$Carrying" ({ cls := "StackCoder$Carrying", name := "needOf", desc := "(I)I" } : Jvm.MethodName) ({ cls := "StackCoder$Carrying", name := "needOf", desc := "(I)I" } : Jvm.MethodName)) ∈ gt := mem_gt 524 (by decide +kernel) rfl
set_option maxRecDepth 100000 in
theorem gw_464 : (Jvm.Cond.code ({ cls := "StackCoder$Carrying", name := "needOf", desc := "(I)I" } : Jvm.MethodName) prog_2_method_18_code (2 : Nat) (Option.some Jvm.ClassFile.FieldType.int)) ∈ gt := mem_gt 525 (by rfl) rfl
theorem gw_465 : (Jvm.Cond.methodLink "StackCoderLaw" (58 : Nat) ({ cls := "StackCoder", name := "live", desc := "(I)I" } : Jvm.MethodName)) ∈ gt := mem_gt 526 (by decide +kernel) rfl
theorem gw_466 : (Jvm.Cond.instanceMethod ({ cls := "StackCoder", name := "live", desc := "(I)I" } : Jvm.MethodName)) ∈ gt := mem_gt 527 (by decide +kernel) rfl
theorem gw_467 : (Jvm.Cond.selects "StackCoder" ({ cls := "StackCoder", name := "live", desc := "(I)I" } : Jvm.MethodName) ({ cls := "StackCoder", name := "live", desc := "(I)I" } : Jvm.MethodName)) ∈ gt := mem_gt 528 (by decide +kernel) rfl
set_option maxRecDepth 100000 in
theorem gw_468 : (Jvm.Cond.code ({ cls := "StackCoder", name := "live", desc := "(I)I" } : Jvm.MethodName) prog_1_method_10_code (2 : Nat) (Option.some Jvm.ClassFile.FieldType.int)) ∈ gt := mem_gt 529 (by rfl) rfl
theorem gw_469 : (Jvm.Cond.methodLink "StackCoder" (91 : Nat) ({ cls := "StackCoder$Flow", name := "liveBefore", desc := "(I)I" } : Jvm.MethodName)) ∈ gt := mem_gt 530 (by decide +kernel) rfl
theorem gw_470 : (Jvm.Cond.methodLink "StackCoderLaw" (62 : Nat) ({ cls := "StackCoder", name := "stores", desc := "()I" } : Jvm.MethodName)) ∈ gt := mem_gt 531 (by decide +kernel) rfl
theorem gw_471 : (Jvm.Cond.instanceMethod ({ cls := "StackCoder", name := "stores", desc := "()I" } : Jvm.MethodName)) ∈ gt := mem_gt 532 (by decide +kernel) rfl
theorem gw_472 : (Jvm.Cond.selects "StackCoder" ({ cls := "StackCoder", name := "stores", desc := "()I" } : Jvm.MethodName) ({ cls := "StackCoder", name := "stores", desc := "()I" } : Jvm.MethodName)) ∈ gt := mem_gt 533 (by decide +kernel) rfl
set_option maxRecDepth 100000 in
theorem gw_473 : (Jvm.Cond.code ({ cls := "StackCoder", name := "stores", desc := "()I" } : Jvm.MethodName) prog_1_method_11_code (1 : Nat) (Option.some Jvm.ClassFile.FieldType.int)) ∈ gt := mem_gt 534 (by rfl) rfl
theorem gw_474 : (Jvm.Cond.methodLink "StackCoder" (94 : Nat) ({ cls := "StackCoder$StackCode", name := "putCount", desc := "()I" } : Jvm.MethodName)) ∈ gt := mem_gt 535 (by decide +kernel) rfl
theorem gw_475 : (Jvm.Cond.instanceMethod ({ cls := "StackCoder$StackCode", name := "putCount", desc := "()I" } : Jvm.MethodName)) ∈ gt := mem_gt 536 (by decide +kernel) rfl
theorem gw_476 : (Jvm.Cond.selects "StackCoder$StackCode" ({ cls := "StackCoder$StackCode", name := "putCount", desc := "()I" } : Jvm.MethodName) ({ cls := "StackCoder$StackCode", name := "putCount", desc := "()I" } : Jvm.MethodName)) ∈ gt := mem_gt 537 (by decide +kernel) rfl
set_option maxRecDepth 100000 in
theorem gw_477 : (Jvm.Cond.code ({ cls := "StackCoder$StackCode", name := "putCount", desc := "()I" } : Jvm.MethodName) prog_6_method_16_code (1 : Nat) (Option.some Jvm.ClassFile.FieldType.int)) ∈ gt := mem_gt 538 (by rfl) rfl
theorem gw_478 : (Jvm.Cond.methodLink "StackCoderLaw" (66 : Nat) ({ cls := "StackCoder", name := "depth", desc := "()I" } : Jvm.MethodName)) ∈ gt := mem_gt 539 (by decide +kernel) rfl
theorem gw_479 : (Jvm.Cond.instanceMethod ({ cls := "StackCoder", name := "depth", desc := "()I" } : Jvm.MethodName)) ∈ gt := mem_gt 540 (by decide +kernel) rfl
theorem gw_480 : (Jvm.Cond.selects "StackCoder" ({ cls := "StackCoder", name := "depth", desc := "()I" } : Jvm.MethodName) ({ cls := "StackCoder", name := "depth", desc := "()I" } : Jvm.MethodName)) ∈ gt := mem_gt 541 (by decide +kernel) rfl
set_option maxRecDepth 100000 in
theorem gw_481 : (Jvm.Cond.code ({ cls := "StackCoder", name := "depth", desc := "()I" } : Jvm.MethodName) prog_1_method_12_code (1 : Nat) (Option.some Jvm.ClassFile.FieldType.int)) ∈ gt := mem_gt 542 (by rfl) rfl
theorem gw_482 : (Jvm.Cond.methodLink "StackCoder" (97 : Nat) ({ cls := "StackCoder$Carrying", name := "greatestNeed", desc := "()I" } : Jvm.MethodName)) ∈ gt := mem_gt 543 (by decide +kernel) rfl
theorem gw_483 : (Jvm.Cond.instanceMethod ({ cls := "StackCoder$Carrying", name := "greatestNeed", desc := "()I" } : Jvm.MethodName)) ∈ gt := mem_gt 544 (by decide +kernel) rfl
theorem gw_484 : (Jvm.Cond.selects "StackCoder$Carrying" ({ cls := "StackCoder$Carrying", name := "greatestNeed", desc := "()I" } : Jvm.MethodName) ({ cls := "StackCoder$Carrying", name := "greatestNeed", desc := "()I" } : Jvm.MethodName)) ∈ gt := mem_gt 545 (by decide +kernel) rfl
set_option maxRecDepth 100000 in
theorem gw_485 : (Jvm.Cond.code ({ cls := "StackCoder$Carrying", name := "greatestNeed", desc := "()I" } : Jvm.MethodName) prog_2_method_19_code (3 : Nat) (Option.some Jvm.ClassFile.FieldType.int)) ∈ gt := mem_gt 546 (by rfl) rfl
theorem gw_486 : (Jvm.Cond.methodLink "StackCoderLaw" (70 : Nat) ({ cls := "StackCoder", name := "run", desc := "(I)I" } : Jvm.MethodName)) ∈ gt := mem_gt 547 (by decide +kernel) rfl
theorem gw_487 : (Jvm.Cond.instanceMethod ({ cls := "StackCoder", name := "run", desc := "(I)I" } : Jvm.MethodName)) ∈ gt := mem_gt 548 (by decide +kernel) rfl
theorem gw_488 : (Jvm.Cond.selects "StackCoder" ({ cls := "StackCoder", name := "run", desc := "(I)I" } : Jvm.MethodName) ({ cls := "StackCoder", name := "run", desc := "(I)I" } : Jvm.MethodName)) ∈ gt := mem_gt 549 (by decide +kernel) rfl
set_option maxRecDepth 100000 in
theorem gw_489 : (Jvm.Cond.code ({ cls := "StackCoder", name := "run", desc := "(I)I" } : Jvm.MethodName) prog_1_method_13_code (2 : Nat) (Option.some Jvm.ClassFile.FieldType.int)) ∈ gt := mem_gt 550 (by rfl) rfl
theorem gw_490 : (Jvm.Cond.methodLink "StackCoder" (100 : Nat) ({ cls := "StackCoder$Machine", name := "runInstructions", desc := "(LStackCoder$RegisterCode;)I" } : Jvm.MethodName)) ∈ gt := mem_gt 551 (by decide +kernel) rfl
theorem gw_491 : (Jvm.Cond.instanceMethod ({ cls := "StackCoder$Machine", name := "runInstructions", desc := "(LStackCoder$RegisterCode;)I" } : Jvm.MethodName)) ∈ gt := mem_gt 552 (by decide +kernel) rfl
theorem gw_492 : (Jvm.Cond.selects "StackCoder$Machine" ({ cls := "StackCoder$Machine", name := "runInstructions", desc := "(LStackCoder$RegisterCode;)I" } : Jvm.MethodName) ({ cls := "StackCoder$Machine", name := "runInstructions", desc := "(LStackCoder$RegisterCode;)I" } : Jvm.MethodName)) ∈ gt := mem_gt 553 (by decide +kernel) rfl
set_option maxRecDepth 100000 in
theorem gw_493 : (Jvm.Cond.code ({ cls := "StackCoder$Machine", name := "runInstructions", desc := "(LStackCoder$RegisterCode;)I" } : Jvm.MethodName) prog_4_method_2_code (4 : Nat) (Option.some Jvm.ClassFile.FieldType.int)) ∈ gt := mem_gt 554 (by rfl) rfl
theorem gw_494 : (Jvm.Cond.methodLink "StackCoder$Machine" (24 : Nat) ({ cls := "StackCoder$Machine", name := "reset", desc := "()V" } : Jvm.MethodName)) ∈ gt := mem_gt 555 (by decide +kernel) rfl
theorem gw_496 : (Jvm.Cond.instanceMethod ({ cls := "StackCoder$Machine", name := "reset", desc := "()V" } : Jvm.MethodName)) ∈ gt := mem_gt 557 (by decide +kernel) rfl
set_option maxRecDepth 100000 in
theorem gw_497 : (Jvm.Cond.code ({ cls := "StackCoder$Machine", name := "reset", desc := "()V" } : Jvm.MethodName) prog_4_method_4_code (2 : Nat) (Option.none : Option Jvm.ClassFile.FieldType)) ∈ gt := mem_gt 558 (by rfl) rfl
theorem gw_498 : (Jvm.Cond.methodLink "StackCoder$Machine" (27 : Nat) ({ cls := "StackCoder$RegisterCode", name := "holds", desc := "(I)Z" } : Jvm.MethodName)) ∈ gt := mem_gt 559 (by decide +kernel) rfl
theorem gw_499 : (Jvm.Cond.methodLink "StackCoder$Machine" (33 : Nat) ({ cls := "StackCoder$Machine", name := "followInstruction", desc := "(LStackCoder$RegisterCode;I)I" } : Jvm.MethodName)) ∈ gt := mem_gt 560 (by decide +kernel) rfl
theorem gw_501 : (Jvm.Cond.instanceMethod ({ cls := "StackCoder$Machine", name := "followInstruction", desc := "(LStackCoder$RegisterCode;I)I" } : Jvm.MethodName)) ∈ gt := mem_gt 562 (by decide +kernel) rfl
set_option maxRecDepth 100000 in
theorem gw_502 : (Jvm.Cond.code ({ cls := "StackCoder$Machine", name := "followInstruction", desc := "(LStackCoder$RegisterCode;I)I" } : Jvm.MethodName) prog_4_method_5_code (5 : Nat) (Option.some Jvm.ClassFile.FieldType.int)) ∈ gt := mem_gt 563 (by rfl) rfl
theorem gw_503 : (Jvm.Cond.methodLink "StackCoder$Machine" (61 : Nat) ({ cls := "StackCoder$RegisterCode", name := "aOf", desc := "(I)I" } : Jvm.MethodName)) ∈ gt := mem_gt 564 (by decide +kernel) rfl
theorem gw_504 : (Jvm.Cond.methodLink "StackCoder$Machine" (64 : Nat) ({ cls := "StackCoder$RegisterCode", name := "bOf", desc := "(I)I" } : Jvm.MethodName)) ∈ gt := mem_gt 565 (by decide +kernel) rfl
theorem gw_505 : (Jvm.Cond.methodLink "StackCoder$Machine" (67 : Nat) ({ cls := "StackCoder$RegisterCode", name := "operationOf", desc := "(I)I" } : Jvm.MethodName)) ∈ gt := mem_gt 566 (by decide +kernel) rfl
theorem gw_506 : (Jvm.Cond.methodLink "StackCoder$Machine" (70 : Nat) ({ cls := "StackCoder$Machine", name := "cellIndex", desc := "(I)I" } : Jvm.MethodName)) ∈ gt := mem_gt 567 (by decide +kernel) rfl
theorem gw_507 : (Jvm.Cond.static ({ cls := "StackCoder$Machine", name := "cellIndex", desc := "(I)I" } : Jvm.MethodName)) ∈ gt := mem_gt 568 (by decide +kernel) rfl
set_option maxRecDepth 100000 in
theorem gw_508 : (Jvm.Cond.code ({ cls := "StackCoder$Machine", name := "cellIndex", desc := "(I)I" } : Jvm.MethodName) prog_4_method_12_code (1 : Nat) (Option.some Jvm.ClassFile.FieldType.int)) ∈ gt := mem_gt 569 (by rfl) rfl
theorem gw_509 : (Jvm.Cond.methodLink "StackCoder$Machine" (73 : Nat) ({ cls := "StackCoder$Machine", name := "print", desc := "(I)V" } : Jvm.MethodName)) ∈ gt := mem_gt 570 (by decide +kernel) rfl
theorem gw_511 : (Jvm.Cond.instanceMethod ({ cls := "StackCoder$Machine", name := "print", desc := "(I)V" } : Jvm.MethodName)) ∈ gt := mem_gt 572 (by decide +kernel) rfl
set_option maxRecDepth 100000 in
theorem gw_512 : (Jvm.Cond.code ({ cls := "StackCoder$Machine", name := "print", desc := "(I)V" } : Jvm.MethodName) prog_4_method_11_code (2 : Nat) (Option.none : Option Jvm.ClassFile.FieldType)) ∈ gt := mem_gt 573 (by rfl) rfl
theorem gw_513 : (Jvm.Cond.methodLink "StackCoder$Machine" (77 : Nat) ({ cls := "StackCoder$RegisterCode", name := "dOf", desc := "(I)I" } : Jvm.MethodName)) ∈ gt := mem_gt 574 (by decide +kernel) rfl
theorem gw_514 : (Jvm.Cond.instanceMethod ({ cls := "StackCoder$RegisterCode", name := "dOf", desc := "(I)I" } : Jvm.MethodName)) ∈ gt := mem_gt 575 (by decide +kernel) rfl
theorem gw_515 : (Jvm.Cond.selects "StackCoder$RegisterCode" ({ cls := "StackCoder$RegisterCode", name := "dOf", desc := "(I)I" } : Jvm.MethodName) ({ cls := "StackCoder$RegisterCode", name := "dOf", desc := "(I)I" } : Jvm.MethodName)) ∈ gt := mem_gt 576 (by decide +kernel) rfl
set_option maxRecDepth 100000 in
theorem gw_516 : (Jvm.Cond.code ({ cls := "StackCoder$RegisterCode", name := "dOf", desc := "(I)I" } : Jvm.MethodName) prog_5_method_9_code (2 : Nat) (Option.some Jvm.ClassFile.FieldType.int)) ∈ gt := mem_gt 577 (by rfl) rfl
theorem gw_517 : (Jvm.Cond.methodLink "StackCoder$Machine" (80 : Nat) ({ cls := "StackCoder$Machine", name := "valueOf", desc := "(III)I" } : Jvm.MethodName)) ∈ gt := mem_gt 578 (by decide +kernel) rfl
theorem gw_519 : (Jvm.Cond.instanceMethod ({ cls := "StackCoder$Machine", name := "valueOf", desc := "(III)I" } : Jvm.MethodName)) ∈ gt := mem_gt 580 (by decide +kernel) rfl
set_option maxRecDepth 100000 in
theorem gw_520 : (Jvm.Cond.code ({ cls := "StackCoder$Machine", name := "valueOf", desc := "(III)I" } : Jvm.MethodName) prog_4_method_6_code (4 : Nat) (Option.some Jvm.ClassFile.FieldType.int)) ∈ gt := mem_gt 581 (by rfl) rfl
theorem gw_521 : (Jvm.Cond.methodLink "StackCoder" (104 : Nat) ({ cls := "StackCoder$Machine", name := "runOperations", desc := "(LStackCoder$StackCode;)I" } : Jvm.MethodName)) ∈ gt := mem_gt 582 (by decide +kernel) rfl
theorem gw_522 : (Jvm.Cond.instanceMethod ({ cls := "StackCoder$Machine", name := "runOperations", desc := "(LStackCoder$StackCode;)I" } : Jvm.MethodName)) ∈ gt := mem_gt 583 (by decide +kernel) rfl
theorem gw_523 : (Jvm.Cond.selects "StackCoder$Machine" ({ cls := "StackCoder$Machine", name := "runOperations", desc := "(LStackCoder$StackCode;)I" } : Jvm.MethodName) ({ cls := "StackCoder$Machine", name := "runOperations", desc := "(LStackCoder$StackCode;)I" } : Jvm.MethodName)) ∈ gt := mem_gt 584 (by decide +kernel) rfl
set_option maxRecDepth 100000 in
theorem gw_524 : (Jvm.Cond.code ({ cls := "StackCoder$Machine", name := "runOperations", desc := "(LStackCoder$StackCode;)I" } : Jvm.MethodName) prog_4_method_3_code (4 : Nat) (Option.some Jvm.ClassFile.FieldType.int)) ∈ gt := mem_gt 585 (by rfl) rfl
theorem gw_525 : (Jvm.Cond.methodLink "StackCoder$Machine" (44 : Nat) ({ cls := "StackCoder$StackCode", name := "holds", desc := "(I)Z" } : Jvm.MethodName)) ∈ gt := mem_gt 586 (by decide +kernel) rfl
theorem gw_526 : (Jvm.Cond.methodLink "StackCoder$Machine" (47 : Nat) ({ cls := "StackCoder$StackCode", name := "operationAt", desc := "(I)I" } : Jvm.MethodName)) ∈ gt := mem_gt 587 (by decide +kernel) rfl
theorem gw_527 : (Jvm.Cond.instanceMethod ({ cls := "StackCoder$StackCode", name := "operationAt", desc := "(I)I" } : Jvm.MethodName)) ∈ gt := mem_gt 588 (by decide +kernel) rfl
theorem gw_528 : (Jvm.Cond.selects "StackCoder$StackCode" ({ cls := "StackCoder$StackCode", name := "operationAt", desc := "(I)I" } : Jvm.MethodName) ({ cls := "StackCoder$StackCode", name := "operationAt", desc := "(I)I" } : Jvm.MethodName)) ∈ gt := mem_gt 589 (by decide +kernel) rfl
set_option maxRecDepth 100000 in
theorem gw_529 : (Jvm.Cond.code ({ cls := "StackCoder$StackCode", name := "operationAt", desc := "(I)I" } : Jvm.MethodName) prog_6_method_17_code (2 : Nat) (Option.some Jvm.ClassFile.FieldType.int)) ∈ gt := mem_gt 590 (by rfl) rfl
theorem gw_530 : (Jvm.Cond.methodLink "StackCoder$Machine" (51 : Nat) ({ cls := "StackCoder$StackCode", name := "numberAt", desc := "(I)I" } : Jvm.MethodName)) ∈ gt := mem_gt 591 (by decide +kernel) rfl
theorem gw_531 : (Jvm.Cond.instanceMethod ({ cls := "StackCoder$StackCode", name := "numberAt", desc := "(I)I" } : Jvm.MethodName)) ∈ gt := mem_gt 592 (by decide +kernel) rfl
theorem gw_532 : (Jvm.Cond.selects "StackCoder$StackCode" ({ cls := "StackCoder$StackCode", name := "numberAt", desc := "(I)I" } : Jvm.MethodName) ({ cls := "StackCoder$StackCode", name := "numberAt", desc := "(I)I" } : Jvm.MethodName)) ∈ gt := mem_gt 593 (by decide +kernel) rfl
set_option maxRecDepth 100000 in
theorem gw_533 : (Jvm.Cond.code ({ cls := "StackCoder$StackCode", name := "numberAt", desc := "(I)I" } : Jvm.MethodName) prog_6_method_18_code (2 : Nat) (Option.some Jvm.ClassFile.FieldType.int)) ∈ gt := mem_gt 594 (by rfl) rfl
theorem gw_534 : (Jvm.Cond.methodLink "StackCoder$Machine" (54 : Nat) ({ cls := "StackCoder$Machine", name := "followOperation", desc := "(III)I" } : Jvm.MethodName)) ∈ gt := mem_gt 595 (by decide +kernel) rfl
theorem gw_536 : (Jvm.Cond.instanceMethod ({ cls := "StackCoder$Machine", name := "followOperation", desc := "(III)I" } : Jvm.MethodName)) ∈ gt := mem_gt 597 (by decide +kernel) rfl
set_option maxRecDepth 100000 in
theorem gw_537 : (Jvm.Cond.code ({ cls := "StackCoder$Machine", name := "followOperation", desc := "(III)I" } : Jvm.MethodName) prog_4_method_7_code (4 : Nat) (Option.some Jvm.ClassFile.FieldType.int)) ∈ gt := mem_gt 598 (by rfl) rfl
theorem gw_538 : (Jvm.Cond.methodLink "StackCoder$Machine" (83 : Nat) ({ cls := "StackCoder$Machine", name := "push", desc := "(I)V" } : Jvm.MethodName)) ∈ gt := mem_gt 599 (by decide +kernel) rfl
theorem gw_540 : (Jvm.Cond.instanceMethod ({ cls := "StackCoder$Machine", name := "push", desc := "(I)V" } : Jvm.MethodName)) ∈ gt := mem_gt 601 (by decide +kernel) rfl
set_option maxRecDepth 100000 in
theorem gw_541 : (Jvm.Cond.code ({ cls := "StackCoder$Machine", name := "push", desc := "(I)V" } : Jvm.MethodName) prog_4_method_9_code (2 : Nat) (Option.none : Option Jvm.ClassFile.FieldType)) ∈ gt := mem_gt 602 (by rfl) rfl
theorem gw_542 : (Jvm.Cond.methodLink "StackCoder$Machine" (86 : Nat) ({ cls := "StackCoder$Machine", name := "pop", desc := "()I" } : Jvm.MethodName)) ∈ gt := mem_gt 603 (by decide +kernel) rfl
theorem gw_544 : (Jvm.Cond.instanceMethod ({ cls := "StackCoder$Machine", name := "pop", desc := "()I" } : Jvm.MethodName)) ∈ gt := mem_gt 605 (by decide +kernel) rfl
set_option maxRecDepth 100000 in
theorem gw_545 : (Jvm.Cond.code ({ cls := "StackCoder$Machine", name := "pop", desc := "()I" } : Jvm.MethodName) prog_4_method_10_code (1 : Nat) (Option.some Jvm.ClassFile.FieldType.int)) ∈ gt := mem_gt 606 (by rfl) rfl
theorem gw_546 : (Jvm.Cond.methodLink "StackCoder$Machine" (90 : Nat) ({ cls := "StackCoder$Machine", name := "joinTopTwo", desc := "(I)V" } : Jvm.MethodName)) ∈ gt := mem_gt 607 (by decide +kernel) rfl
theorem gw_548 : (Jvm.Cond.instanceMethod ({ cls := "StackCoder$Machine", name := "joinTopTwo", desc := "(I)V" } : Jvm.MethodName)) ∈ gt := mem_gt 609 (by decide +kernel) rfl
set_option maxRecDepth 100000 in
theorem gw_549 : (Jvm.Cond.code ({ cls := "StackCoder$Machine", name := "joinTopTwo", desc := "(I)V" } : Jvm.MethodName) prog_4_method_8_code (4 : Nat) (Option.none : Option Jvm.ClassFile.FieldType)) ∈ gt := mem_gt 610 (by rfl) rfl
theorem gw_550 : (Jvm.Cond.methodLink "StackCoderLaw" (74 : Nat) ({ cls := "StackCoder", name := "out", desc := "(I)I" } : Jvm.MethodName)) ∈ gt := mem_gt 611 (by decide +kernel) rfl
theorem gw_551 : (Jvm.Cond.instanceMethod ({ cls := "StackCoder", name := "out", desc := "(I)I" } : Jvm.MethodName)) ∈ gt := mem_gt 612 (by decide +kernel) rfl
theorem gw_552 : (Jvm.Cond.selects "StackCoder" ({ cls := "StackCoder", name := "out", desc := "(I)I" } : Jvm.MethodName) ({ cls := "StackCoder", name := "out", desc := "(I)I" } : Jvm.MethodName)) ∈ gt := mem_gt 613 (by decide +kernel) rfl
set_option maxRecDepth 100000 in
theorem gw_553 : (Jvm.Cond.code ({ cls := "StackCoder", name := "out", desc := "(I)I" } : Jvm.MethodName) prog_1_method_14_code (2 : Nat) (Option.some Jvm.ClassFile.FieldType.int)) ∈ gt := mem_gt 614 (by rfl) rfl
theorem gw_554 : (Jvm.Cond.methodLink "StackCoder" (108 : Nat) ({ cls := "StackCoder$Machine", name := "printedNumber", desc := "(I)I" } : Jvm.MethodName)) ∈ gt := mem_gt 615 (by decide +kernel) rfl
theorem gw_555 : (Jvm.Cond.instanceMethod ({ cls := "StackCoder$Machine", name := "printedNumber", desc := "(I)I" } : Jvm.MethodName)) ∈ gt := mem_gt 616 (by decide +kernel) rfl
theorem gw_556 : (Jvm.Cond.selects "StackCoder$Machine" ({ cls := "StackCoder$Machine", name := "printedNumber", desc := "(I)I" } : Jvm.MethodName) ({ cls := "StackCoder$Machine", name := "printedNumber", desc := "(I)I" } : Jvm.MethodName)) ∈ gt := mem_gt 617 (by decide +kernel) rfl
set_option maxRecDepth 100000 in
theorem gw_557 : (Jvm.Cond.code ({ cls := "StackCoder$Machine", name := "printedNumber", desc := "(I)I" } : Jvm.MethodName) prog_4_method_13_code (2 : Nat) (Option.some Jvm.ClassFile.FieldType.int)) ∈ gt := mem_gt 618 (by rfl) rfl
theorem gw_558 : (Jvm.Cond.methodLink "StackCoderLaw" (78 : Nat) ({ cls := "StackCoder", name := "steps", desc := "()I" } : Jvm.MethodName)) ∈ gt := mem_gt 619 (by decide +kernel) rfl
theorem gw_559 : (Jvm.Cond.instanceMethod ({ cls := "StackCoder", name := "steps", desc := "()I" } : Jvm.MethodName)) ∈ gt := mem_gt 620 (by decide +kernel) rfl
theorem gw_560 : (Jvm.Cond.selects "StackCoder" ({ cls := "StackCoder", name := "steps", desc := "()I" } : Jvm.MethodName) ({ cls := "StackCoder", name := "steps", desc := "()I" } : Jvm.MethodName)) ∈ gt := mem_gt 621 (by decide +kernel) rfl
set_option maxRecDepth 100000 in
theorem gw_561 : (Jvm.Cond.code ({ cls := "StackCoder", name := "steps", desc := "()I" } : Jvm.MethodName) prog_1_method_15_code (1 : Nat) (Option.some Jvm.ClassFile.FieldType.int)) ∈ gt := mem_gt 622 (by rfl) rfl
theorem gw_562 : (Jvm.Cond.methodLink "StackCoder" (111 : Nat) ({ cls := "StackCoder$Machine", name := "stepCount", desc := "()I" } : Jvm.MethodName)) ∈ gt := mem_gt 623 (by decide +kernel) rfl
theorem gw_563 : (Jvm.Cond.instanceMethod ({ cls := "StackCoder$Machine", name := "stepCount", desc := "()I" } : Jvm.MethodName)) ∈ gt := mem_gt 624 (by decide +kernel) rfl
theorem gw_564 : (Jvm.Cond.selects "StackCoder$Machine" ({ cls := "StackCoder$Machine", name := "stepCount", desc := "()I" } : Jvm.MethodName) ({ cls := "StackCoder$Machine", name := "stepCount", desc := "()I" } : Jvm.MethodName)) ∈ gt := mem_gt 625 (by decide +kernel) rfl
set_option maxRecDepth 100000 in
theorem gw_565 : (Jvm.Cond.code ({ cls := "StackCoder$Machine", name := "stepCount", desc := "()I" } : Jvm.MethodName) prog_4_method_14_code (1 : Nat) (Option.some Jvm.ClassFile.FieldType.int)) ∈ gt := mem_gt 626 (by rfl) rfl
theorem gw_566 : (Jvm.Cond.methodLink "StackCoderLaw" (82 : Nat) ({ cls := "StackCoder", name := "cell", desc := "(I)I" } : Jvm.MethodName)) ∈ gt := mem_gt 627 (by decide +kernel) rfl
theorem gw_567 : (Jvm.Cond.instanceMethod ({ cls := "StackCoder", name := "cell", desc := "(I)I" } : Jvm.MethodName)) ∈ gt := mem_gt 628 (by decide +kernel) rfl
theorem gw_568 : (Jvm.Cond.selects "StackCoder" ({ cls := "StackCoder", name := "cell", desc := "(I)I" } : Jvm.MethodName) ({ cls := "StackCoder", name := "cell", desc := "(I)I" } : Jvm.MethodName)) ∈ gt := mem_gt 629 (by decide +kernel) rfl
set_option maxRecDepth 100000 in
theorem gw_569 : (Jvm.Cond.code ({ cls := "StackCoder", name := "cell", desc := "(I)I" } : Jvm.MethodName) prog_1_method_16_code (2 : Nat) (Option.some Jvm.ClassFile.FieldType.int)) ∈ gt := mem_gt 630 (by rfl) rfl
theorem gw_570 : (Jvm.Cond.methodLink "StackCoder" (114 : Nat) ({ cls := "StackCoder$Machine", name := "cellValue", desc := "(I)I" } : Jvm.MethodName)) ∈ gt := mem_gt 631 (by decide +kernel) rfl
theorem gw_571 : (Jvm.Cond.instanceMethod ({ cls := "StackCoder$Machine", name := "cellValue", desc := "(I)I" } : Jvm.MethodName)) ∈ gt := mem_gt 632 (by decide +kernel) rfl
theorem gw_572 : (Jvm.Cond.selects "StackCoder$Machine" ({ cls := "StackCoder$Machine", name := "cellValue", desc := "(I)I" } : Jvm.MethodName) ({ cls := "StackCoder$Machine", name := "cellValue", desc := "(I)I" } : Jvm.MethodName)) ∈ gt := mem_gt 633 (by decide +kernel) rfl
set_option maxRecDepth 100000 in
theorem gw_573 : (Jvm.Cond.code ({ cls := "StackCoder$Machine", name := "cellValue", desc := "(I)I" } : Jvm.MethodName) prog_4_method_15_code (2 : Nat) (Option.some Jvm.ClassFile.FieldType.int)) ∈ gt := mem_gt 634 (by rfl) rfl
theorem gw_574 : (Jvm.Cond.methodLink "StackCoderLaw" (9 : Nat) ({ cls := "StackCoderLaw", name := "cell", desc := "([II)I" } : Jvm.MethodName)) ∈ gt := mem_gt 635 (by decide +kernel) rfl
theorem gw_575 : (Jvm.Cond.static ({ cls := "StackCoderLaw", name := "cell", desc := "([II)I" } : Jvm.MethodName)) ∈ gt := mem_gt 636 (by decide +kernel) rfl
set_option maxRecDepth 100000 in
theorem gw_576 : (Jvm.Cond.code ({ cls := "StackCoderLaw", name := "cell", desc := "([II)I" } : Jvm.MethodName) method_2_code (2 : Nat) (Option.some Jvm.ClassFile.FieldType.int)) ∈ gt := mem_gt 637 (by rfl) rfl
theorem gw_577 : (Jvm.Cond.classLink "StackCoderLaw" (18 : Nat) "StackCoderModel") ∈ gt := mem_gt 638 (by decide +kernel) rfl
theorem gw_578 : (Jvm.Cond.instantiable "StackCoderModel" (26 : Nat)) ∈ gt := mem_gt 639 (by decide +kernel) rfl
theorem gw_579 : (Jvm.Cond.methodLink "StackCoderLaw" (20 : Nat) ({ cls := "StackCoderModel", name := "<init>", desc := "(I)V" } : Jvm.MethodName)) ∈ gt := mem_gt 640 (by decide +kernel) rfl
theorem gw_580 : (Jvm.Cond.instanceMethod ({ cls := "StackCoderModel", name := "<init>", desc := "(I)V" } : Jvm.MethodName)) ∈ gt := mem_gt 641 (by decide +kernel) rfl
set_option maxRecDepth 100000 in
theorem gw_581 : (Jvm.Cond.code ({ cls := "StackCoderModel", name := "<init>", desc := "(I)V" } : Jvm.MethodName) prog_8_method_1_code (2 : Nat) (Option.none : Option Jvm.ClassFile.FieldType)) ∈ gt := mem_gt 642 (by rfl) rfl
theorem gw_582 : (Jvm.Cond.methodLink "StackCoderModel" (1 : Nat) ({ cls := "java/lang/Object", name := "<init>", desc := "()V" } : Jvm.MethodName)) ∈ gt := mem_gt 643 (by decide +kernel) rfl
theorem gw_583 : (Jvm.Cond.fieldLink "StackCoderModel" (71 : Nat) "StackCoderModel" "most" "I") ∈ gt := mem_gt 644 (by decide +kernel) rfl
theorem gw_584 : (Jvm.Cond.fieldLink "StackCoderModel" (87 : Nat) "StackCoderModel" "size" "I") ∈ gt := mem_gt 645 (by decide +kernel) rfl
theorem gw_585 : (Jvm.Cond.fieldLink "StackCoderModel" (7 : Nat) "StackCoderModel" "operation" "[I") ∈ gt := mem_gt 646 (by decide +kernel) rfl
theorem gw_586 : (Jvm.Cond.fieldLink "StackCoderModel" (13 : Nat) "StackCoderModel" "d" "[I") ∈ gt := mem_gt 647 (by decide +kernel) rfl
theorem gw_587 : (Jvm.Cond.fieldLink "StackCoderModel" (16 : Nat) "StackCoderModel" "a" "[I") ∈ gt := mem_gt 648 (by decide +kernel) rfl
theorem gw_588 : (Jvm.Cond.fieldLink "StackCoderModel" (19 : Nat) "StackCoderModel" "b" "[I") ∈ gt := mem_gt 649 (by decide +kernel) rfl
theorem gw_589 : (Jvm.Cond.fieldLink "StackCoderModel" (83 : Nat) "StackCoderModel" "known" "Z") ∈ gt := mem_gt 650 (by decide +kernel) rfl
theorem gw_590 : (Jvm.Cond.fieldLink "StackCoderModel" (22 : Nat) "StackCoderModel" "begins" "[Z") ∈ gt := mem_gt 651 (by decide +kernel) rfl
theorem gw_591 : (Jvm.Cond.fieldLink "StackCoderModel" (26 : Nat) "StackCoderModel" "alive" "[I") ∈ gt := mem_gt 652 (by decide +kernel) rfl
theorem gw_592 : (Jvm.Cond.fieldLink "StackCoderModel" (29 : Nat) "StackCoderModel" "into" "[I") ∈ gt := mem_gt 653 (by decide +kernel) rfl
theorem gw_593 : (Jvm.Cond.fieldLink "StackCoderModel" (32 : Nat) "StackCoderModel" "forA" "[I") ∈ gt := mem_gt 654 (by decide +kernel) rfl
theorem gw_594 : (Jvm.Cond.fieldLink "StackCoderModel" (35 : Nat) "StackCoderModel" "forB" "[I") ∈ gt := mem_gt 655 (by decide +kernel) rfl
theorem gw_595 : (Jvm.Cond.fieldLink "StackCoderModel" (38 : Nat) "StackCoderModel" "needs" "[I") ∈ gt := mem_gt 656 (by decide +kernel) rfl
theorem gw_596 : (Jvm.Cond.fieldLink "StackCoderModel" (41 : Nat) "StackCoderModel" "reads" "[I") ∈ gt := mem_gt 657 (by decide +kernel) rfl
theorem gw_597 : (Jvm.Cond.fieldLink "StackCoderModel" (44 : Nat) "StackCoderModel" "loads" "[Z") ∈ gt := mem_gt 658 (by decide +kernel) rfl
theorem gw_598 : (Jvm.Cond.fieldLink "StackCoderModel" (141 : Nat) "StackCoderModel" "length" "I") ∈ gt := mem_gt 659 (by decide +kernel) rfl
theorem gw_599 : (Jvm.Cond.fieldLink "StackCoderModel" (47 : Nat) "StackCoderModel" "op" "[I") ∈ gt := mem_gt 660 (by decide +kernel) rfl
theorem gw_600 : (Jvm.Cond.fieldLink "StackCoderModel" (50 : Nat) "StackCoderModel" "number" "[I") ∈ gt := mem_gt 661 (by decide +kernel) rfl
theorem gw_601 : (Jvm.Cond.fieldLink "StackCoderModel" (53 : Nat) "StackCoderModel" "place" "[I") ∈ gt := mem_gt 662 (by decide +kernel) rfl
theorem gw_602 : (Jvm.Cond.fieldLink "StackCoderModel" (56 : Nat) "StackCoderModel" "todo" "[I") ∈ gt := mem_gt 663 (by decide +kernel) rfl
theorem gw_603 : (Jvm.Cond.fieldLink "StackCoderModel" (173 : Nat) "StackCoderModel" "printed" "I") ∈ gt := mem_gt 664 (by decide +kernel) rfl
theorem gw_604 : (Jvm.Cond.fieldLink "StackCoderModel" (59 : Nat) "StackCoderModel" "outs" "[I") ∈ gt := mem_gt 665 (by decide +kernel) rfl
theorem gw_605 : (Jvm.Cond.fieldLink "StackCoderModel" (182 : Nat) "StackCoderModel" "done" "I") ∈ gt := mem_gt 666 (by decide +kernel) rfl
theorem gw_606 : (Jvm.Cond.fieldLink "StackCoderModel" (62 : Nat) "StackCoderModel" "memory" "[I") ∈ gt := mem_gt 667 (by decide +kernel) rfl
theorem gw_607 : (Jvm.Cond.fieldLink "StackCoderModel" (65 : Nat) "StackCoderModel" "register" "[I") ∈ gt := mem_gt 668 (by decide +kernel) rfl
theorem gw_608 : (Jvm.Cond.fieldLink "StackCoderModel" (68 : Nat) "StackCoderModel" "stack" "[I") ∈ gt := mem_gt 669 (by decide +kernel) rfl
theorem gw_609 : (Jvm.Cond.laysFinal "StackCoderModel" "StackCoderModel" "most" "I") ∈ gt := mem_gt 670 (by decide +kernel) rfl
theorem gw_611 : (Jvm.Cond.lays "StackCoderModel" "StackCoderModel" "size" "I") ∈ gt := mem_gt 672 (by decide +kernel) rfl
theorem gw_613 : (Jvm.Cond.laysFinal "StackCoderModel" "StackCoderModel" "operation" "[I") ∈ gt := mem_gt 674 (by decide +kernel) rfl
theorem gw_615 : (Jvm.Cond.laysFinal "StackCoderModel" "StackCoderModel" "d" "[I") ∈ gt := mem_gt 676 (by decide +kernel) rfl
theorem gw_617 : (Jvm.Cond.laysFinal "StackCoderModel" "StackCoderModel" "a" "[I") ∈ gt := mem_gt 678 (by decide +kernel) rfl
theorem gw_619 : (Jvm.Cond.laysFinal "StackCoderModel" "StackCoderModel" "b" "[I") ∈ gt := mem_gt 680 (by decide +kernel) rfl
theorem gw_621 : (Jvm.Cond.lays "StackCoderModel" "StackCoderModel" "known" "Z") ∈ gt := mem_gt 682 (by decide +kernel) rfl
theorem gw_623 : (Jvm.Cond.laysFinal "StackCoderModel" "StackCoderModel" "begins" "[Z") ∈ gt := mem_gt 684 (by decide +kernel) rfl
theorem gw_625 : (Jvm.Cond.laysFinal "StackCoderModel" "StackCoderModel" "alive" "[I") ∈ gt := mem_gt 686 (by decide +kernel) rfl
theorem gw_627 : (Jvm.Cond.laysFinal "StackCoderModel" "StackCoderModel" "into" "[I") ∈ gt := mem_gt 688 (by decide +kernel) rfl
theorem gw_629 : (Jvm.Cond.laysFinal "StackCoderModel" "StackCoderModel" "forA" "[I") ∈ gt := mem_gt 690 (by decide +kernel) rfl
theorem gw_631 : (Jvm.Cond.laysFinal "StackCoderModel" "StackCoderModel" "forB" "[I") ∈ gt := mem_gt 692 (by decide +kernel) rfl
theorem gw_633 : (Jvm.Cond.laysFinal "StackCoderModel" "StackCoderModel" "needs" "[I") ∈ gt := mem_gt 694 (by decide +kernel) rfl
theorem gw_635 : (Jvm.Cond.laysFinal "StackCoderModel" "StackCoderModel" "reads" "[I") ∈ gt := mem_gt 696 (by decide +kernel) rfl
theorem gw_637 : (Jvm.Cond.laysFinal "StackCoderModel" "StackCoderModel" "loads" "[Z") ∈ gt := mem_gt 698 (by decide +kernel) rfl
theorem gw_639 : (Jvm.Cond.lays "StackCoderModel" "StackCoderModel" "length" "I") ∈ gt := mem_gt 700 (by decide +kernel) rfl
theorem gw_641 : (Jvm.Cond.laysFinal "StackCoderModel" "StackCoderModel" "op" "[I") ∈ gt := mem_gt 702 (by decide +kernel) rfl
theorem gw_643 : (Jvm.Cond.laysFinal "StackCoderModel" "StackCoderModel" "number" "[I") ∈ gt := mem_gt 704 (by decide +kernel) rfl
theorem gw_645 : (Jvm.Cond.laysFinal "StackCoderModel" "StackCoderModel" "place" "[I") ∈ gt := mem_gt 706 (by decide +kernel) rfl
theorem gw_647 : (Jvm.Cond.laysFinal "StackCoderModel" "StackCoderModel" "todo" "[I") ∈ gt := mem_gt 708 (by decide +kernel) rfl
theorem gw_649 : (Jvm.Cond.lays "StackCoderModel" "StackCoderModel" "printed" "I") ∈ gt := mem_gt 710 (by decide +kernel) rfl
theorem gw_651 : (Jvm.Cond.laysFinal "StackCoderModel" "StackCoderModel" "outs" "[I") ∈ gt := mem_gt 712 (by decide +kernel) rfl
theorem gw_653 : (Jvm.Cond.lays "StackCoderModel" "StackCoderModel" "done" "I") ∈ gt := mem_gt 714 (by decide +kernel) rfl
theorem gw_655 : (Jvm.Cond.laysFinal "StackCoderModel" "StackCoderModel" "memory" "[I") ∈ gt := mem_gt 716 (by decide +kernel) rfl
theorem gw_657 : (Jvm.Cond.laysFinal "StackCoderModel" "StackCoderModel" "register" "[I") ∈ gt := mem_gt 718 (by decide +kernel) rfl
theorem gw_659 : (Jvm.Cond.laysFinal "StackCoderModel" "StackCoderModel" "stack" "[I") ∈ gt := mem_gt 720 (by decide +kernel) rfl
theorem gw_662 : (Jvm.Cond.methodLink "StackCoderLaw" (25 : Nat) ({ cls := "StackCoderModel", name := "add", desc := "(IIII)I" } : Jvm.MethodName)) ∈ gt := mem_gt 723 (by decide +kernel) rfl
theorem gw_663 : (Jvm.Cond.instanceMethod ({ cls := "StackCoderModel", name := "add", desc := "(IIII)I" } : Jvm.MethodName)) ∈ gt := mem_gt 724 (by decide +kernel) rfl
theorem gw_664 : (Jvm.Cond.selects "StackCoderModel" ({ cls := "StackCoderModel", name := "add", desc := "(IIII)I" } : Jvm.MethodName) ({ cls := "StackCoderModel", name := "add", desc := "(IIII)I" } : Jvm.MethodName)) ∈ gt := mem_gt 725 (by decide +kernel) rfl
set_option maxRecDepth 100000 in
theorem gw_665 : (Jvm.Cond.code ({ cls := "StackCoderModel", name := "add", desc := "(IIII)I" } : Jvm.MethodName) prog_8_method_6_code (5 : Nat) (Option.some Jvm.ClassFile.FieldType.int)) ∈ gt := mem_gt 726 (by rfl) rfl
theorem gw_666 : (Jvm.Cond.methodLink "StackCoderModel" (90 : Nat) ({ cls := "StackCoderModel", name := "isRight", desc := "(IIII)Z" } : Jvm.MethodName)) ∈ gt := mem_gt 727 (by decide +kernel) rfl
theorem gw_667 : (Jvm.Cond.static ({ cls := "StackCoderModel", name := "isRight", desc := "(IIII)Z" } : Jvm.MethodName)) ∈ gt := mem_gt 728 (by decide +kernel) rfl
set_option maxRecDepth 100000 in
theorem gw_668 : (Jvm.Cond.code ({ cls := "StackCoderModel", name := "isRight", desc := "(IIII)Z" } : Jvm.MethodName) prog_8_method_4_code (7 : Nat) (Option.some Jvm.ClassFile.FieldType.boolean)) ∈ gt := mem_gt 729 (by rfl) rfl
theorem gw_669 : (Jvm.Cond.methodLink "StackCoderModel" (75 : Nat) ({ cls := "StackCoderModel", name := "in", desc := "(III)Z" } : Jvm.MethodName)) ∈ gt := mem_gt 730 (by decide +kernel) rfl
theorem gw_670 : (Jvm.Cond.static ({ cls := "StackCoderModel", name := "in", desc := "(III)Z" } : Jvm.MethodName)) ∈ gt := mem_gt 731 (by decide +kernel) rfl
set_option maxRecDepth 100000 in
theorem gw_671 : (Jvm.Cond.code ({ cls := "StackCoderModel", name := "in", desc := "(III)Z" } : Jvm.MethodName) prog_8_method_2_code (3 : Nat) (Option.some Jvm.ClassFile.FieldType.boolean)) ∈ gt := mem_gt 732 (by rfl) rfl
theorem gw_672 : (Jvm.Cond.methodLink "StackCoderModel" (79 : Nat) ({ cls := "StackCoderModel", name := "isRegister", desc := "(I)Z" } : Jvm.MethodName)) ∈ gt := mem_gt 733 (by decide +kernel) rfl
theorem gw_673 : (Jvm.Cond.static ({ cls := "StackCoderModel", name := "isRegister", desc := "(I)Z" } : Jvm.MethodName)) ∈ gt := mem_gt 734 (by decide +kernel) rfl
set_option maxRecDepth 100000 in
theorem gw_674 : (Jvm.Cond.code ({ cls := "StackCoderModel", name := "isRegister", desc := "(I)Z" } : Jvm.MethodName) prog_8_method_3_code (1 : Nat) (Option.some Jvm.ClassFile.FieldType.boolean)) ∈ gt := mem_gt 735 (by rfl) rfl
theorem gw_675 : (Jvm.Cond.methodLink "StackCoderModel" (94 : Nat) ({ cls := "StackCoderModel", name := "put", desc := "(IIIII)V" } : Jvm.MethodName)) ∈ gt := mem_gt 736 (by decide +kernel) rfl
theorem gw_677 : (Jvm.Cond.instanceMethod ({ cls := "StackCoderModel", name := "put", desc := "(IIIII)V" } : Jvm.MethodName)) ∈ gt := mem_gt 738 (by decide +kernel) rfl
set_option maxRecDepth 100000 in
theorem gw_678 : (Jvm.Cond.code ({ cls := "StackCoderModel", name := "put", desc := "(IIIII)V" } : Jvm.MethodName) prog_8_method_5_code (6 : Nat) (Option.none : Option Jvm.ClassFile.FieldType)) ∈ gt := mem_gt 739 (by rfl) rfl
theorem gw_679 : (Jvm.Cond.methodLink "StackCoderLaw" (30 : Nat) ({ cls := "StackCoderModel", name := "set", desc := "(IIIII)Z" } : Jvm.MethodName)) ∈ gt := mem_gt 740 (by decide +kernel) rfl
theorem gw_680 : (Jvm.Cond.instanceMethod ({ cls := "StackCoderModel", name := "set", desc := "(IIIII)Z" } : Jvm.MethodName)) ∈ gt := mem_gt 741 (by decide +kernel) rfl
theorem gw_681 : (Jvm.Cond.selects "StackCoderModel" ({ cls := "StackCoderModel", name := "set", desc := "(IIIII)Z" } : Jvm.MethodName) ({ cls := "StackCoderModel", name := "set", desc := "(IIIII)Z" } : Jvm.MethodName)) ∈ gt := mem_gt 742 (by decide +kernel) rfl
set_option maxRecDepth 100000 in
theorem gw_682 : (Jvm.Cond.code ({ cls := "StackCoderModel", name := "set", desc := "(IIIII)Z" } : Jvm.MethodName) prog_8_method_7_code (6 : Nat) (Option.some Jvm.ClassFile.FieldType.boolean)) ∈ gt := mem_gt 743 (by rfl) rfl
theorem gw_683 : (Jvm.Cond.methodLink "StackCoderLaw" (35 : Nat) ({ cls := "StackCoderModel", name := "cut", desc := "(I)Z" } : Jvm.MethodName)) ∈ gt := mem_gt 744 (by decide +kernel) rfl
theorem gw_684 : (Jvm.Cond.instanceMethod ({ cls := "StackCoderModel", name := "cut", desc := "(I)Z" } : Jvm.MethodName)) ∈ gt := mem_gt 745 (by decide +kernel) rfl
theorem gw_685 : (Jvm.Cond.selects "StackCoderModel" ({ cls := "StackCoderModel", name := "cut", desc := "(I)Z" } : Jvm.MethodName) ({ cls := "StackCoderModel", name := "cut", desc := "(I)Z" } : Jvm.MethodName)) ∈ gt := mem_gt 746 (by decide +kernel) rfl
set_option maxRecDepth 100000 in
theorem gw_686 : (Jvm.Cond.code ({ cls := "StackCoderModel", name := "cut", desc := "(I)Z" } : Jvm.MethodName) prog_8_method_8_code (2 : Nat) (Option.some Jvm.ClassFile.FieldType.boolean)) ∈ gt := mem_gt 747 (by rfl) rfl
theorem gw_687 : (Jvm.Cond.methodLink "StackCoderLaw" (40 : Nat) ({ cls := "StackCoderModel", name := "size", desc := "()I" } : Jvm.MethodName)) ∈ gt := mem_gt 748 (by decide +kernel) rfl
theorem gw_688 : (Jvm.Cond.instanceMethod ({ cls := "StackCoderModel", name := "size", desc := "()I" } : Jvm.MethodName)) ∈ gt := mem_gt 749 (by decide +kernel) rfl
theorem gw_689 : (Jvm.Cond.selects "StackCoderModel" ({ cls := "StackCoderModel", name := "size", desc := "()I" } : Jvm.MethodName) ({ cls := "StackCoderModel", name := "size", desc := "()I" } : Jvm.MethodName)) ∈ gt := mem_gt 750 (by decide +kernel) rfl
set_option maxRecDepth 100000 in
theorem gw_690 : (Jvm.Cond.code ({ cls := "StackCoderModel", name := "size", desc := "()I" } : Jvm.MethodName) prog_8_method_9_code (1 : Nat) (Option.some Jvm.ClassFile.FieldType.int)) ∈ gt := mem_gt 751 (by rfl) rfl
theorem gw_691 : (Jvm.Cond.methodLink "StackCoderLaw" (44 : Nat) ({ cls := "StackCoderModel", name := "length", desc := "()I" } : Jvm.MethodName)) ∈ gt := mem_gt 752 (by decide +kernel) rfl
theorem gw_692 : (Jvm.Cond.instanceMethod ({ cls := "StackCoderModel", name := "length", desc := "()I" } : Jvm.MethodName)) ∈ gt := mem_gt 753 (by decide +kernel) rfl
theorem gw_693 : (Jvm.Cond.selects "StackCoderModel" ({ cls := "StackCoderModel", name := "length", desc := "()I" } : Jvm.MethodName) ({ cls := "StackCoderModel", name := "length", desc := "()I" } : Jvm.MethodName)) ∈ gt := mem_gt 754 (by decide +kernel) rfl
set_option maxRecDepth 100000 in
theorem gw_694 : (Jvm.Cond.code ({ cls := "StackCoderModel", name := "length", desc := "()I" } : Jvm.MethodName) prog_8_method_32_code (1 : Nat) (Option.some Jvm.ClassFile.FieldType.int)) ∈ gt := mem_gt 755 (by rfl) rfl
theorem gw_695 : (Jvm.Cond.methodLink "StackCoderModel" (170 : Nat) ({ cls := "StackCoderModel", name := "work", desc := "()V" } : Jvm.MethodName)) ∈ gt := mem_gt 756 (by decide +kernel) rfl
theorem gw_697 : (Jvm.Cond.instanceMethod ({ cls := "StackCoderModel", name := "work", desc := "()V" } : Jvm.MethodName)) ∈ gt := mem_gt 758 (by decide +kernel) rfl
set_option maxRecDepth 100000 in
theorem gw_698 : (Jvm.Cond.code ({ cls := "StackCoderModel", name := "work", desc := "()V" } : Jvm.MethodName) prog_8_method_31_code (2 : Nat) (Option.none : Option Jvm.ClassFile.FieldType)) ∈ gt := mem_gt 759 (by rfl) rfl
theorem gw_699 : (Jvm.Cond.methodLink "StackCoderModel" (155 : Nat) ({ cls := "StackCoderModel", name := "findBlocks", desc := "()V" } : Jvm.MethodName)) ∈ gt := mem_gt 760 (by decide +kernel) rfl
theorem gw_701 : (Jvm.Cond.instanceMethod ({ cls := "StackCoderModel", name := "findBlocks", desc := "()V" } : Jvm.MethodName)) ∈ gt := mem_gt 762 (by decide +kernel) rfl
set_option maxRecDepth 100000 in
theorem gw_702 : (Jvm.Cond.code ({ cls := "StackCoderModel", name := "findBlocks", desc := "()V" } : Jvm.MethodName) prog_8_method_16_code (2 : Nat) (Option.none : Option Jvm.ClassFile.FieldType)) ∈ gt := mem_gt 763 (by rfl) rfl
theorem gw_703 : (Jvm.Cond.methodLink "StackCoderModel" (107 : Nat) ({ cls := "StackCoderModel", name := "leaves", desc := "(I)Z" } : Jvm.MethodName)) ∈ gt := mem_gt 764 (by decide +kernel) rfl
theorem gw_705 : (Jvm.Cond.instanceMethod ({ cls := "StackCoderModel", name := "leaves", desc := "(I)Z" } : Jvm.MethodName)) ∈ gt := mem_gt 766 (by decide +kernel) rfl
set_option maxRecDepth 100000 in
theorem gw_706 : (Jvm.Cond.code ({ cls := "StackCoderModel", name := "leaves", desc := "(I)Z" } : Jvm.MethodName) prog_8_method_15_code (2 : Nat) (Option.some Jvm.ClassFile.FieldType.boolean)) ∈ gt := mem_gt 767 (by rfl) rfl
theorem gw_707 : (Jvm.Cond.methodLink "StackCoderModel" (158 : Nat) ({ cls := "StackCoderModel", name := "findAlive", desc := "()V" } : Jvm.MethodName)) ∈ gt := mem_gt 768 (by decide +kernel) rfl
theorem gw_709 : (Jvm.Cond.instanceMethod ({ cls := "StackCoderModel", name := "findAlive", desc := "()V" } : Jvm.MethodName)) ∈ gt := mem_gt 770 (by decide +kernel) rfl
set_option maxRecDepth 100000 in
theorem gw_710 : (Jvm.Cond.code ({ cls := "StackCoderModel", name := "findAlive", desc := "()V" } : Jvm.MethodName) prog_8_method_19_code (4 : Nat) (Option.none : Option Jvm.ClassFile.FieldType)) ∈ gt := mem_gt 771 (by rfl) rfl
theorem gw_711 : (Jvm.Cond.methodLink "StackCoderModel" (114 : Nat) ({ cls := "StackCoderModel", name := "behind", desc := "(I)I" } : Jvm.MethodName)) ∈ gt := mem_gt 772 (by decide +kernel) rfl
theorem gw_713 : (Jvm.Cond.instanceMethod ({ cls := "StackCoderModel", name := "behind", desc := "(I)I" } : Jvm.MethodName)) ∈ gt := mem_gt 774 (by decide +kernel) rfl
set_option maxRecDepth 100000 in
theorem gw_714 : (Jvm.Cond.code ({ cls := "StackCoderModel", name := "behind", desc := "(I)I" } : Jvm.MethodName) prog_8_method_17_code (2 : Nat) (Option.some Jvm.ClassFile.FieldType.int)) ∈ gt := mem_gt 775 (by rfl) rfl
theorem gw_715 : (Jvm.Cond.methodLink "StackCoderModel" (110 : Nat) ({ cls := "StackCoderModel", name := "aliveAt", desc := "(I)I" } : Jvm.MethodName)) ∈ gt := mem_gt 776 (by decide +kernel) rfl
theorem gw_717 : (Jvm.Cond.instanceMethod ({ cls := "StackCoderModel", name := "aliveAt", desc := "(I)I" } : Jvm.MethodName)) ∈ gt := mem_gt 778 (by decide +kernel) rfl
set_option maxRecDepth 100000 in
theorem gw_718 : (Jvm.Cond.code ({ cls := "StackCoderModel", name := "aliveAt", desc := "(I)I" } : Jvm.MethodName) prog_8_method_18_code (2 : Nat) (Option.some Jvm.ClassFile.FieldType.int)) ∈ gt := mem_gt 779 (by rfl) rfl
theorem gw_719 : (Jvm.Cond.methodLink "StackCoderModel" (98 : Nat) ({ cls := "StackCoderModel", name := "isWriter", desc := "(I)Z" } : Jvm.MethodName)) ∈ gt := mem_gt 780 (by decide +kernel) rfl
theorem gw_721 : (Jvm.Cond.instanceMethod ({ cls := "StackCoderModel", name := "isWriter", desc := "(I)Z" } : Jvm.MethodName)) ∈ gt := mem_gt 782 (by decide +kernel) rfl
set_option maxRecDepth 100000 in
theorem gw_722 : (Jvm.Cond.code ({ cls := "StackCoderModel", name := "isWriter", desc := "(I)Z" } : Jvm.MethodName) prog_8_method_10_code (2 : Nat) (Option.some Jvm.ClassFile.FieldType.boolean)) ∈ gt := mem_gt 783 (by rfl) rfl
theorem gw_723 : (Jvm.Cond.methodLink "StackCoderModel" (101 : Nat) ({ cls := "StackCoderModel", name := "readsA", desc := "(I)Z" } : Jvm.MethodName)) ∈ gt := mem_gt 784 (by decide +kernel) rfl
theorem gw_725 : (Jvm.Cond.instanceMethod ({ cls := "StackCoderModel", name := "readsA", desc := "(I)Z" } : Jvm.MethodName)) ∈ gt := mem_gt 786 (by decide +kernel) rfl
set_option maxRecDepth 100000 in
theorem gw_726 : (Jvm.Cond.code ({ cls := "StackCoderModel", name := "readsA", desc := "(I)Z" } : Jvm.MethodName) prog_8_method_12_code (2 : Nat) (Option.some Jvm.ClassFile.FieldType.boolean)) ∈ gt := mem_gt 787 (by rfl) rfl
theorem gw_727 : (Jvm.Cond.methodLink "StackCoderModel" (104 : Nat) ({ cls := "StackCoderModel", name := "readsB", desc := "(I)Z" } : Jvm.MethodName)) ∈ gt := mem_gt 788 (by decide +kernel) rfl
theorem gw_729 : (Jvm.Cond.instanceMethod ({ cls := "StackCoderModel", name := "readsB", desc := "(I)Z" } : Jvm.MethodName)) ∈ gt := mem_gt 790 (by decide +kernel) rfl
set_option maxRecDepth 100000 in
theorem gw_730 : (Jvm.Cond.code ({ cls := "StackCoderModel", name := "readsB", desc := "(I)Z" } : Jvm.MethodName) prog_8_method_13_code (2 : Nat) (Option.some Jvm.ClassFile.FieldType.boolean)) ∈ gt := mem_gt 791 (by rfl) rfl
theorem gw_731 : (Jvm.Cond.methodLink "StackCoderModel" (161 : Nat) ({ cls := "StackCoderModel", name := "settle", desc := "(I)V" } : Jvm.MethodName)) ∈ gt := mem_gt 792 (by decide +kernel) rfl
theorem gw_733 : (Jvm.Cond.instanceMethod ({ cls := "StackCoderModel", name := "settle", desc := "(I)V" } : Jvm.MethodName)) ∈ gt := mem_gt 794 (by decide +kernel) rfl
set_option maxRecDepth 100000 in
theorem gw_734 : (Jvm.Cond.code ({ cls := "StackCoderModel", name := "settle", desc := "(I)V" } : Jvm.MethodName) prog_8_method_25_code (6 : Nat) (Option.none : Option Jvm.ClassFile.FieldType)) ∈ gt := mem_gt 795 (by rfl) rfl
theorem gw_735 : (Jvm.Cond.methodLink "StackCoderModel" (131 : Nat) ({ cls := "StackCoderModel", name := "writerBefore", desc := "(II)I" } : Jvm.MethodName)) ∈ gt := mem_gt 796 (by decide +kernel) rfl
theorem gw_737 : (Jvm.Cond.instanceMethod ({ cls := "StackCoderModel", name := "writerBefore", desc := "(II)I" } : Jvm.MethodName)) ∈ gt := mem_gt 798 (by decide +kernel) rfl
set_option maxRecDepth 100000 in
theorem gw_738 : (Jvm.Cond.code ({ cls := "StackCoderModel", name := "writerBefore", desc := "(II)I" } : Jvm.MethodName) prog_8_method_21_code (4 : Nat) (Option.some Jvm.ClassFile.FieldType.int)) ∈ gt := mem_gt 799 (by rfl) rfl
theorem gw_739 : (Jvm.Cond.methodLink "StackCoderModel" (117 : Nat) ({ cls := "StackCoderModel", name := "writes", desc := "(II)Z" } : Jvm.MethodName)) ∈ gt := mem_gt 800 (by decide +kernel) rfl
theorem gw_741 : (Jvm.Cond.instanceMethod ({ cls := "StackCoderModel", name := "writes", desc := "(II)Z" } : Jvm.MethodName)) ∈ gt := mem_gt 802 (by decide +kernel) rfl
set_option maxRecDepth 100000 in
theorem gw_742 : (Jvm.Cond.code ({ cls := "StackCoderModel", name := "writes", desc := "(II)Z" } : Jvm.MethodName) prog_8_method_11_code (3 : Nat) (Option.some Jvm.ClassFile.FieldType.boolean)) ∈ gt := mem_gt 803 (by rfl) rfl
theorem gw_743 : (Jvm.Cond.methodLink "StackCoderModel" (134 : Nat) ({ cls := "StackCoderModel", name := "canCarry", desc := "(II)Z" } : Jvm.MethodName)) ∈ gt := mem_gt 804 (by decide +kernel) rfl
theorem gw_745 : (Jvm.Cond.instanceMethod ({ cls := "StackCoderModel", name := "canCarry", desc := "(II)Z" } : Jvm.MethodName)) ∈ gt := mem_gt 806 (by decide +kernel) rfl
set_option maxRecDepth 100000 in
theorem gw_746 : (Jvm.Cond.code ({ cls := "StackCoderModel", name := "canCarry", desc := "(II)Z" } : Jvm.MethodName) prog_8_method_23_code (8 : Nat) (Option.some Jvm.ClassFile.FieldType.boolean)) ∈ gt := mem_gt 807 (by rfl) rfl
theorem gw_747 : (Jvm.Cond.methodLink "StackCoderModel" (124 : Nat) ({ cls := "StackCoderModel", name := "nextWriter", desc := "(I)I" } : Jvm.MethodName)) ∈ gt := mem_gt 808 (by decide +kernel) rfl
theorem gw_749 : (Jvm.Cond.instanceMethod ({ cls := "StackCoderModel", name := "nextWriter", desc := "(I)I" } : Jvm.MethodName)) ∈ gt := mem_gt 810 (by decide +kernel) rfl
set_option maxRecDepth 100000 in
theorem gw_750 : (Jvm.Cond.code ({ cls := "StackCoderModel", name := "nextWriter", desc := "(I)I" } : Jvm.MethodName) prog_8_method_22_code (5 : Nat) (Option.some Jvm.ClassFile.FieldType.int)) ∈ gt := mem_gt 811 (by rfl) rfl
theorem gw_751 : (Jvm.Cond.methodLink "StackCoderModel" (121 : Nat) ({ cls := "StackCoderModel", name := "blockEnd", desc := "(I)I" } : Jvm.MethodName)) ∈ gt := mem_gt 812 (by decide +kernel) rfl
theorem gw_753 : (Jvm.Cond.instanceMethod ({ cls := "StackCoderModel", name := "blockEnd", desc := "(I)I" } : Jvm.MethodName)) ∈ gt := mem_gt 814 (by decide +kernel) rfl
set_option maxRecDepth 100000 in
theorem gw_754 : (Jvm.Cond.code ({ cls := "StackCoderModel", name := "blockEnd", desc := "(I)I" } : Jvm.MethodName) prog_8_method_20_code (3 : Nat) (Option.some Jvm.ClassFile.FieldType.int)) ∈ gt := mem_gt 815 (by rfl) rfl
theorem gw_755 : (Jvm.Cond.methodLink "StackCoderModel" (127 : Nat) ({ cls := "StackCoderModel", name := "times", desc := "(II)I" } : Jvm.MethodName)) ∈ gt := mem_gt 816 (by decide +kernel) rfl
theorem gw_757 : (Jvm.Cond.instanceMethod ({ cls := "StackCoderModel", name := "times", desc := "(II)I" } : Jvm.MethodName)) ∈ gt := mem_gt 818 (by decide +kernel) rfl
set_option maxRecDepth 100000 in
theorem gw_758 : (Jvm.Cond.code ({ cls := "StackCoderModel", name := "times", desc := "(II)I" } : Jvm.MethodName) prog_8_method_14_code (3 : Nat) (Option.some Jvm.ClassFile.FieldType.int)) ∈ gt := mem_gt 819 (by rfl) rfl
theorem gw_759 : (Jvm.Cond.methodLink "StackCoderModel" (137 : Nat) ({ cls := "StackCoderModel", name := "needOf", desc := "(III)I" } : Jvm.MethodName)) ∈ gt := mem_gt 820 (by decide +kernel) rfl
theorem gw_761 : (Jvm.Cond.instanceMethod ({ cls := "StackCoderModel", name := "needOf", desc := "(III)I" } : Jvm.MethodName)) ∈ gt := mem_gt 822 (by decide +kernel) rfl
set_option maxRecDepth 100000 in
theorem gw_762 : (Jvm.Cond.code ({ cls := "StackCoderModel", name := "needOf", desc := "(III)I" } : Jvm.MethodName) prog_8_method_24_code (6 : Nat) (Option.some Jvm.ClassFile.FieldType.int)) ∈ gt := mem_gt 823 (by rfl) rfl
theorem gw_763 : (Jvm.Cond.methodLink "StackCoderModel" (164 : Nat) ({ cls := "StackCoderModel", name := "writeTree", desc := "(I)V" } : Jvm.MethodName)) ∈ gt := mem_gt 824 (by decide +kernel) rfl
theorem gw_765 : (Jvm.Cond.instanceMethod ({ cls := "StackCoderModel", name := "writeTree", desc := "(I)V" } : Jvm.MethodName)) ∈ gt := mem_gt 826 (by decide +kernel) rfl
set_option maxRecDepth 100000 in
theorem gw_766 : (Jvm.Cond.code ({ cls := "StackCoderModel", name := "writeTree", desc := "(I)V" } : Jvm.MethodName) prog_8_method_28_code (4 : Nat) (Option.none : Option Jvm.ClassFile.FieldType)) ∈ gt := mem_gt 827 (by rfl) rfl
theorem gw_767 : (Jvm.Cond.methodLink "StackCoderModel" (148 : Nat) ({ cls := "StackCoderModel", name := "emitOperation", desc := "(I)V" } : Jvm.MethodName)) ∈ gt := mem_gt 828 (by decide +kernel) rfl
theorem gw_769 : (Jvm.Cond.instanceMethod ({ cls := "StackCoderModel", name := "emitOperation", desc := "(I)V" } : Jvm.MethodName)) ∈ gt := mem_gt 830 (by decide +kernel) rfl
set_option maxRecDepth 100000 in
theorem gw_770 : (Jvm.Cond.code ({ cls := "StackCoderModel", name := "emitOperation", desc := "(I)V" } : Jvm.MethodName) prog_8_method_27_code (3 : Nat) (Option.none : Option Jvm.ClassFile.FieldType)) ∈ gt := mem_gt 831 (by rfl) rfl
theorem gw_771 : (Jvm.Cond.methodLink "StackCoderModel" (144 : Nat) ({ cls := "StackCoderModel", name := "emit", desc := "(II)V" } : Jvm.MethodName)) ∈ gt := mem_gt 832 (by decide +kernel) rfl
theorem gw_773 : (Jvm.Cond.instanceMethod ({ cls := "StackCoderModel", name := "emit", desc := "(II)V" } : Jvm.MethodName)) ∈ gt := mem_gt 834 (by decide +kernel) rfl
set_option maxRecDepth 100000 in
theorem gw_774 : (Jvm.Cond.code ({ cls := "StackCoderModel", name := "emit", desc := "(II)V" } : Jvm.MethodName) prog_8_method_26_code (3 : Nat) (Option.none : Option Jvm.ClassFile.FieldType)) ∈ gt := mem_gt 835 (by rfl) rfl
theorem gw_775 : (Jvm.Cond.methodLink "StackCoderModel" (152 : Nat) ({ cls := "StackCoderModel", name := "open", desc := "(II)I" } : Jvm.MethodName)) ∈ gt := mem_gt 836 (by decide +kernel) rfl
theorem gw_777 : (Jvm.Cond.instanceMethod ({ cls := "StackCoderModel", name := "open", desc := "(II)I" } : Jvm.MethodName)) ∈ gt := mem_gt 838 (by decide +kernel) rfl
set_option maxRecDepth 100000 in
theorem gw_778 : (Jvm.Cond.code ({ cls := "StackCoderModel", name := "open", desc := "(II)I" } : Jvm.MethodName) prog_8_method_29_code (9 : Nat) (Option.some Jvm.ClassFile.FieldType.int)) ∈ gt := mem_gt 839 (by rfl) rfl
theorem gw_779 : (Jvm.Cond.methodLink "StackCoderModel" (167 : Nat) ({ cls := "StackCoderModel", name := "isWanted", desc := "(I)Z" } : Jvm.MethodName)) ∈ gt := mem_gt 840 (by decide +kernel) rfl
theorem gw_781 : (Jvm.Cond.instanceMethod ({ cls := "StackCoderModel", name := "isWanted", desc := "(I)Z" } : Jvm.MethodName)) ∈ gt := mem_gt 842 (by decide +kernel) rfl
set_option maxRecDepth 100000 in
theorem gw_782 : (Jvm.Cond.code ({ cls := "StackCoderModel", name := "isWanted", desc := "(I)Z" } : Jvm.MethodName) prog_8_method_30_code (6 : Nat) (Option.some Jvm.ClassFile.FieldType.boolean)) ∈ gt := mem_gt 843 (by rfl) rfl
theorem gw_783 : (Jvm.Cond.methodLink "StackCoderLaw" (49 : Nat) ({ cls := "StackCoderModel", name := "code", desc := "(I)I" } : Jvm.MethodName)) ∈ gt := mem_gt 844 (by decide +kernel) rfl
theorem gw_784 : (Jvm.Cond.instanceMethod ({ cls := "StackCoderModel", name := "code", desc := "(I)I" } : Jvm.MethodName)) ∈ gt := mem_gt 845 (by decide +kernel) rfl
theorem gw_785 : (Jvm.Cond.selects "StackCoderModel" ({ cls := "StackCoderModel", name := "code", desc := "(I)I" } : Jvm.MethodName) ({ cls := "StackCoderModel", name := "code", desc := "(I)I" } : Jvm.MethodName)) ∈ gt := mem_gt 846 (by decide +kernel) rfl
set_option maxRecDepth 100000 in
theorem gw_786 : (Jvm.Cond.code ({ cls := "StackCoderModel", name := "code", desc := "(I)I" } : Jvm.MethodName) prog_8_method_33_code (2 : Nat) (Option.some Jvm.ClassFile.FieldType.int)) ∈ gt := mem_gt 847 (by rfl) rfl
theorem gw_787 : (Jvm.Cond.methodLink "StackCoderLaw" (53 : Nat) ({ cls := "StackCoderModel", name := "carried", desc := "(I)I" } : Jvm.MethodName)) ∈ gt := mem_gt 848 (by decide +kernel) rfl
theorem gw_788 : (Jvm.Cond.instanceMethod ({ cls := "StackCoderModel", name := "carried", desc := "(I)I" } : Jvm.MethodName)) ∈ gt := mem_gt 849 (by decide +kernel) rfl
theorem gw_789 : (Jvm.Cond.selects "StackCoderModel" ({ cls := "StackCoderModel", name := "carried", desc := "(I)I" } : Jvm.MethodName) ({ cls := "StackCoderModel", name := "carried", desc := "(I)I" } : Jvm.MethodName)) ∈ gt := mem_gt 850 (by decide +kernel) rfl
set_option maxRecDepth 100000 in
theorem gw_790 : (Jvm.Cond.code ({ cls := "StackCoderModel", name := "carried", desc := "(I)I" } : Jvm.MethodName) prog_8_method_34_code (2 : Nat) (Option.some Jvm.ClassFile.FieldType.int)) ∈ gt := mem_gt 851 (by rfl) rfl
theorem gw_791 : (Jvm.Cond.methodLink "StackCoderLaw" (57 : Nat) ({ cls := "StackCoderModel", name := "need", desc := "(I)I" } : Jvm.MethodName)) ∈ gt := mem_gt 852 (by decide +kernel) rfl
theorem gw_792 : (Jvm.Cond.instanceMethod ({ cls := "StackCoderModel", name := "need", desc := "(I)I" } : Jvm.MethodName)) ∈ gt := mem_gt 853 (by decide +kernel) rfl
theorem gw_793 : (Jvm.Cond.selects "StackCoderModel" ({ cls := "StackCoderModel", name := "need", desc := "(I)I" } : Jvm.MethodName) ({ cls := "StackCoderModel", name := "need", desc := "(I)I" } : Jvm.MethodName)) ∈ gt := mem_gt 854 (by decide +kernel) rfl
set_option maxRecDepth 100000 in
theorem gw_794 : (Jvm.Cond.code ({ cls := "StackCoderModel", name := "need", desc := "(I)I" } : Jvm.MethodName) prog_8_method_35_code (2 : Nat) (Option.some Jvm.ClassFile.FieldType.int)) ∈ gt := mem_gt 855 (by rfl) rfl
theorem gw_795 : (Jvm.Cond.methodLink "StackCoderLaw" (61 : Nat) ({ cls := "StackCoderModel", name := "live", desc := "(I)I" } : Jvm.MethodName)) ∈ gt := mem_gt 856 (by decide +kernel) rfl
theorem gw_796 : (Jvm.Cond.instanceMethod ({ cls := "StackCoderModel", name := "live", desc := "(I)I" } : Jvm.MethodName)) ∈ gt := mem_gt 857 (by decide +kernel) rfl
theorem gw_797 : (Jvm.Cond.selects "StackCoderModel" ({ cls := "StackCoderModel", name := "live", desc := "(I)I" } : Jvm.MethodName) ({ cls := "StackCoderModel", name := "live", desc := "(I)I" } : Jvm.MethodName)) ∈ gt := mem_gt 858 (by decide +kernel) rfl
set_option maxRecDepth 100000 in
theorem gw_798 : (Jvm.Cond.code ({ cls := "StackCoderModel", name := "live", desc := "(I)I" } : Jvm.MethodName) prog_8_method_36_code (2 : Nat) (Option.some Jvm.ClassFile.FieldType.int)) ∈ gt := mem_gt 859 (by rfl) rfl
theorem gw_799 : (Jvm.Cond.methodLink "StackCoderLaw" (65 : Nat) ({ cls := "StackCoderModel", name := "stores", desc := "()I" } : Jvm.MethodName)) ∈ gt := mem_gt 860 (by decide +kernel) rfl
theorem gw_800 : (Jvm.Cond.instanceMethod ({ cls := "StackCoderModel", name := "stores", desc := "()I" } : Jvm.MethodName)) ∈ gt := mem_gt 861 (by decide +kernel) rfl
theorem gw_801 : (Jvm.Cond.selects "StackCoderModel" ({ cls := "StackCoderModel", name := "stores", desc := "()I" } : Jvm.MethodName) ({ cls := "StackCoderModel", name := "stores", desc := "()I" } : Jvm.MethodName)) ∈ gt := mem_gt 862 (by decide +kernel) rfl
set_option maxRecDepth 100000 in
theorem gw_802 : (Jvm.Cond.code ({ cls := "StackCoderModel", name := "stores", desc := "()I" } : Jvm.MethodName) prog_8_method_37_code (3 : Nat) (Option.some Jvm.ClassFile.FieldType.int)) ∈ gt := mem_gt 863 (by rfl) rfl
theorem gw_803 : (Jvm.Cond.methodLink "StackCoderLaw" (69 : Nat) ({ cls := "StackCoderModel", name := "depth", desc := "()I" } : Jvm.MethodName)) ∈ gt := mem_gt 864 (by decide +kernel) rfl
theorem gw_804 : (Jvm.Cond.instanceMethod ({ cls := "StackCoderModel", name := "depth", desc := "()I" } : Jvm.MethodName)) ∈ gt := mem_gt 865 (by decide +kernel) rfl
theorem gw_805 : (Jvm.Cond.selects "StackCoderModel" ({ cls := "StackCoderModel", name := "depth", desc := "()I" } : Jvm.MethodName) ({ cls := "StackCoderModel", name := "depth", desc := "()I" } : Jvm.MethodName)) ∈ gt := mem_gt 866 (by decide +kernel) rfl
set_option maxRecDepth 100000 in
theorem gw_806 : (Jvm.Cond.code ({ cls := "StackCoderModel", name := "depth", desc := "()I" } : Jvm.MethodName) prog_8_method_38_code (3 : Nat) (Option.some Jvm.ClassFile.FieldType.int)) ∈ gt := mem_gt 867 (by rfl) rfl
theorem gw_807 : (Jvm.Cond.methodLink "StackCoderLaw" (73 : Nat) ({ cls := "StackCoderModel", name := "run", desc := "(I)I" } : Jvm.MethodName)) ∈ gt := mem_gt 868 (by decide +kernel) rfl
theorem gw_808 : (Jvm.Cond.instanceMethod ({ cls := "StackCoderModel", name := "run", desc := "(I)I" } : Jvm.MethodName)) ∈ gt := mem_gt 869 (by decide +kernel) rfl
theorem gw_809 : (Jvm.Cond.selects "StackCoderModel" ({ cls := "StackCoderModel", name := "run", desc := "(I)I" } : Jvm.MethodName) ({ cls := "StackCoderModel", name := "run", desc := "(I)I" } : Jvm.MethodName)) ∈ gt := mem_gt 870 (by decide +kernel) rfl
set_option maxRecDepth 100000 in
theorem gw_810 : (Jvm.Cond.code ({ cls := "StackCoderModel", name := "run", desc := "(I)I" } : Jvm.MethodName) prog_8_method_44_code (3 : Nat) (Option.some Jvm.ClassFile.FieldType.int)) ∈ gt := mem_gt 871 (by rfl) rfl
theorem gw_811 : (Jvm.Cond.methodLink "StackCoderModel" (188 : Nat) ({ cls := "StackCoderModel", name := "runRegisters", desc := "()V" } : Jvm.MethodName)) ∈ gt := mem_gt 872 (by decide +kernel) rfl
theorem gw_813 : (Jvm.Cond.instanceMethod ({ cls := "StackCoderModel", name := "runRegisters", desc := "()V" } : Jvm.MethodName)) ∈ gt := mem_gt 874 (by decide +kernel) rfl
set_option maxRecDepth 100000 in
theorem gw_814 : (Jvm.Cond.code ({ cls := "StackCoderModel", name := "runRegisters", desc := "()V" } : Jvm.MethodName) prog_8_method_42_code (2 : Nat) (Option.none : Option Jvm.ClassFile.FieldType)) ∈ gt := mem_gt 875 (by rfl) rfl
theorem gw_815 : (Jvm.Cond.methodLink "StackCoderModel" (185 : Nat) ({ cls := "StackCoderModel", name := "instruct", desc := "(I)I" } : Jvm.MethodName)) ∈ gt := mem_gt 876 (by decide +kernel) rfl
theorem gw_817 : (Jvm.Cond.instanceMethod ({ cls := "StackCoderModel", name := "instruct", desc := "(I)I" } : Jvm.MethodName)) ∈ gt := mem_gt 878 (by decide +kernel) rfl
set_option maxRecDepth 100000 in
theorem gw_818 : (Jvm.Cond.code ({ cls := "StackCoderModel", name := "instruct", desc := "(I)I" } : Jvm.MethodName) prog_8_method_41_code (5 : Nat) (Option.some Jvm.ClassFile.FieldType.int)) ∈ gt := mem_gt 879 (by rfl) rfl
theorem gw_819 : (Jvm.Cond.methodLink "StackCoderModel" (176 : Nat) ({ cls := "StackCoderModel", name := "print", desc := "(I)V" } : Jvm.MethodName)) ∈ gt := mem_gt 880 (by decide +kernel) rfl
theorem gw_821 : (Jvm.Cond.instanceMethod ({ cls := "StackCoderModel", name := "print", desc := "(I)V" } : Jvm.MethodName)) ∈ gt := mem_gt 882 (by decide +kernel) rfl
set_option maxRecDepth 100000 in
theorem gw_822 : (Jvm.Cond.code ({ cls := "StackCoderModel", name := "print", desc := "(I)V" } : Jvm.MethodName) prog_8_method_39_code (2 : Nat) (Option.none : Option Jvm.ClassFile.FieldType)) ∈ gt := mem_gt 883 (by rfl) rfl
theorem gw_823 : (Jvm.Cond.methodLink "StackCoderModel" (179 : Nat) ({ cls := "StackCoderModel", name := "combine", desc := "(III)I" } : Jvm.MethodName)) ∈ gt := mem_gt 884 (by decide +kernel) rfl
theorem gw_824 : (Jvm.Cond.static ({ cls := "StackCoderModel", name := "combine", desc := "(III)I" } : Jvm.MethodName)) ∈ gt := mem_gt 885 (by decide +kernel) rfl
set_option maxRecDepth 100000 in
theorem gw_825 : (Jvm.Cond.code ({ cls := "StackCoderModel", name := "combine", desc := "(III)I" } : Jvm.MethodName) prog_8_method_40_code (3 : Nat) (Option.some Jvm.ClassFile.FieldType.int)) ∈ gt := mem_gt 886 (by rfl) rfl
theorem gw_826 : (Jvm.Cond.methodLink "StackCoderModel" (191 : Nat) ({ cls := "StackCoderModel", name := "runStack", desc := "()V" } : Jvm.MethodName)) ∈ gt := mem_gt 887 (by decide +kernel) rfl
theorem gw_828 : (Jvm.Cond.instanceMethod ({ cls := "StackCoderModel", name := "runStack", desc := "()V" } : Jvm.MethodName)) ∈ gt := mem_gt 889 (by decide +kernel) rfl
set_option maxRecDepth 100000 in
theorem gw_829 : (Jvm.Cond.code ({ cls := "StackCoderModel", name := "runStack", desc := "()V" } : Jvm.MethodName) prog_8_method_43_code (7 : Nat) (Option.none : Option Jvm.ClassFile.FieldType)) ∈ gt := mem_gt 890 (by rfl) rfl
theorem gw_830 : (Jvm.Cond.methodLink "StackCoderLaw" (77 : Nat) ({ cls := "StackCoderModel", name := "out", desc := "(I)I" } : Jvm.MethodName)) ∈ gt := mem_gt 891 (by decide +kernel) rfl
theorem gw_831 : (Jvm.Cond.instanceMethod ({ cls := "StackCoderModel", name := "out", desc := "(I)I" } : Jvm.MethodName)) ∈ gt := mem_gt 892 (by decide +kernel) rfl
theorem gw_832 : (Jvm.Cond.selects "StackCoderModel" ({ cls := "StackCoderModel", name := "out", desc := "(I)I" } : Jvm.MethodName) ({ cls := "StackCoderModel", name := "out", desc := "(I)I" } : Jvm.MethodName)) ∈ gt := mem_gt 893 (by decide +kernel) rfl
set_option maxRecDepth 100000 in
theorem gw_833 : (Jvm.Cond.code ({ cls := "StackCoderModel", name := "out", desc := "(I)I" } : Jvm.MethodName) prog_8_method_45_code (2 : Nat) (Option.some Jvm.ClassFile.FieldType.int)) ∈ gt := mem_gt 894 (by rfl) rfl
theorem gw_834 : (Jvm.Cond.methodLink "StackCoderLaw" (81 : Nat) ({ cls := "StackCoderModel", name := "steps", desc := "()I" } : Jvm.MethodName)) ∈ gt := mem_gt 895 (by decide +kernel) rfl
theorem gw_835 : (Jvm.Cond.instanceMethod ({ cls := "StackCoderModel", name := "steps", desc := "()I" } : Jvm.MethodName)) ∈ gt := mem_gt 896 (by decide +kernel) rfl
theorem gw_836 : (Jvm.Cond.selects "StackCoderModel" ({ cls := "StackCoderModel", name := "steps", desc := "()I" } : Jvm.MethodName) ({ cls := "StackCoderModel", name := "steps", desc := "()I" } : Jvm.MethodName)) ∈ gt := mem_gt 897 (by decide +kernel) rfl
set_option maxRecDepth 100000 in
theorem gw_837 : (Jvm.Cond.code ({ cls := "StackCoderModel", name := "steps", desc := "()I" } : Jvm.MethodName) prog_8_method_46_code (1 : Nat) (Option.some Jvm.ClassFile.FieldType.int)) ∈ gt := mem_gt 898 (by rfl) rfl
theorem gw_838 : (Jvm.Cond.methodLink "StackCoderLaw" (84 : Nat) ({ cls := "StackCoderModel", name := "cell", desc := "(I)I" } : Jvm.MethodName)) ∈ gt := mem_gt 899 (by decide +kernel) rfl
theorem gw_839 : (Jvm.Cond.instanceMethod ({ cls := "StackCoderModel", name := "cell", desc := "(I)I" } : Jvm.MethodName)) ∈ gt := mem_gt 900 (by decide +kernel) rfl
theorem gw_840 : (Jvm.Cond.selects "StackCoderModel" ({ cls := "StackCoderModel", name := "cell", desc := "(I)I" } : Jvm.MethodName) ({ cls := "StackCoderModel", name := "cell", desc := "(I)I" } : Jvm.MethodName)) ∈ gt := mem_gt 901 (by decide +kernel) rfl
set_option maxRecDepth 100000 in
theorem gw_841 : (Jvm.Cond.code ({ cls := "StackCoderModel", name := "cell", desc := "(I)I" } : Jvm.MethodName) prog_8_method_47_code (2 : Nat) (Option.some Jvm.ClassFile.FieldType.int)) ∈ gt := mem_gt 902 (by rfl) rfl
theorem gs_0 : (Cond.selects "StackCoder" ⟨"StackCoder", "translate", "()V"⟩ ⟨"StackCoder", "translate", "()V"⟩) ∈ gt := mem_gt 0 (by decide +kernel) rfl
theorem gs_1 : (Cond.selects "StackCoder$Flow" ⟨"StackCoder$Flow", "markBlocks", "()V"⟩ ⟨"StackCoder$Flow", "markBlocks", "()V"⟩) ∈ gt := mem_gt 1 (by decide +kernel) rfl
theorem gs_2 : (Cond.selects "StackCoder$Flow" ⟨"StackCoder$Flow", "markBegin", "(I)V"⟩ ⟨"StackCoder$Flow", "markBegin", "(I)V"⟩) ∈ gt := mem_gt 2 (by decide +kernel) rfl
theorem gs_3 : (Cond.selects "StackCoder$Flow" ⟨"StackCoder$Flow", "flowBack", "()Z"⟩ ⟨"StackCoder$Flow", "flowBack", "()Z"⟩) ∈ gt := mem_gt 3 (by decide +kernel) rfl
theorem gs_4 : (Cond.selects "StackCoder$Flow" ⟨"StackCoder$Flow", "gatherAfter", "(I)I"⟩ ⟨"StackCoder$Flow", "gatherAfter", "(I)I"⟩) ∈ gt := mem_gt 4 (by decide +kernel) rfl
theorem gs_5 : (Cond.selects "StackCoder$Carrying" ⟨"StackCoder$Carrying", "carryInto", "(I)V"⟩ ⟨"StackCoder$Carrying", "carryInto", "(I)V"⟩) ∈ gt := mem_gt 5 (by decide +kernel) rfl
theorem gs_6 : (Cond.selects "StackCoder$Carrying" ⟨"StackCoder$Carrying", "carriable", "(II)I"⟩ ⟨"StackCoder$Carrying", "carriable", "(II)I"⟩) ∈ gt := mem_gt 6 (by decide +kernel) rfl
theorem gs_7 : (Cond.selects "StackCoder$Carrying" ⟨"StackCoder$Carrying", "lastWriter", "(II)I"⟩ ⟨"StackCoder$Carrying", "lastWriter", "(II)I"⟩) ∈ gt := mem_gt 7 (by decide +kernel) rfl
theorem gs_8 : (Cond.selects "StackCoder$Carrying" ⟨"StackCoder$Carrying", "isReadByNoneBut", "(II)Z"⟩ ⟨"StackCoder$Carrying", "isReadByNoneBut", "(II)Z"⟩) ∈ gt := mem_gt 8 (by decide +kernel) rfl
theorem gs_9 : (Cond.selects "StackCoder$Carrying" ⟨"StackCoder$Carrying", "canWait", "(II)Z"⟩ ⟨"StackCoder$Carrying", "canWait", "(II)Z"⟩) ∈ gt := mem_gt 9 (by decide +kernel) rfl
theorem gs_10 : (Cond.selects "StackCoder$Carrying" ⟨"StackCoder$Carrying", "needWith", "(III)I"⟩ ⟨"StackCoder$Carrying", "needWith", "(III)I"⟩) ∈ gt := mem_gt 10 (by decide +kernel) rfl
theorem gs_11 : (Cond.selects "StackCoder$Carrying" ⟨"StackCoder$Carrying", "thingNeed", "(I)I"⟩ ⟨"StackCoder$Carrying", "thingNeed", "(I)I"⟩) ∈ gt := mem_gt 11 (by decide +kernel) rfl
theorem gs_12 : (Cond.selects "StackCoder$Carrying" ⟨"StackCoder$Carrying", "noteTree", "(I)V"⟩ ⟨"StackCoder$Carrying", "noteTree", "(I)V"⟩) ∈ gt := mem_gt 12 (by decide +kernel) rfl
theorem gs_13 : (Cond.selects "StackCoder$Carrying" ⟨"StackCoder$Carrying", "thingReads", "(II)I"⟩ ⟨"StackCoder$Carrying", "thingReads", "(II)I"⟩) ∈ gt := mem_gt 13 (by decide +kernel) rfl
theorem gs_14 : (Cond.selects "StackCoder$Carrying" ⟨"StackCoder$Carrying", "thingLoads", "(I)Z"⟩ ⟨"StackCoder$Carrying", "thingLoads", "(I)Z"⟩) ∈ gt := mem_gt 14 (by decide +kernel) rfl
theorem gs_15 : (Cond.selects "StackCoder$StackCode" ⟨"StackCoder$StackCode", "widthOf", "(I)I"⟩ ⟨"StackCoder$StackCode", "widthOf", "(I)I"⟩) ∈ gt := mem_gt 15 (by decide +kernel) rfl
theorem gs_16 : (Cond.selects "StackCoder$StackCode" ⟨"StackCoder$StackCode", "thingWidth", "(II)I"⟩ ⟨"StackCoder$StackCode", "thingWidth", "(II)I"⟩) ∈ gt := mem_gt 16 (by decide +kernel) rfl
theorem gs_17 : (Cond.selects "StackCoder$StackCode" ⟨"StackCoder$StackCode", "needsSwap", "(I)Z"⟩ ⟨"StackCoder$StackCode", "needsSwap", "(I)Z"⟩) ∈ gt := mem_gt 17 (by decide +kernel) rfl
theorem gs_18 : (Cond.selects "StackCoder$StackCode" ⟨"StackCoder$StackCode", "leavesValue", "(I)Z"⟩ ⟨"StackCoder$StackCode", "leavesValue", "(I)Z"⟩) ∈ gt := mem_gt 18 (by decide +kernel) rfl
theorem gs_19 : (Cond.selects "StackCoder$StackCode" ⟨"StackCoder$StackCode", "writeInstruction", "(I)V"⟩ ⟨"StackCoder$StackCode", "writeInstruction", "(I)V"⟩) ∈ gt := mem_gt 19 (by decide +kernel) rfl
theorem gs_20 : (Cond.selects "StackCoder$StackCode" ⟨"StackCoder$StackCode", "writeThings", "(II)I"⟩ ⟨"StackCoder$StackCode", "writeThings", "(II)I"⟩) ∈ gt := mem_gt 20 (by decide +kernel) rfl
theorem gs_21 : (Cond.selects "StackCoder$StackCode" ⟨"StackCoder$StackCode", "writeThing", "(III)I"⟩ ⟨"StackCoder$StackCode", "writeThing", "(III)I"⟩) ∈ gt := mem_gt 21 (by decide +kernel) rfl
theorem gs_22 : (Cond.selects "StackCoder$StackCode" ⟨"StackCoder$StackCode", "write", "(III)I"⟩ ⟨"StackCoder$StackCode", "write", "(III)I"⟩) ∈ gt := mem_gt 22 (by decide +kernel) rfl
theorem gs_23 : (Cond.selects "StackCoder$StackCode" ⟨"StackCoder$StackCode", "ownNumber", "(I)I"⟩ ⟨"StackCoder$StackCode", "ownNumber", "(I)I"⟩) ∈ gt := mem_gt 23 (by decide +kernel) rfl
theorem gs_24 : (Cond.selects "StackCoder$StackCode" ⟨"StackCoder$StackCode", "startFrom", "(I)I"⟩ ⟨"StackCoder$StackCode", "startFrom", "(I)I"⟩) ∈ gt := mem_gt 24 (by decide +kernel) rfl
theorem gs_25 : (Cond.selects "StackCoder$StackCode" ⟨"StackCoder$StackCode", "writeEnd", "(II)V"⟩ ⟨"StackCoder$StackCode", "writeEnd", "(II)V"⟩) ∈ gt := mem_gt 25 (by decide +kernel) rfl
theorem gs_26 : (Cond.selects "StackCoder$Machine" ⟨"StackCoder$Machine", "reset", "()V"⟩ ⟨"StackCoder$Machine", "reset", "()V"⟩) ∈ gt := mem_gt 26 (by decide +kernel) rfl
theorem gs_27 : (Cond.selects "StackCoder$Machine" ⟨"StackCoder$Machine", "followInstruction", "(LStackCoder$RegisterCode;I)I"⟩ ⟨"StackCoder$Machine", "followInstruction", "(LStackCoder$RegisterCode;I)I"⟩) ∈ gt := mem_gt 27 (by decide +kernel) rfl
theorem gs_28 : (Cond.selects "StackCoder$Machine" ⟨"StackCoder$Machine", "print", "(I)V"⟩ ⟨"StackCoder$Machine", "print", "(I)V"⟩) ∈ gt := mem_gt 28 (by decide +kernel) rfl
theorem gs_29 : (Cond.selects "StackCoder$Machine" ⟨"StackCoder$Machine", "valueOf", "(III)I"⟩ ⟨"StackCoder$Machine", "valueOf", "(III)I"⟩) ∈ gt := mem_gt 29 (by decide +kernel) rfl
theorem gs_30 : (Cond.selects "StackCoder$Machine" ⟨"StackCoder$Machine", "followOperation", "(III)I"⟩ ⟨"StackCoder$Machine", "followOperation", "(III)I"⟩) ∈ gt := mem_gt 30 (by decide +kernel) rfl
theorem gs_31 : (Cond.selects "StackCoder$Machine" ⟨"StackCoder$Machine", "push", "(I)V"⟩ ⟨"StackCoder$Machine", "push", "(I)V"⟩) ∈ gt := mem_gt 31 (by decide +kernel) rfl
theorem gs_32 : (Cond.selects "StackCoder$Machine" ⟨"StackCoder$Machine", "pop", "()I"⟩ ⟨"StackCoder$Machine", "pop", "()I"⟩) ∈ gt := mem_gt 32 (by decide +kernel) rfl
theorem gs_33 : (Cond.selects "StackCoder$Machine" ⟨"StackCoder$Machine", "joinTopTwo", "(I)V"⟩ ⟨"StackCoder$Machine", "joinTopTwo", "(I)V"⟩) ∈ gt := mem_gt 33 (by decide +kernel) rfl
theorem gs_34 : (Cond.selects "StackCoderModel" ⟨"StackCoderModel", "put", "(IIIII)V"⟩ ⟨"StackCoderModel", "put", "(IIIII)V"⟩) ∈ gt := mem_gt 34 (by decide +kernel) rfl
theorem gs_35 : (Cond.selects "StackCoderModel" ⟨"StackCoderModel", "work", "()V"⟩ ⟨"StackCoderModel", "work", "()V"⟩) ∈ gt := mem_gt 35 (by decide +kernel) rfl
theorem gs_36 : (Cond.selects "StackCoderModel" ⟨"StackCoderModel", "findBlocks", "()V"⟩ ⟨"StackCoderModel", "findBlocks", "()V"⟩) ∈ gt := mem_gt 36 (by decide +kernel) rfl
theorem gs_37 : (Cond.selects "StackCoderModel" ⟨"StackCoderModel", "leaves", "(I)Z"⟩ ⟨"StackCoderModel", "leaves", "(I)Z"⟩) ∈ gt := mem_gt 37 (by decide +kernel) rfl
theorem gs_38 : (Cond.selects "StackCoderModel" ⟨"StackCoderModel", "findAlive", "()V"⟩ ⟨"StackCoderModel", "findAlive", "()V"⟩) ∈ gt := mem_gt 38 (by decide +kernel) rfl
theorem gs_39 : (Cond.selects "StackCoderModel" ⟨"StackCoderModel", "behind", "(I)I"⟩ ⟨"StackCoderModel", "behind", "(I)I"⟩) ∈ gt := mem_gt 39 (by decide +kernel) rfl
theorem gs_40 : (Cond.selects "StackCoderModel" ⟨"StackCoderModel", "aliveAt", "(I)I"⟩ ⟨"StackCoderModel", "aliveAt", "(I)I"⟩) ∈ gt := mem_gt 40 (by decide +kernel) rfl
theorem gs_41 : (Cond.selects "StackCoderModel" ⟨"StackCoderModel", "isWriter", "(I)Z"⟩ ⟨"StackCoderModel", "isWriter", "(I)Z"⟩) ∈ gt := mem_gt 41 (by decide +kernel) rfl
theorem gs_42 : (Cond.selects "StackCoderModel" ⟨"StackCoderModel", "readsA", "(I)Z"⟩ ⟨"StackCoderModel", "readsA", "(I)Z"⟩) ∈ gt := mem_gt 42 (by decide +kernel) rfl
theorem gs_43 : (Cond.selects "StackCoderModel" ⟨"StackCoderModel", "readsB", "(I)Z"⟩ ⟨"StackCoderModel", "readsB", "(I)Z"⟩) ∈ gt := mem_gt 43 (by decide +kernel) rfl
theorem gs_44 : (Cond.selects "StackCoderModel" ⟨"StackCoderModel", "settle", "(I)V"⟩ ⟨"StackCoderModel", "settle", "(I)V"⟩) ∈ gt := mem_gt 44 (by decide +kernel) rfl
theorem gs_45 : (Cond.selects "StackCoderModel" ⟨"StackCoderModel", "writerBefore", "(II)I"⟩ ⟨"StackCoderModel", "writerBefore", "(II)I"⟩) ∈ gt := mem_gt 45 (by decide +kernel) rfl
theorem gs_46 : (Cond.selects "StackCoderModel" ⟨"StackCoderModel", "writes", "(II)Z"⟩ ⟨"StackCoderModel", "writes", "(II)Z"⟩) ∈ gt := mem_gt 46 (by decide +kernel) rfl
theorem gs_47 : (Cond.selects "StackCoderModel" ⟨"StackCoderModel", "canCarry", "(II)Z"⟩ ⟨"StackCoderModel", "canCarry", "(II)Z"⟩) ∈ gt := mem_gt 47 (by decide +kernel) rfl
theorem gs_48 : (Cond.selects "StackCoderModel" ⟨"StackCoderModel", "nextWriter", "(I)I"⟩ ⟨"StackCoderModel", "nextWriter", "(I)I"⟩) ∈ gt := mem_gt 48 (by decide +kernel) rfl
theorem gs_49 : (Cond.selects "StackCoderModel" ⟨"StackCoderModel", "blockEnd", "(I)I"⟩ ⟨"StackCoderModel", "blockEnd", "(I)I"⟩) ∈ gt := mem_gt 49 (by decide +kernel) rfl
theorem gs_50 : (Cond.selects "StackCoderModel" ⟨"StackCoderModel", "times", "(II)I"⟩ ⟨"StackCoderModel", "times", "(II)I"⟩) ∈ gt := mem_gt 50 (by decide +kernel) rfl
theorem gs_51 : (Cond.selects "StackCoderModel" ⟨"StackCoderModel", "needOf", "(III)I"⟩ ⟨"StackCoderModel", "needOf", "(III)I"⟩) ∈ gt := mem_gt 51 (by decide +kernel) rfl
theorem gs_52 : (Cond.selects "StackCoderModel" ⟨"StackCoderModel", "writeTree", "(I)V"⟩ ⟨"StackCoderModel", "writeTree", "(I)V"⟩) ∈ gt := mem_gt 52 (by decide +kernel) rfl
theorem gs_53 : (Cond.selects "StackCoderModel" ⟨"StackCoderModel", "emitOperation", "(I)V"⟩ ⟨"StackCoderModel", "emitOperation", "(I)V"⟩) ∈ gt := mem_gt 53 (by decide +kernel) rfl
theorem gs_54 : (Cond.selects "StackCoderModel" ⟨"StackCoderModel", "emit", "(II)V"⟩ ⟨"StackCoderModel", "emit", "(II)V"⟩) ∈ gt := mem_gt 54 (by decide +kernel) rfl
theorem gs_55 : (Cond.selects "StackCoderModel" ⟨"StackCoderModel", "open", "(II)I"⟩ ⟨"StackCoderModel", "open", "(II)I"⟩) ∈ gt := mem_gt 55 (by decide +kernel) rfl
theorem gs_56 : (Cond.selects "StackCoderModel" ⟨"StackCoderModel", "isWanted", "(I)Z"⟩ ⟨"StackCoderModel", "isWanted", "(I)Z"⟩) ∈ gt := mem_gt 56 (by decide +kernel) rfl
theorem gs_57 : (Cond.selects "StackCoderModel" ⟨"StackCoderModel", "runRegisters", "()V"⟩ ⟨"StackCoderModel", "runRegisters", "()V"⟩) ∈ gt := mem_gt 57 (by decide +kernel) rfl
theorem gs_58 : (Cond.selects "StackCoderModel" ⟨"StackCoderModel", "instruct", "(I)I"⟩ ⟨"StackCoderModel", "instruct", "(I)I"⟩) ∈ gt := mem_gt 58 (by decide +kernel) rfl
theorem gs_59 : (Cond.selects "StackCoderModel" ⟨"StackCoderModel", "print", "(I)V"⟩ ⟨"StackCoderModel", "print", "(I)V"⟩) ∈ gt := mem_gt 59 (by decide +kernel) rfl
theorem gs_60 : (Cond.selects "StackCoderModel" ⟨"StackCoderModel", "runStack", "()V"⟩ ⟨"StackCoderModel", "runStack", "()V"⟩) ∈ gt := mem_gt 60 (by decide +kernel) rfl
theorem in_SC : ∀ w ∈ u_ws R_SC T_SC 6, w ∈ gt := List.forall_mem_cons.mpr ⟨gw_171, List.forall_mem_cons.mpr ⟨gw_173, List.forall_mem_cons.mpr ⟨gw_175, List.forall_mem_cons.mpr ⟨gw_177, List.forall_mem_cons.mpr ⟨gw_179, List.forall_mem_cons.mpr ⟨gw_181, fun _ h => absurd h List.not_mem_nil⟩⟩⟩⟩⟩⟩
theorem in_RC : ∀ w ∈ u_ws R_RC T_RC 8, w ∈ gt := List.forall_mem_cons.mpr ⟨gw_31, List.forall_mem_cons.mpr ⟨gw_33, List.forall_mem_cons.mpr ⟨gw_35, List.forall_mem_cons.mpr ⟨gw_37, List.forall_mem_cons.mpr ⟨gw_39, List.forall_mem_cons.mpr ⟨gw_41, List.forall_mem_cons.mpr ⟨gw_43, List.forall_mem_cons.mpr ⟨gw_45, fun _ h => absurd h List.not_mem_nil⟩⟩⟩⟩⟩⟩⟩⟩
theorem in_FL : ∀ w ∈ u_ws R_FL T_FL 4, w ∈ gt := List.forall_mem_cons.mpr ⟨gw_59, List.forall_mem_cons.mpr ⟨gw_61, List.forall_mem_cons.mpr ⟨gw_63, List.forall_mem_cons.mpr ⟨gw_65, fun _ h => absurd h List.not_mem_nil⟩⟩⟩⟩
theorem in_CA : ∀ w ∈ u_ws R_CA T_CA 9, w ∈ gt := List.forall_mem_cons.mpr ⟨gw_84, List.forall_mem_cons.mpr ⟨gw_86, List.forall_mem_cons.mpr ⟨gw_88, List.forall_mem_cons.mpr ⟨gw_90, List.forall_mem_cons.mpr ⟨gw_92, List.forall_mem_cons.mpr ⟨gw_94, List.forall_mem_cons.mpr ⟨gw_96, List.forall_mem_cons.mpr ⟨gw_98, List.forall_mem_cons.mpr ⟨gw_100, fun _ h => absurd h List.not_mem_nil⟩⟩⟩⟩⟩⟩⟩⟩⟩
theorem in_ST : ∀ w ∈ u_ws R_ST T_ST 9, w ∈ gt := List.forall_mem_cons.mpr ⟨gw_118, List.forall_mem_cons.mpr ⟨gw_120, List.forall_mem_cons.mpr ⟨gw_122, List.forall_mem_cons.mpr ⟨gw_124, List.forall_mem_cons.mpr ⟨gw_126, List.forall_mem_cons.mpr ⟨gw_128, List.forall_mem_cons.mpr ⟨gw_130, List.forall_mem_cons.mpr ⟨gw_132, List.forall_mem_cons.mpr ⟨gw_134, fun _ h => absurd h List.not_mem_nil⟩⟩⟩⟩⟩⟩⟩⟩⟩
theorem in_MA : ∀ w ∈ u_ws R_MA T_MA 7, w ∈ gt := List.forall_mem_cons.mpr ⟨gw_150, List.forall_mem_cons.mpr ⟨gw_152, List.forall_mem_cons.mpr ⟨gw_154, List.forall_mem_cons.mpr ⟨gw_156, List.forall_mem_cons.mpr ⟨gw_158, List.forall_mem_cons.mpr ⟨gw_160, List.forall_mem_cons.mpr ⟨gw_162, fun _ h => absurd h List.not_mem_nil⟩⟩⟩⟩⟩⟩⟩
theorem in_MO : ∀ w ∈ u_ws R_MO T_MO 26, w ∈ gt := List.forall_mem_cons.mpr ⟨gw_609, List.forall_mem_cons.mpr ⟨gw_611, List.forall_mem_cons.mpr ⟨gw_613, List.forall_mem_cons.mpr ⟨gw_615, List.forall_mem_cons.mpr ⟨gw_617, List.forall_mem_cons.mpr ⟨gw_619, List.forall_mem_cons.mpr ⟨gw_621, List.forall_mem_cons.mpr ⟨gw_623, List.forall_mem_cons.mpr ⟨gw_625, List.forall_mem_cons.mpr ⟨gw_627, List.forall_mem_cons.mpr ⟨gw_629, List.forall_mem_cons.mpr ⟨gw_631, List.forall_mem_cons.mpr ⟨gw_633, List.forall_mem_cons.mpr ⟨gw_635, List.forall_mem_cons.mpr ⟨gw_637, List.forall_mem_cons.mpr ⟨gw_639, List.forall_mem_cons.mpr ⟨gw_641, List.forall_mem_cons.mpr ⟨gw_643, List.forall_mem_cons.mpr ⟨gw_645, List.forall_mem_cons.mpr ⟨gw_647, List.forall_mem_cons.mpr ⟨gw_649, List.forall_mem_cons.mpr ⟨gw_651, List.forall_mem_cons.mpr ⟨gw_653, List.forall_mem_cons.mpr ⟨gw_655, List.forall_mem_cons.mpr ⟨gw_657, List.forall_mem_cons.mpr ⟨gw_659, fun _ h => absurd h List.not_mem_nil⟩⟩⟩⟩⟩⟩⟩⟩⟩⟩⟩⟩⟩⟩⟩⟩⟩⟩⟩⟩⟩⟩⟩⟩⟩⟩
end
section
-- ===== generic rows: a system whose objects form a fixed graph; its contents are one function of (number of a row, place) =====
abbrev SS : Type := Nat → Nat → Int32
def FU : Nat := 5000
def su (σ : SS) (k i : Nat) (x : Int32) : SS := fun j => if j = k then upd (σ k) i x else σ j
def ld (f : Nat → Int32) (n : Nat) (i : Int32) : Option Int32 := if i < 0 ∨ n ≤ i.toNatClampNeg then none else some (f i.toNatClampNeg)
def sto (σ : SS) (k n : Nat) (i x : Int32) : Option SS := if i < 0 ∨ n ≤ i.toNatClampNeg then none else some (su σ k i.toNatClampNeg x)
def sf (σ : SS) (k : Nat) (x : Int32) : Option SS := some (su σ k 0 x)
def rz (x : Int32) (σ : SS) : Option (Int32 × SS) := if x = 0 ∨ x = 1 then some (x, σ) else none
theorem bdK {α β : Type} {o : Option α} {f : α → Option β} {b : β} {G : Prop} (h : o.bind f = some b) (k : ∀ a, o = some a → f a = some b → G) : G := by
  cases o with
  | none => cases h
  | some a => exact k a rfl h
theorem ld_some {f : Nat → Int32} {n : Nat} {i v : Int32} (h : ld f n i = some v) : vp_in i n ∧ f i.toNatClampNeg = v := by
  unfold ld at h
  by_cases hc : i < 0 ∨ n ≤ i.toNatClampNeg
  · rw [if_pos hc] at h; cases h
  · rw [if_neg hc] at h; exact ⟨hc, Option.some.inj h⟩
theorem sto_some {σ σ' : SS} {k n : Nat} {i x : Int32} (h : sto σ k n i x = some σ') : vp_in i n ∧ su σ k i.toNatClampNeg x = σ' := by
  unfold sto at h
  by_cases hc : i < 0 ∨ n ≤ i.toNatClampNeg
  · rw [if_pos hc] at h; cases h
  · rw [if_neg hc] at h; exact ⟨hc, Option.some.inj h⟩
theorem rz_some {x : Int32} {σ : SS} {q : Int32 × SS} (h : rz x σ = some q) : (x = 0 ∨ x = 1) ∧ some (x, σ) = some q := by
  unfold rz at h
  by_cases hc : x = 0 ∨ x = 1
  · rw [if_pos hc] at h; exact ⟨hc, h⟩
  · rw [if_neg hc] at h; cases h
theorem nar_z {x : Int32} (h : x = 0 ∨ x = 1) : narrow .boolean (.int x) = .int x := by
  rcases h with rfl | rfl <;> decide
/-- the world, the tables, the statics, at a state -/
def pW (D : va_G) (wf : SS → va_W) (tys : List (ClassId × FieldType)) (st : (Nat → Prop) → State → Heap → Prop) (A : Nat → Prop) (σ : SS) (U : State) : Prop := va_P D vwCl (wf σ) U.heap ∧ va_K D vwCl tys U ∧ st A U U.heap
/-- statics stay: by tables alike, and by cells outside A unchanged -/
def stG (st : (Nat → Prop) → State → Heap → Prop) : Prop := (∀ (A : Nat → Prop) (u U : State) (H : Heap), u.vm.Alike U.vm → st A u H → st A U H) ∧ ∀ (A : Nat → Prop) (U : State) (H H1 : Heap), (∀ a : Nat, a < H.size → ¬ A a → H1[a]? = H[a]?) → st A U H → st A U H1
theorem pW_blind {av : List Value} {D : va_G} {wf : SS → va_W} {tys : List (ClassId × FieldType)} {st : (Nat → Prop) → State → Heap → Prop} {A : Nat → Prop} {σ : SS} (hg : stG st) : FrameBlind (va_Pc av (pW D wf tys st A σ)) := by
  intro a U g mk q
  obtain ⟨q0, q1, q2, q3⟩ := q
  exact ⟨q0, q1, va_K.moved (u := U) (U := U.calling g mk a) (Vm.Alike.refl U.vm) q2, hg.1 A U (U.calling g mk a) U.heap (Vm.Alike.refl U.vm) q3⟩
section RC
variable {p : Program} {l : Launch} {e : Env} {R : Room} {s : State} {m : MethodId} {args : Array Value} {below : List Frame} {meth : Method} {c : Code} {H : Heap} {locs : List Loc} {cells slots : Nat} {Q : State → Prop}
variable {cc : ByteArray} {pc nL : Nat} {ls : Array Slot} {rest st0 : List Value} {D : va_G} {A : Nat → Prop} {tys : List (ClassId × FieldType)} {wf : SS → va_W} {st : (Nat → Prop) → State → Heap → Prop} {σ : SS} {a : Nat} {ws : va_W} {cl : List vw_C} {H0 : Heap}
theorem pW_at {U : State} (hg : stG st) (hK : va_K D vwCl tys s) (hT : st A s s.heap) (hP : va_P D vwCl (wf σ) H) (hS : va_S A s.heap H locs) (hU : U.heap = H) (hW : s.vm.Alike U.vm) : pW D wf tys st A σ U := by
  refine ⟨by rw [hU]; exact hP, va_K.moved hW hK, ?_⟩
  refine hg.1 A s U _ hW (hg.2 A s s.heap _ (fun q h1 h2 => ?_) hT)
  rw [hU]
  exact hS.2.1 q h1 h2
theorem r_iald (hexec : p.tables.exec = Jvm.exec) (hb : c.code = cc) (hK : va_K D cl tys s) (hP : va_P D cl ws H) (q0 t0 : Nat) {cA : ClassId} {n : Nat} {f : Nat → Int32} (ha : ws[q0]? = some (a, .inl (cA, n, .inl f))) (ht : tys[t0]? = some (cA, .int)) {i v : Int32} (h : ld f n i = some v) (hdg : decode cc pc = .ok (.iaload, 1))
    (kk : W p l e R s m args below meth c H locs cells slots Q (F0 m (pc + 1) ls (.int v :: rest))) : W p l e R s m args below meth c H locs cells slots Q (F0 m pc ls (.int i :: .ref a :: rest)) := by
  obtain ⟨hin, rfl⟩ := ld_some h
  exact va_iald hexec hb hK hP q0 t0 ha ht hin hdg kk
theorem r_zald (hexec : p.tables.exec = Jvm.exec) (hb : c.code = cc) (hK : va_K D cl tys s) (hP : va_P D cl ws H) (q0 t0 : Nat) {cA : ClassId} {n : Nat} {f : Nat → Int32} (ha : ws[q0]? = some (a, .inl (cA, n, .inl f))) (ht : tys[t0]? = some (cA, .boolean)) {i v : Int32} (h : ld f n i = some v) (hdg : decode cc pc = .ok (.baload, 1))
    (kk : W p l e R s m args below meth c H locs cells slots Q (F0 m (pc + 1) ls (.int v :: rest))) : W p l e R s m args below meth c H locs cells slots Q (F0 m pc ls (.int i :: .ref a :: rest)) := by
  obtain ⟨hin, rfl⟩ := ld_some h
  exact va_zald hexec hb hK hP q0 t0 ha ht hin hdg kk
theorem r_ti (hexec : p.tables.exec = Jvm.exec) (hb : c.code = cc) {t N : Nat} {f : Nat → Int32} (hT : va_T .int t N (fun j => .int (f j)) A s s.heap) (hS : va_S A s.heap H locs) {i v : Int32} (h : ld f N i = some v) (hdg : decode cc pc = .ok (.iaload, 1))
    (kk : W p l e R s m args below meth c H locs cells slots Q (F0 m (pc + 1) ls (.int v :: rest))) : W p l e R s m args below meth c H locs cells slots Q (F0 m pc ls (.int i :: .ref t :: rest)) := by
  obtain ⟨hin, rfl⟩ := ld_some h
  exact va_ti hexec hb hT hS hin rfl hdg kk
theorem r_iast (hexec : p.tables.exec = Jvm.exec) (hb : c.code = cc) (hK : va_K D cl tys s) (hP : va_P D cl (wf σ) H) (hD : va_D A (wf σ)) (hS : va_S A H0 H locs) (q0 t0 : Nat) {cA : ClassId} {n k : Nat} (ha : (wf σ)[q0]? = some (a, .inl (cA, n, .inl (σ k)))) (ht : tys[t0]? = some (cA, .int)) (hset : ∀ (i : Nat) (x : Int32), (wf σ).set q0 (a, .inl (cA, n, .inl (upd (σ k) i x))) = wf (su σ k i x)) {i x : Int32} {σ' : SS} (h : sto σ k n i x = some σ') (hdg : decode cc pc = .ok (.iastore, 1))
    (kk : ∀ (H1 : Heap) (locs1 : List Loc), va_P D cl (wf σ') H1 → va_S A H0 H1 locs1 → W p l e R s m args below meth c H1 locs1 cells slots Q (F0 m (pc + 1) ls rest)) : W p l e R s m args below meth c H locs cells slots Q (F0 m pc ls (.int x :: .int i :: .ref a :: rest)) := by
  obtain ⟨hin, rfl⟩ := sto_some h
  refine va_iast hexec hb hK hP hD hS q0 t0 ha ht hin hdg (fun H1 locs1 hP1 _ hS1 => kk H1 locs1 ?_ hS1)
  rw [hset] at hP1
  exact hP1
theorem r_zast (hexec : p.tables.exec = Jvm.exec) (hb : c.code = cc) (hK : va_K D cl tys s) (hP : va_P D cl (wf σ) H) (hD : va_D A (wf σ)) (hS : va_S A H0 H locs) (q0 t0 : Nat) {cA : ClassId} {n k : Nat} (ha : (wf σ)[q0]? = some (a, .inl (cA, n, .inl (σ k)))) (ht : tys[t0]? = some (cA, .boolean)) (hset : ∀ (i : Nat) (x : Int32), (wf σ).set q0 (a, .inl (cA, n, .inl (upd (σ k) i x))) = wf (su σ k i x)) {i x : Int32} {σ' : SS} (h : sto σ k n i (vp_nar .boolean x) = some σ') (hdg : decode cc pc = .ok (.bastore, 1))
    (kk : ∀ (H1 : Heap) (locs1 : List Loc), va_P D cl (wf σ') H1 → va_S A H0 H1 locs1 → W p l e R s m args below meth c H1 locs1 cells slots Q (F0 m (pc + 1) ls rest)) : W p l e R s m args below meth c H locs cells slots Q (F0 m pc ls (.int x :: .int i :: .ref a :: rest)) := by
  obtain ⟨hin, rfl⟩ := sto_some h
  refine va_zast hexec hb hK hP hD hS q0 t0 ha ht hin hdg (fun H1 locs1 hP1 _ hS1 => kk H1 locs1 ?_ hS1)
  rw [hset] at hP1
  exact hP1
/-- behind a putfield: the world of the new contents -/
theorem sf_P {k q0 : Nat} {x : Int32} {σ' : SS} {en : Nat × va_E} (h : sf σ k x = some σ') (hP : va_P D cl ((wf σ).set q0 en) H) (hset : (wf σ).set q0 en = wf (su σ k 0 x)) : va_P D cl (wf σ') H := by
  obtain rfl := Option.some.inj h
  rw [← hset]
  exact hP
theorem rr_i {E : Int32} {q : Int32 × SS} (hexec : p.tables.exec = Jvm.exec) (hb : c.code = cc) (hr : meth.sig.returnType = some .int) (hlk : meth.locks = false) (hg : stG st) (hK : va_K D vwCl tys s) (hT : st A s s.heap) (hP : va_P D vwCl (wf σ) H) (hS : va_S A s.heap H locs) (hf : some (E, σ) = some q) (hdg : decode cc pc = .ok (.ireturn, 1)) : W p l e R s m args below meth c H locs cells slots (MQ below (va_Qi (fun r u => r = q.1 ∧ u = q.2) (pW D wf tys st A) A) args s cells slots A) (F0 m pc ls [.int E]) := by
  obtain rfl := Option.some.inj hf
  exact W.iret (v := E) hexec hb hr (fun t ht hW => ⟨⟨E, σ, rfl, ⟨rfl, rfl⟩, pW_at hg hK hT hP hS ht hW.alike⟩, hS.F ht⟩) hS.2.2 hdg
theorem rr_z {E : Int32} {q : Int32 × SS} (hexec : p.tables.exec = Jvm.exec) (hb : c.code = cc) (hr : meth.sig.returnType = some .boolean) (hlk : meth.locks = false) (hg : stG st) (hK : va_K D vwCl tys s) (hT : st A s s.heap) (hP : va_P D vwCl (wf σ) H) (hS : va_S A s.heap H locs) (hz : E = 0 ∨ E = 1) (hf : some (E, σ) = some q) (hdg : decode cc pc = .ok (.ireturn, 1)) : W p l e R s m args below meth c H locs cells slots (MQ below (va_Qi (fun r u => r = q.1 ∧ u = q.2) (pW D wf tys st A) A) args s cells slots A) (F0 m pc ls [.int E]) := by
  obtain rfl := Option.some.inj hf
  exact W.zret (v := E) hexec hb hr (nar_z hz) (fun t ht hW => ⟨⟨E, σ, rfl, ⟨rfl, rfl⟩, pW_at hg hK hT hP hS ht hW.alike⟩, hS.F ht⟩) hS.2.2 hdg
theorem rr_zg {E : Int32} {q : Int32 × SS} (hexec : p.tables.exec = Jvm.exec) (hb : c.code = cc) (hr : meth.sig.returnType = some .boolean) (hlk : meth.locks = false) (hg : stG st) (hK : va_K D vwCl tys s) (hT : st A s s.heap) (hP : va_P D vwCl (wf σ) H) (hS : va_S A s.heap H locs) (hf : rz E σ = some q) (hdg : decode cc pc = .ok (.ireturn, 1)) : W p l e R s m args below meth c H locs cells slots (MQ below (va_Qi (fun r u => r = q.1 ∧ u = q.2) (pW D wf tys st A) A) args s cells slots A) (F0 m pc ls [.int E]) :=
  rr_z hexec hb hr hlk hg hK hT hP hS (rz_some hf).1 (rz_some hf).2 hdg
theorem rr_v {q : SS} (hexec : p.tables.exec = Jvm.exec) (hb : c.code = cc) (hr : meth.sig.returnType = none) (hlk : meth.locks = false) (hg : stG st) (hK : va_K D vwCl tys s) (hT : st A s s.heap) (hP : va_P D vwCl (wf σ) H) (hS : va_S A s.heap H locs) (hf : some σ = some q) (hdg : decode cc pc = .ok (.return_, 1)) : W p l e R s m args below meth c H locs cells slots (MQ below (va_Qv (fun u => u = q) (pW D wf tys st A) A) args s cells slots A) (F0 m pc ls []) := by
  obtain rfl := Option.some.inj hf
  exact W.vret hexec hb hr (fun t ht hW => ⟨⟨σ, rfl, rfl, pW_at hg hK hT hP hS ht hW.alike⟩, hS.F ht⟩) hS.2.2 hdg
theorem rc_Vi {y : MethodName} {bytes : ByteArray} {maxL n index : Nat} {ret : Option FieldType} {wsC : List Cond} {rm : Room} {Ts : List Cond} {own C : String} {b : Nat} {As : List Value} {q : Int32 × SS} (hg : stG st) (F : CallFix p m c cc nL s args Ts own) (hM : Met l y wsC rm (va_Pc (.ref b :: As) (pW D wf tys st A σ)) (va_Qi (fun r u => r = q.1 ∧ u = q.2) (pW D wf tys st A) A) 0 0 A) (cw : CallW R s args own C index y bytes maxL ret wsC rm 0 0 n) (hK : va_K D vwCl tys s) (hT : st A s s.heap) (hP : va_P D vwCl (wf σ) H) (hS : va_S A s.heap H locs) (hrc : ∃ cell : Cell, H[b]? = some cell ∧ cell.vm.isStatics = false ∧ s.vm.findClass C = some cell.cls) (hn : As.length = n) (hsz : ls.size = nL) (hst : st0 = As.reverse ++ .ref b :: rest) (hW : (rest.map fun v => v.category).sum ≤ 8) (hdg : decode cc pc = .ok (.invokevirtual index, 3)) (hcs : cells + 0 ≤ R.cells ∧ slots + 0 ≤ R.slots)
    (kk : ∀ (H1 : Heap) (locs1 : List Loc), va_P D vwCl (wf q.2) H1 → va_S A s.heap H1 locs1 → W p l e R s m args below meth c H1 locs1 cells slots Q (F0 m (pc + 3) ls (.int q.1 :: rest))) : W p l e R s m args below meth c H locs cells slots Q (F0 m pc ls st0) := by
  refine va_calli (va_runV (As := As) (rest := rest) (b := b) F hM cw ⟨pW_blind hg, hrc, fun U hU hW => ⟨rfl, pW_at hg hK hT hP hS hU hW.alike⟩⟩ rfl hn hsz hst (lv_room hW) hdg hcs) hS (fun q _ h => h) (fun q h => h) (fun r u t H1 locs1 ht hvm hw hB hz1 hk1 hS1 => ?_)
  obtain ⟨rfl, rfl⟩ := hw
  exact kk H1 locs1 (by rw [← ht]; exact hB.1) hS1
theorem rc_Vv {y : MethodName} {bytes : ByteArray} {maxL n index : Nat} {ret : Option FieldType} {wsC : List Cond} {rm : Room} {Ts : List Cond} {own C : String} {b : Nat} {As : List Value} {q : SS} (hg : stG st) (F : CallFix p m c cc nL s args Ts own) (hM : Met l y wsC rm (va_Pc (.ref b :: As) (pW D wf tys st A σ)) (va_Qv (fun u => u = q) (pW D wf tys st A) A) 0 0 A) (cw : CallW R s args own C index y bytes maxL ret wsC rm 0 0 n) (hK : va_K D vwCl tys s) (hT : st A s s.heap) (hP : va_P D vwCl (wf σ) H) (hS : va_S A s.heap H locs) (hrc : ∃ cell : Cell, H[b]? = some cell ∧ cell.vm.isStatics = false ∧ s.vm.findClass C = some cell.cls) (hn : As.length = n) (hsz : ls.size = nL) (hst : st0 = As.reverse ++ .ref b :: rest) (hW : (rest.map fun v => v.category).sum ≤ 8) (hdg : decode cc pc = .ok (.invokevirtual index, 3)) (hcs : cells + 0 ≤ R.cells ∧ slots + 0 ≤ R.slots)
    (kk : ∀ (H1 : Heap) (locs1 : List Loc), va_P D vwCl (wf q) H1 → va_S A s.heap H1 locs1 → W p l e R s m args below meth c H1 locs1 cells slots Q (F0 m (pc + 3) ls rest)) : W p l e R s m args below meth c H locs cells slots Q (F0 m pc ls st0) := by
  refine va_callv (va_runV (As := As) (rest := rest) (b := b) F hM cw ⟨pW_blind hg, hrc, fun U hU hW => ⟨rfl, pW_at hg hK hT hP hS hU hW.alike⟩⟩ rfl hn hsz hst (lv_room hW) hdg hcs) hS (fun q _ h => h) (fun q h => h) (fun u t H1 locs1 ht hvm hw hB hz1 hk1 hS1 => ?_)
  obtain rfl := hw
  exact kk H1 locs1 (by rw [← ht]; exact hB.1) hS1
theorem rc_Si {y : MethodName} {bytes : ByteArray} {maxL n index : Nat} {ret : Option FieldType} {wsC : List Cond} {rm : Room} {Ts : List Cond} {own : String} {As : List Value} {q : Int32 × SS} (hg : stG st) (F : CallFix p m c cc nL s args Ts own) (hM : Met l y wsC rm (va_Pc As (pW D wf tys st A σ)) (va_Qi (fun r u => r = q.1 ∧ u = q.2) (pW D wf tys st A) A) 0 0 A) (cw : CallB R s args own index y bytes maxL ret wsC rm 0 0 n ∧ (Cond.static y).before args s = true) (hK : va_K D vwCl tys s) (hT : st A s s.heap) (hP : va_P D vwCl (wf σ) H) (hS : va_S A s.heap H locs) (hn : As.length = n) (hsz : ls.size = nL) (hst : st0 = As.reverse ++ rest) (hW : (rest.map fun v => v.category).sum ≤ 8) (hdg : decode cc pc = .ok (.invokestatic index, 3)) (hcs : cells + 0 ≤ R.cells ∧ slots + 0 ≤ R.slots)
    (kk : ∀ (H1 : Heap) (locs1 : List Loc), va_P D vwCl (wf q.2) H1 → va_S A s.heap H1 locs1 → W p l e R s m args below meth c H1 locs1 cells slots Q (F0 m (pc + 3) ls (.int q.1 :: rest))) : W p l e R s m args below meth c H locs cells slots Q (F0 m pc ls st0) := by
  refine va_calli (va_runS (As := As) (rest := rest) F hM cw ⟨pW_blind hg, fun U hU hW => ⟨rfl, pW_at hg hK hT hP hS hU hW.alike⟩⟩ rfl hn hsz hst (lv_room hW) hdg hcs) hS (fun q _ h => h) (fun q h => h) (fun r u t H1 locs1 ht hvm hw hB hz1 hk1 hS1 => ?_)
  obtain ⟨rfl, rfl⟩ := hw
  exact kk H1 locs1 (by rw [← ht]; exact hB.1) hS1
end RC
/-- a world whose addresses are a 0, a 1 .. , all different -/
theorem dW {a : Nat → Nat} {n : Nat} {ws : va_W} (h : ws.map (fun q => q.1) = (List.range n).map a) (ha : ∀ i j, i < n → j < n → a i = a j → i = j) : va_D (fun q => ∃ k, k < n ∧ q = a k) ws := by
  have key : ∀ (k : Nat) (q : Nat × va_E), ws[k]? = some q → k < n ∧ q.1 = a k := by
    intro k q hk
    have h1 : (ws.map (fun q => q.1))[k]? = some q.1 := by rw [List.getElem?_map, hk]; rfl
    rw [h, List.getElem?_map] at h1
    by_cases hl : k < n
    · rw [List.getElem?_range hl] at h1
      exact ⟨hl, (Option.some.inj h1).symm⟩
    · rw [List.getElem?_eq_none (by rw [List.length_range]; omega)] at h1
      cases h1
  refine ⟨fun i j x y hi hj hxy => ?_, fun k q hk => ?_⟩
  · obtain ⟨l1, e1⟩ := key i x hi
    obtain ⟨l2, e2⟩ := key j y hj
    exact ha i j l1 l2 (by rw [← e1, ← e2]; exact hxy)
  · obtain ⟨l1, e1⟩ := key k q hk
    exact ⟨k, l1, e1⟩
section RN
variable {p : Program} {l : Launch} {e : Env} {R : Room} {s : State} {m : MethodId} {args : Array Value} {below : List Frame} {meth : Method} {c : Code} {H : Heap} {locs : List Loc} {cells slots : Nat} {Q : State → Prop}
variable {cc : ByteArray} {pc : Nat} {ls : Array Slot} {rest : List Value} {D : va_G} {A : Nat → Prop} {tys : List (ClassId × FieldType)} {ws : va_W} {cl : List vw_C} {H0 : Heap}
/-- the class of int arrays is one -/
theorem cA_one {cA cB : ClassId} {ty : FieldType} (hty : ty = .int ∨ ty = .boolean) (h1 : va_RA s cA ty) (h2 : va_RA s cB ty) : cA = cB := by
  rcases hty with rfl | rfl
  · have e1 : s.vm.findClass ("[" ++ FieldType.int.toString) = some cA := h1
    have e2 : s.vm.findClass ("[" ++ FieldType.int.toString) = some cB := h2
    exact Option.some.inj (e1.symm.trans e2)
  · have e1 : s.vm.findClass ("[" ++ FieldType.boolean.toString) = some cA := h1
    have e2 : s.vm.findClass ("[" ++ FieldType.boolean.toString) = some cB := h2
    exact Option.some.inj (e1.symm.trans e2)
/-- a new array of ints, of the class cI that the tables know -/
theorem r_newi (hexec : p.tables.exec = Jvm.exec) (hb : c.code = cc) (harr : (Cond.arrayClass .int).before args s = true) (hK : va_K D cl tys s) (hP : va_P D cl ws H) (hD : va_D A ws) (hS : va_S A H0 H locs) (hA : ∀ q, H0.size ≤ q → A q) (t0 : Nat) {cI : ClassId} (ht : tys[t0]? = some (cI, .int))
    {n : Int32} {N' : Nat} (hn : ¬ n < 0) (hN : n.toNatClampNeg = N') (hbytes : N' * componentBytes .int ≤ 536870912) (hcells : cells + 1 ≤ R.cells) (hslots : slots + N' ≤ R.slots) (hdg : decode cc pc = .ok (.newarray .int, 2))
    (kk : ∀ (q : Nat) (H1 : Heap), va_P D cl (ws ++ [(q, .inl (cI, N', .inl (fun _ => 0)))]) H1 → va_D A (ws ++ [(q, .inl (cI, N', .inl (fun _ => 0)))]) → va_S A H0 H1 locs →
      W p l e R s m args below meth c H1 locs (cells + 1) (slots + N') Q (F0 m (pc + 2) ls (.ref q :: rest))) : W p l e R s m args below meth c H locs cells slots Q (F0 m pc ls (.int n :: rest)) := by
  refine va_newa (atype := .int) (N' := N') (a0 := (N', .inl (fun _ => 0))) (ty := .int) hexec hb harr rfl hK hP hD hS hA (fun _ => rfl) hn hN hbytes hcells hslots hdg (fun q cA H1 hK1 hP1 hD1 hS1 => ?_)
  have e1 := (hK1.2 tys.length (cA, .int) (by simp)).2
  have e2 := (hK.2 t0 _ ht).2
  obtain rfl := cA_one (Or.inl rfl) e1 e2
  exact kk q H1 hP1 hD1 hS1
theorem r_newz (hexec : p.tables.exec = Jvm.exec) (hb : c.code = cc) (harr : (Cond.arrayClass .boolean).before args s = true) (hK : va_K D cl tys s) (hP : va_P D cl ws H) (hD : va_D A ws) (hS : va_S A H0 H locs) (hA : ∀ q, H0.size ≤ q → A q) (t0 : Nat) {cZ : ClassId} (ht : tys[t0]? = some (cZ, .boolean))
    {n : Int32} {N' : Nat} (hn : ¬ n < 0) (hN : n.toNatClampNeg = N') (hbytes : N' * componentBytes .boolean ≤ 536870912) (hcells : cells + 1 ≤ R.cells) (hslots : slots + N' ≤ R.slots) (hdg : decode cc pc = .ok (.newarray .boolean, 2))
    (kk : ∀ (q : Nat) (H1 : Heap), va_P D cl (ws ++ [(q, .inl (cZ, N', .inl (fun _ => 0)))]) H1 → va_D A (ws ++ [(q, .inl (cZ, N', .inl (fun _ => 0)))]) → va_S A H0 H1 locs →
      W p l e R s m args below meth c H1 locs (cells + 1) (slots + N') Q (F0 m (pc + 2) ls (.ref q :: rest))) : W p l e R s m args below meth c H locs cells slots Q (F0 m pc ls (.int n :: rest)) := by
  refine va_newa (atype := .boolean) (N' := N') (a0 := (N', .inl (fun _ => 0))) (ty := .boolean) hexec hb harr rfl hK hP hD hS hA (fun _ => rfl) hn hN hbytes hcells hslots hdg (fun q cA H1 hK1 hP1 hD1 hS1 => ?_)
  have e1 := (hK1.2 tys.length (cA, .boolean) (by simp)).2
  have e2 := (hK.2 t0 _ ht).2
  obtain rfl := cA_one (Or.inr rfl) e1 e2
  exact kk q H1 hP1 hD1 hS1
end RN
end
section
/-- the cells: the objects, then their arrays -/
def wC (a : Nat → Nat) (cI cZ : ClassId) (σ : SS) : va_W := [(a 0, .inr (0, [.ref (a 1), .ref (a 2), .ref (a 3), .ref (a 4), .ref (a 5), .int (σ 24 0)])), (a 1, .inr (1, [.ref (a 6), .ref (a 7), .ref (a 8), .ref (a 9), .ref (a 10), .ref (a 11), .ref (a 12), .int (σ 25 0)])), (a 2, .inr (2, [.ref (a 1), .ref (a 13), .ref (a 14), .ref (a 15)])), (a 3, .inr (3, [.ref (a 1), .ref (a 2), .int (σ 26 0), .ref (a 16), .ref (a 17), .ref (a 18), .ref (a 19), .ref (a 20), .ref (a 21)])), (a 4, .inr (4, [.ref (a 1), .ref (a 2), .ref (a 3), .ref (a 22), .ref (a 23), .ref (a 24), .ref (a 25), .int (σ 27 0), .int (σ 28 0)])), (a 5, .inr (5, [.ref (a 26), .ref (a 27), .ref (a 28), .ref (a 29), .int (σ 29 0), .int (σ 30 0), .int (σ 31 0)])), (a 6, .inl (cI, 40, .inl (σ 0))), (a 7, .inl (cI, 40, .inl (σ 1))), (a 8, .inl (cI, 40, .inl (σ 2))), (a 9, .inl (cI, 40, .inl (σ 3))), (a 10, .inl (cI, 40, .inl (σ 4))), (a 11, .inl (cI, 40, .inl (σ 5))), (a 12, .inl (cI, 40, .inl (σ 6))), (a 13, .inl (cZ, 40, .inl (σ 7))), (a 14, .inl (cI, 40, .inl (σ 8))), (a 15, .inl (cI, 40, .inl (σ 9))), (a 16, .inl (cI, 40, .inl (σ 10))), (a 17, .inl (cI, 40, .inl (σ 11))), (a 18, .inl (cI, 40, .inl (σ 12))), (a 19, .inl (cI, 40, .inl (σ 13))), (a 20, .inl (cI, 40, .inl (σ 14))), (a 21, .inl (cZ, 40, .inl (σ 15))), (a 22, .inl (cI, 201, .inl (σ 16))), (a 23, .inl (cI, 201, .inl (σ 17))), (a 24, .inl (cI, 40, .inl (σ 18))), (a 25, .inl (cI, 40, .inl (σ 19))), (a 26, .inl (cI, 10, .inl (σ 20))), (a 27, .inl (cI, 16, .inl (σ 21))), (a 28, .inl (cI, 40, .inl (σ 22))), (a 29, .inl (cI, 8, .inl (σ 23)))]
def aC (a : Nat → Nat) : Nat → Prop := fun q => ∃ k, k < 30 ∧ q = a k
def aCC (a : Nat → Nat) : Prop := ∀ i j, i < 30 → j < 30 → a i = a j → i = j
theorem wC_at (a : Nat → Nat) (cI cZ : ClassId) (σ : SS) : (wC a cI cZ σ).map (fun q => q.1) = (List.range 30).map a := rfl
theorem dC {a : Nat → Nat} {cI cZ : ClassId} (ha : aCC a) (σ : SS) : va_D (aC a) (wC a cI cZ σ) := dW (wC_at a cI cZ σ) ha
def tbC0 : Nat → Int32 := fun j => ([1, 1, 1, 1, 1, 1, 1, 0, 0, 0, 0, 0] : List Int32).getD j 0
def tbC1 : Nat → Int32 := fun j => ([3, 1, 1, 1, 1, 1, 1, 1, 1, 2, 1, 0] : List Int32).getD j 0
def tbC2 : Nat → Int32 := fun j => ([0, 0, 1, 1, 1, 1, 0, 1, 0, 0, 2, 0] : List Int32).getD j 0
def tbC3 : Nat → Int32 := fun j => ([0, -1, 5, 6, 7, 8, 9, 10, 11, 12, 13, 14] : List Int32).getD j 0
def stC (t : Nat → Nat) (A : Nat → Prop) (U : State) (H : Heap) : Prop := va_Z "StackCoder$RegisterCode" "D_KINDS" "[I" (.ref (t 0)) A U H ∧ va_T .int (t 0) 12 (fun j => .int (tbC0 j)) A U H ∧ va_Z "StackCoder$RegisterCode" "A_KINDS" "[I" (.ref (t 1)) A U H ∧ va_T .int (t 1) 12 (fun j => .int (tbC1 j)) A U H ∧ va_Z "StackCoder$RegisterCode" "B_KINDS" "[I" (.ref (t 2)) A U H ∧ va_T .int (t 2) 12 (fun j => .int (tbC2 j)) A U H ∧ va_Z "StackCoder$StackCode" "OWN" "[I" (.ref (t 3)) A U H ∧ va_T .int (t 3) 12 (fun j => .int (tbC3 j)) A U H
theorem stC_g (t : Nat → Nat) : stG (stC t) := by
  refine ⟨fun A u U H hv h => ?_, fun A U H H1 hk h => ?_⟩
  · obtain ⟨h0, h1, h2, h3, h4, h5, h6, h7⟩ := h
    exact ⟨h0.moved hv, h1.moved hv, h2.moved hv, h3.moved hv, h4.moved hv, h5.moved hv, h6.moved hv, h7.moved hv⟩
  · obtain ⟨h0, h1, h2, h3, h4, h5, h6, h7⟩ := h
    exact ⟨h0.kept hk, h1.kept hk, h2.kept hk, h3.kept hk, h4.kept hk, h5.kept hk, h6.kept hk, h7.kept hk⟩
/-- the cells: the objects, then their arrays -/
def wM (a : Nat → Nat) (cI cZ : ClassId) (σ : SS) : va_W := [(a 0, .inr (6, [.int (σ 20 0), .int (σ 21 0), .ref (a 1), .ref (a 2), .ref (a 3), .ref (a 4), .int (σ 22 0), .ref (a 5), .ref (a 6), .ref (a 7), .ref (a 8), .ref (a 9), .ref (a 10), .ref (a 11), .ref (a 12), .int (σ 23 0), .ref (a 13), .ref (a 14), .ref (a 15), .ref (a 16), .int (σ 24 0), .ref (a 17), .int (σ 25 0), .ref (a 18), .ref (a 19), .ref (a 20)])), (a 1, .inl (cI, 40, .inl (σ 0))), (a 2, .inl (cI, 40, .inl (σ 1))), (a 3, .inl (cI, 40, .inl (σ 2))), (a 4, .inl (cI, 40, .inl (σ 3))), (a 5, .inl (cZ, 42, .inl (σ 4))), (a 6, .inl (cI, 42, .inl (σ 5))), (a 7, .inl (cI, 40, .inl (σ 6))), (a 8, .inl (cI, 40, .inl (σ 7))), (a 9, .inl (cI, 40, .inl (σ 8))), (a 10, .inl (cI, 40, .inl (σ 9))), (a 11, .inl (cI, 40, .inl (σ 10))), (a 12, .inl (cZ, 40, .inl (σ 11))), (a 13, .inl (cI, 600, .inl (σ 12))), (a 14, .inl (cI, 600, .inl (σ 13))), (a 15, .inl (cI, 41, .inl (σ 14))), (a 16, .inl (cI, 200, .inl (σ 15))), (a 17, .inl (cI, 40, .inl (σ 16))), (a 18, .inl (cI, 16, .inl (σ 17))), (a 19, .inl (cI, 10, .inl (σ 18))), (a 20, .inl (cI, 200, .inl (σ 19)))]
def aM (a : Nat → Nat) : Nat → Prop := fun q => ∃ k, k < 21 ∧ q = a k
def aMC (a : Nat → Nat) : Prop := ∀ i j, i < 21 → j < 21 → a i = a j → i = j
theorem wM_at (a : Nat → Nat) (cI cZ : ClassId) (σ : SS) : (wM a cI cZ σ).map (fun q => q.1) = (List.range 21).map a := rfl
theorem dM {a : Nat → Nat} {cI cZ : ClassId} (ha : aMC a) (σ : SS) : va_D (aM a) (wM a cI cZ σ) := dW (wM_at a cI cZ σ) ha
def stM (t : Nat → Nat) (A : Nat → Prop) (U : State) (H : Heap) : Prop := True
theorem stM_g (t : Nat → Nat) : stG (stM t) := by
  exact ⟨fun _ _ _ _ _ _ => trivial, fun _ _ _ _ _ _ => trivial⟩
end
