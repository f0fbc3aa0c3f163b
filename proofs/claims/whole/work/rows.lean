section
-- ===== PART A: goes FIRST, ahead of the names: the tables' words, and 'selects' of the private methods out of them =====
/-- a private method of a class that the tables say can be made, by its rows of tables_1 -/
def lw_okq (q : MethodName × Nat) : Prop := (q.1.cls ≠ "java/lang/invoke/MethodHandle" ∧ q.1.cls ≠ "java/lang/invoke/VarHandle") ∧ Cond.instantiable q.1.cls q.2 ∈ tables_1 ∧ Cond.privateMethod q.1 ∈ tables_1 ∧ Cond.instanceMethod q.1 ∈ tables_1
theorem lw_p0 : lw_okq (⟨"HayFootStraw", "layScript", "()Z"⟩, 10) := ⟨⟨by decide +kernel, by decide +kernel⟩, List.mem_of_getElem? (i := 15) (by decide +kernel), List.mem_of_getElem? (i := 190) (by decide +kernel), List.mem_of_getElem? (i := 191) (by decide +kernel)⟩
theorem lw_p1 : lw_okq (⟨"HayFootStraw$Script", "readItem", "(ILHayFootStraw$Squad;)I"⟩, 3) := ⟨⟨by decide +kernel, by decide +kernel⟩, List.mem_of_getElem? (i := 23) (by decide +kernel), List.mem_of_getElem? (i := 202) (by decide +kernel), List.mem_of_getElem? (i := 203) (by decide +kernel)⟩
theorem lw_p2 : lw_okq (⟨"HayFootStraw$Script", "readNumber", "(II)I"⟩, 3) := ⟨⟨by decide +kernel, by decide +kernel⟩, List.mem_of_getElem? (i := 23) (by decide +kernel), List.mem_of_getElem? (i := 209) (by decide +kernel), List.mem_of_getElem? (i := 210) (by decide +kernel)⟩
theorem lw_p3 : lw_okq (⟨"HayFootStraw$Script", "isFigure", "(I)Z"⟩, 3) := ⟨⟨by decide +kernel, by decide +kernel⟩, List.mem_of_getElem? (i := 23) (by decide +kernel), List.mem_of_getElem? (i := 213) (by decide +kernel), List.mem_of_getElem? (i := 214) (by decide +kernel)⟩
theorem lw_p4 : lw_okq (⟨"HayFootStraw$Squad", "takeMan", "(IIII)Z"⟩, 7) := ⟨⟨by decide +kernel, by decide +kernel⟩, List.mem_of_getElem? (i := 42) (by decide +kernel), List.mem_of_getElem? (i := 221) (by decide +kernel), List.mem_of_getElem? (i := 222) (by decide +kernel)⟩
theorem lw_p5 : lw_okq (⟨"HayFootStraw", "isMan", "(I)Z"⟩, 10) := ⟨⟨by decide +kernel, by decide +kernel⟩, List.mem_of_getElem? (i := 15) (by decide +kernel), List.mem_of_getElem? (i := 292) (by decide +kernel), List.mem_of_getElem? (i := 293) (by decide +kernel)⟩
theorem lw_p6 : lw_okq (⟨"HayFootStraw", "dueFacing", "(LHayFootStraw$Standing;I)I"⟩, 10) := ⟨⟨by decide +kernel, by decide +kernel⟩, List.mem_of_getElem? (i := 15) (by decide +kernel), List.mem_of_getElem? (i := 296) (by decide +kernel), List.mem_of_getElem? (i := 297) (by decide +kernel)⟩
theorem lw_p7 : lw_okq (⟨"HayFootStraw$Pile", "loseOldest", "()V"⟩, 2) := ⟨⟨by decide +kernel, by decide +kernel⟩, List.mem_of_getElem? (i := 117) (by decide +kernel), List.mem_of_getElem? (i := 311) (by decide +kernel), List.mem_of_getElem? (i := 312) (by decide +kernel)⟩
theorem lw_p8 : lw_okq (⟨"HayFootStraw", "findLeaders", "()V"⟩, 10) := ⟨⟨by decide +kernel, by decide +kernel⟩, List.mem_of_getElem? (i := 15) (by decide +kernel), List.mem_of_getElem? (i := 319) (by decide +kernel), List.mem_of_getElem? (i := 320) (by decide +kernel)⟩
theorem lw_p9 : lw_okq (⟨"HayFootStraw", "chainEnd", "(II)I"⟩, 10) := ⟨⟨by decide +kernel, by decide +kernel⟩, List.mem_of_getElem? (i := 15) (by decide +kernel), List.mem_of_getElem? (i := 323) (by decide +kernel), List.mem_of_getElem? (i := 324) (by decide +kernel)⟩
theorem lw_p10 : lw_okq (⟨"HayFootStraw", "say", "(LHayFootStraw$Standing;I)V"⟩, 10) := ⟨⟨by decide +kernel, by decide +kernel⟩, List.mem_of_getElem? (i := 15) (by decide +kernel), List.mem_of_getElem? (i := 327) (by decide +kernel), List.mem_of_getElem? (i := 328) (by decide +kernel)⟩
theorem lw_p11 : lw_okq (⟨"HayFootStraw", "errsByDraw", "(II)Z"⟩, 10) := ⟨⟨by decide +kernel, by decide +kernel⟩, List.mem_of_getElem? (i := 15) (by decide +kernel), List.mem_of_getElem? (i := 333) (by decide +kernel), List.mem_of_getElem? (i := 334) (by decide +kernel)⟩
theorem lw_p12 : lw_okq (⟨"HayFootStraw", "mannerOf", "(IZ)I"⟩, 10) := ⟨⟨by decide +kernel, by decide +kernel⟩, List.mem_of_getElem? (i := 15) (by decide +kernel), List.mem_of_getElem? (i := 345) (by decide +kernel), List.mem_of_getElem? (i := 346) (by decide +kernel)⟩
theorem lw_p13 : lw_okq (⟨"HayFootStraw", "isChancy", "(I)Z"⟩, 10) := ⟨⟨by decide +kernel, by decide +kernel⟩, List.mem_of_getElem? (i := 15) (by decide +kernel), List.mem_of_getElem? (i := 349) (by decide +kernel), List.mem_of_getElem? (i := 350) (by decide +kernel)⟩
theorem lw_p14 : lw_okq (⟨"HayFootStraw", "wrongMen", "(LHayFootStraw$Standing;)I"⟩, 10) := ⟨⟨by decide +kernel, by decide +kernel⟩, List.mem_of_getElem? (i := 15) (by decide +kernel), List.mem_of_getElem? (i := 356) (by decide +kernel), List.mem_of_getElem? (i := 357) (by decide +kernel)⟩
theorem lw_p15 : lw_okq (⟨"HayFootStraw", "heeds", "(II)Z"⟩, 10) := ⟨⟨by decide +kernel, by decide +kernel⟩, List.mem_of_getElem? (i := 15) (by decide +kernel), List.mem_of_getElem? (i := 370) (by decide +kernel), List.mem_of_getElem? (i := 371) (by decide +kernel)⟩
def lw_privs_1 : List (MethodName × Nat) := [(⟨"HayFootStraw", "layScript", "()Z"⟩, 10), (⟨"HayFootStraw$Script", "readItem", "(ILHayFootStraw$Squad;)I"⟩, 3), (⟨"HayFootStraw$Script", "readNumber", "(II)I"⟩, 3), (⟨"HayFootStraw$Script", "isFigure", "(I)Z"⟩, 3), (⟨"HayFootStraw$Squad", "takeMan", "(IIII)Z"⟩, 7), (⟨"HayFootStraw", "isMan", "(I)Z"⟩, 10), (⟨"HayFootStraw", "dueFacing", "(LHayFootStraw$Standing;I)I"⟩, 10), (⟨"HayFootStraw$Pile", "loseOldest", "()V"⟩, 2), (⟨"HayFootStraw", "findLeaders", "()V"⟩, 10), (⟨"HayFootStraw", "chainEnd", "(II)I"⟩, 10), (⟨"HayFootStraw", "say", "(LHayFootStraw$Standing;I)V"⟩, 10), (⟨"HayFootStraw", "errsByDraw", "(II)Z"⟩, 10), (⟨"HayFootStraw", "mannerOf", "(IZ)I"⟩, 10), (⟨"HayFootStraw", "isChancy", "(I)Z"⟩, 10), (⟨"HayFootStraw", "wrongMen", "(LHayFootStraw$Standing;)I"⟩, 10), (⟨"HayFootStraw", "heeds", "(II)Z"⟩, 10)]
theorem lw_r1 : ∀ q ∈ lw_privs_1, lw_okq q := List.forall_mem_cons.mpr ⟨lw_p0, List.forall_mem_cons.mpr ⟨lw_p1, List.forall_mem_cons.mpr ⟨lw_p2, List.forall_mem_cons.mpr ⟨lw_p3, List.forall_mem_cons.mpr ⟨lw_p4, List.forall_mem_cons.mpr ⟨lw_p5, List.forall_mem_cons.mpr ⟨lw_p6, List.forall_mem_cons.mpr ⟨lw_p7, List.forall_mem_cons.mpr ⟨lw_p8, List.forall_mem_cons.mpr ⟨lw_p9, List.forall_mem_cons.mpr ⟨lw_p10, List.forall_mem_cons.mpr ⟨lw_p11, List.forall_mem_cons.mpr ⟨lw_p12, List.forall_mem_cons.mpr ⟨lw_p13, List.forall_mem_cons.mpr ⟨lw_p14, List.forall_mem_cons.mpr ⟨lw_p15, fun _ h => absurd h List.not_mem_nil⟩⟩⟩⟩⟩⟩⟩⟩⟩⟩⟩⟩⟩⟩⟩⟩
theorem lw_p16 : lw_okq (⟨"HayFootStraw", "menFacing", "(I)I"⟩, 10) := ⟨⟨by decide +kernel, by decide +kernel⟩, List.mem_of_getElem? (i := 15) (by decide +kernel), List.mem_of_getElem? (i := 409) (by decide +kernel), List.mem_of_getElem? (i := 410) (by decide +kernel)⟩
theorem lw_p17 : lw_okq (⟨"HayFootStraw", "findManners", "()V"⟩, 10) := ⟨⟨by decide +kernel, by decide +kernel⟩, List.mem_of_getElem? (i := 15) (by decide +kernel), List.mem_of_getElem? (i := 422) (by decide +kernel), List.mem_of_getElem? (i := 423) (by decide +kernel)⟩
theorem lw_p18 : lw_okq (⟨"HayFootStraw", "firstRowAlike", "(I)I"⟩, 10) := ⟨⟨by decide +kernel, by decide +kernel⟩, List.mem_of_getElem? (i := 15) (by decide +kernel), List.mem_of_getElem? (i := 426) (by decide +kernel), List.mem_of_getElem? (i := 427) (by decide +kernel)⟩
theorem lw_p19 : lw_okq (⟨"HayFootStraw", "isRowAlike", "(II)Z"⟩, 10) := ⟨⟨by decide +kernel, by decide +kernel⟩, List.mem_of_getElem? (i := 15) (by decide +kernel), List.mem_of_getElem? (i := 432) (by decide +kernel), List.mem_of_getElem? (i := 433) (by decide +kernel)⟩
theorem lw_p20 : lw_okq (⟨"HayFootStraw", "addUpRow", "(II)V"⟩, 10) := ⟨⟨by decide +kernel, by decide +kernel⟩, List.mem_of_getElem? (i := 15) (by decide +kernel), List.mem_of_getElem? (i := 436) (by decide +kernel), List.mem_of_getElem? (i := 437) (by decide +kernel)⟩
theorem lw_p21 : lw_okq (⟨"HayFootStraw", "facingForeseen", "(II)I"⟩, 10) := ⟨⟨by decide +kernel, by decide +kernel⟩, List.mem_of_getElem? (i := 15) (by decide +kernel), List.mem_of_getElem? (i := 447) (by decide +kernel), List.mem_of_getElem? (i := 448) (by decide +kernel)⟩
theorem lw_p22 : lw_okq (⟨"HayFootStraw", "facingBy", "(III)I"⟩, 10) := ⟨⟨by decide +kernel, by decide +kernel⟩, List.mem_of_getElem? (i := 15) (by decide +kernel), List.mem_of_getElem? (i := 451) (by decide +kernel), List.mem_of_getElem? (i := 452) (by decide +kernel)⟩
theorem lw_p23 : lw_okq (⟨"HayFootStraw", "waysAllFace", "(II)I"⟩, 10) := ⟨⟨by decide +kernel, by decide +kernel⟩, List.mem_of_getElem? (i := 15) (by decide +kernel), List.mem_of_getElem? (i := 459) (by decide +kernel), List.mem_of_getElem? (i := 460) (by decide +kernel)⟩
theorem lw_p24 : lw_okq (⟨"HayFootStraw", "waysLedFace", "(III)I"⟩, 10) := ⟨⟨by decide +kernel, by decide +kernel⟩, List.mem_of_getElem? (i := 15) (by decide +kernel), List.mem_of_getElem? (i := 463) (by decide +kernel), List.mem_of_getElem? (i := 464) (by decide +kernel)⟩
theorem lw_p25 : lw_okq (⟨"HayFootStraw", "wouldLedFace", "(IIII)Z"⟩, 10) := ⟨⟨by decide +kernel, by decide +kernel⟩, List.mem_of_getElem? (i := 15) (by decide +kernel), List.mem_of_getElem? (i := 467) (by decide +kernel), List.mem_of_getElem? (i := 468) (by decide +kernel)⟩
theorem lw_p26 : lw_okq (⟨"HayFootStraw", "waysOfManner", "(II)I"⟩, 10) := ⟨⟨by decide +kernel, by decide +kernel⟩, List.mem_of_getElem? (i := 15) (by decide +kernel), List.mem_of_getElem? (i := 471) (by decide +kernel), List.mem_of_getElem? (i := 472) (by decide +kernel)⟩
theorem lw_p27 : lw_okq (⟨"HayFootStraw", "waysToTurn", "(I)I"⟩, 10) := ⟨⟨by decide +kernel, by decide +kernel⟩, List.mem_of_getElem? (i := 15) (by decide +kernel), List.mem_of_getElem? (i := 475) (by decide +kernel), List.mem_of_getElem? (i := 476) (by decide +kernel)⟩
theorem lw_p28 : lw_okq (⟨"HayFootStraw", "isAlike", "(LHayFootStraw$Standing;)Z"⟩, 10) := ⟨⟨by decide +kernel, by decide +kernel⟩, List.mem_of_getElem? (i := 15) (by decide +kernel), List.mem_of_getElem? (i := 506) (by decide +kernel), List.mem_of_getElem? (i := 507) (by decide +kernel)⟩
theorem lw_p29 : lw_okq (⟨"HayFootStrawModel", "begins", "()V"⟩, 14) := ⟨⟨by decide +kernel, by decide +kernel⟩, List.mem_of_getElem? (i := 522) (by decide +kernel), List.mem_of_getElem? (i := 528) (by decide +kernel), List.mem_of_getElem? (i := 529) (by decide +kernel)⟩
theorem lw_p30 : lw_okq (⟨"HayFootStrawModel", "adds", "(IIII)V"⟩, 14) := ⟨⟨by decide +kernel, by decide +kernel⟩, List.mem_of_getElem? (i := 522) (by decide +kernel), List.mem_of_getElem? (i := 532) (by decide +kernel), List.mem_of_getElem? (i := 533) (by decide +kernel)⟩
theorem lw_p31 : lw_okq (⟨"HayFootStrawModel", "lays", "()V"⟩, 14) := ⟨⟨by decide +kernel, by decide +kernel⟩, List.mem_of_getElem? (i := 522) (by decide +kernel), List.mem_of_getElem? (i := 536) (by decide +kernel), List.mem_of_getElem? (i := 537) (by decide +kernel)⟩
def lw_privs_2 : List (MethodName × Nat) := [(⟨"HayFootStraw", "menFacing", "(I)I"⟩, 10), (⟨"HayFootStraw", "findManners", "()V"⟩, 10), (⟨"HayFootStraw", "firstRowAlike", "(I)I"⟩, 10), (⟨"HayFootStraw", "isRowAlike", "(II)Z"⟩, 10), (⟨"HayFootStraw", "addUpRow", "(II)V"⟩, 10), (⟨"HayFootStraw", "facingForeseen", "(II)I"⟩, 10), (⟨"HayFootStraw", "facingBy", "(III)I"⟩, 10), (⟨"HayFootStraw", "waysAllFace", "(II)I"⟩, 10), (⟨"HayFootStraw", "waysLedFace", "(III)I"⟩, 10), (⟨"HayFootStraw", "wouldLedFace", "(IIII)Z"⟩, 10), (⟨"HayFootStraw", "waysOfManner", "(II)I"⟩, 10), (⟨"HayFootStraw", "waysToTurn", "(I)I"⟩, 10), (⟨"HayFootStraw", "isAlike", "(LHayFootStraw$Standing;)Z"⟩, 10), (⟨"HayFootStrawModel", "begins", "()V"⟩, 14), (⟨"HayFootStrawModel", "adds", "(IIII)V"⟩, 14), (⟨"HayFootStrawModel", "lays", "()V"⟩, 14)]
theorem lw_r2 : ∀ q ∈ lw_privs_2, lw_okq q := List.forall_mem_cons.mpr ⟨lw_p16, List.forall_mem_cons.mpr ⟨lw_p17, List.forall_mem_cons.mpr ⟨lw_p18, List.forall_mem_cons.mpr ⟨lw_p19, List.forall_mem_cons.mpr ⟨lw_p20, List.forall_mem_cons.mpr ⟨lw_p21, List.forall_mem_cons.mpr ⟨lw_p22, List.forall_mem_cons.mpr ⟨lw_p23, List.forall_mem_cons.mpr ⟨lw_p24, List.forall_mem_cons.mpr ⟨lw_p25, List.forall_mem_cons.mpr ⟨lw_p26, List.forall_mem_cons.mpr ⟨lw_p27, List.forall_mem_cons.mpr ⟨lw_p28, List.forall_mem_cons.mpr ⟨lw_p29, List.forall_mem_cons.mpr ⟨lw_p30, List.forall_mem_cons.mpr ⟨lw_p31, fun _ h => absurd h List.not_mem_nil⟩⟩⟩⟩⟩⟩⟩⟩⟩⟩⟩⟩⟩⟩⟩⟩
theorem lw_p32 : lw_okq (⟨"HayFootStrawModel", "reads", "()I"⟩, 14) := ⟨⟨by decide +kernel, by decide +kernel⟩, List.mem_of_getElem? (i := 522) (by decide +kernel), List.mem_of_getElem? (i := 598) (by decide +kernel), List.mem_of_getElem? (i := 599) (by decide +kernel)⟩
theorem lw_p33 : lw_okq (⟨"HayFootStrawModel", "readsMan", "()Z"⟩, 14) := ⟨⟨by decide +kernel, by decide +kernel⟩, List.mem_of_getElem? (i := 522) (by decide +kernel), List.mem_of_getElem? (i := 602) (by decide +kernel), List.mem_of_getElem? (i := 603) (by decide +kernel)⟩
theorem lw_p34 : lw_okq (⟨"HayFootStrawModel", "number", "()I"⟩, 14) := ⟨⟨by decide +kernel, by decide +kernel⟩, List.mem_of_getElem? (i := 522) (by decide +kernel), List.mem_of_getElem? (i := 606) (by decide +kernel), List.mem_of_getElem? (i := 607) (by decide +kernel)⟩
theorem lw_p35 : lw_okq (⟨"HayFootStrawModel", "letterAt", "(I)I"⟩, 14) := ⟨⟨by decide +kernel, by decide +kernel⟩, List.mem_of_getElem? (i := 522) (by decide +kernel), List.mem_of_getElem? (i := 610) (by decide +kernel), List.mem_of_getElem? (i := 611) (by decide +kernel)⟩
theorem lw_p36 : lw_okq (⟨"HayFootStrawModel", "sign", "(I)Z"⟩, 14) := ⟨⟨by decide +kernel, by decide +kernel⟩, List.mem_of_getElem? (i := 522) (by decide +kernel), List.mem_of_getElem? (i := 617) (by decide +kernel), List.mem_of_getElem? (i := 618) (by decide +kernel)⟩
theorem lw_p37 : lw_okq (⟨"HayFootStrawModel", "readsOne", "(II)Z"⟩, 14) := ⟨⟨by decide +kernel, by decide +kernel⟩, List.mem_of_getElem? (i := 522) (by decide +kernel), List.mem_of_getElem? (i := 621) (by decide +kernel), List.mem_of_getElem? (i := 622) (by decide +kernel)⟩
theorem lw_p38 : lw_okq (⟨"HayFootStrawModel", "isMan", "(I)Z"⟩, 14) := ⟨⟨by decide +kernel, by decide +kernel⟩, List.mem_of_getElem? (i := 522) (by decide +kernel), List.mem_of_getElem? (i := 633) (by decide +kernel), List.mem_of_getElem? (i := 634) (by decide +kernel)⟩
theorem lw_p39 : lw_okq (⟨"HayFootStrawModel", "dueOf", "(I)I"⟩, 14) := ⟨⟨by decide +kernel, by decide +kernel⟩, List.mem_of_getElem? (i := 522) (by decide +kernel), List.mem_of_getElem? (i := 637) (by decide +kernel), List.mem_of_getElem? (i := 638) (by decide +kernel)⟩
theorem lw_p40 : lw_okq (⟨"HayFootStrawModel", "keeps", "()V"⟩, 14) := ⟨⟨by decide +kernel, by decide +kernel⟩, List.mem_of_getElem? (i := 522) (by decide +kernel), List.mem_of_getElem? (i := 648) (by decide +kernel), List.mem_of_getElem? (i := 649) (by decide +kernel)⟩
theorem lw_p41 : lw_okq (⟨"HayFootStrawModel", "errors", "(Z)I"⟩, 14) := ⟨⟨by decide +kernel, by decide +kernel⟩, List.mem_of_getElem? (i := 522) (by decide +kernel), List.mem_of_getElem? (i := 652) (by decide +kernel), List.mem_of_getElem? (i := 653) (by decide +kernel)⟩
theorem lw_p42 : lw_okq (⟨"HayFootStrawModel", "says", "(II)V"⟩, 14) := ⟨⟨by decide +kernel, by decide +kernel⟩, List.mem_of_getElem? (i := 522) (by decide +kernel), List.mem_of_getElem? (i := 663) (by decide +kernel), List.mem_of_getElem? (i := 664) (by decide +kernel)⟩
theorem lw_p43 : lw_okq (⟨"HayFootStrawModel", "turnBy", "(III)I"⟩, 14) := ⟨⟨by decide +kernel, by decide +kernel⟩, List.mem_of_getElem? (i := 522) (by decide +kernel), List.mem_of_getElem? (i := 667) (by decide +kernel), List.mem_of_getElem? (i := 668) (by decide +kernel)⟩
theorem lw_p44 : lw_okq (⟨"HayFootStrawModel", "turnsAs", "(I)I"⟩, 14) := ⟨⟨by decide +kernel, by decide +kernel⟩, List.mem_of_getElem? (i := 522) (by decide +kernel), List.mem_of_getElem? (i := 671) (by decide +kernel), List.mem_of_getElem? (i := 672) (by decide +kernel)⟩
theorem lw_p45 : lw_okq (⟨"HayFootStrawModel", "leader", "(I)I"⟩, 14) := ⟨⟨by decide +kernel, by decide +kernel⟩, List.mem_of_getElem? (i := 522) (by decide +kernel), List.mem_of_getElem? (i := 675) (by decide +kernel), List.mem_of_getElem? (i := 676) (by decide +kernel)⟩
theorem lw_p46 : lw_okq (⟨"HayFootStrawModel", "isLooking", "(I)Z"⟩, 14) := ⟨⟨by decide +kernel, by decide +kernel⟩, List.mem_of_getElem? (i := 522) (by decide +kernel), List.mem_of_getElem? (i := 679) (by decide +kernel), List.mem_of_getElem? (i := 680) (by decide +kernel)⟩
theorem lw_p47 : lw_okq (⟨"HayFootStrawModel", "mayErr", "(I)Z"⟩, 14) := ⟨⟨by decide +kernel, by decide +kernel⟩, List.mem_of_getElem? (i := 522) (by decide +kernel), List.mem_of_getElem? (i := 686) (by decide +kernel), List.mem_of_getElem? (i := 687) (by decide +kernel)⟩
def lw_privs_3 : List (MethodName × Nat) := [(⟨"HayFootStrawModel", "reads", "()I"⟩, 14), (⟨"HayFootStrawModel", "readsMan", "()Z"⟩, 14), (⟨"HayFootStrawModel", "number", "()I"⟩, 14), (⟨"HayFootStrawModel", "letterAt", "(I)I"⟩, 14), (⟨"HayFootStrawModel", "sign", "(I)Z"⟩, 14), (⟨"HayFootStrawModel", "readsOne", "(II)Z"⟩, 14), (⟨"HayFootStrawModel", "isMan", "(I)Z"⟩, 14), (⟨"HayFootStrawModel", "dueOf", "(I)I"⟩, 14), (⟨"HayFootStrawModel", "keeps", "()V"⟩, 14), (⟨"HayFootStrawModel", "errors", "(Z)I"⟩, 14), (⟨"HayFootStrawModel", "says", "(II)V"⟩, 14), (⟨"HayFootStrawModel", "turnBy", "(III)I"⟩, 14), (⟨"HayFootStrawModel", "turnsAs", "(I)I"⟩, 14), (⟨"HayFootStrawModel", "leader", "(I)I"⟩, 14), (⟨"HayFootStrawModel", "isLooking", "(I)Z"⟩, 14), (⟨"HayFootStrawModel", "mayErr", "(I)Z"⟩, 14)]
theorem lw_r3 : ∀ q ∈ lw_privs_3, lw_okq q := List.forall_mem_cons.mpr ⟨lw_p32, List.forall_mem_cons.mpr ⟨lw_p33, List.forall_mem_cons.mpr ⟨lw_p34, List.forall_mem_cons.mpr ⟨lw_p35, List.forall_mem_cons.mpr ⟨lw_p36, List.forall_mem_cons.mpr ⟨lw_p37, List.forall_mem_cons.mpr ⟨lw_p38, List.forall_mem_cons.mpr ⟨lw_p39, List.forall_mem_cons.mpr ⟨lw_p40, List.forall_mem_cons.mpr ⟨lw_p41, List.forall_mem_cons.mpr ⟨lw_p42, List.forall_mem_cons.mpr ⟨lw_p43, List.forall_mem_cons.mpr ⟨lw_p44, List.forall_mem_cons.mpr ⟨lw_p45, List.forall_mem_cons.mpr ⟨lw_p46, List.forall_mem_cons.mpr ⟨lw_p47, fun _ h => absurd h List.not_mem_nil⟩⟩⟩⟩⟩⟩⟩⟩⟩⟩⟩⟩⟩⟩⟩⟩
theorem lw_p48 : lw_okq (⟨"HayFootStrawModel", "wrong", "()I"⟩, 14) := ⟨⟨by decide +kernel, by decide +kernel⟩, List.mem_of_getElem? (i := 522) (by decide +kernel), List.mem_of_getElem? (i := 693) (by decide +kernel), List.mem_of_getElem? (i := 694) (by decide +kernel)⟩
theorem lw_p49 : lw_okq (⟨"HayFootStrawModel", "comesBy", "(II)Z"⟩, 14) := ⟨⟨by decide +kernel, by decide +kernel⟩, List.mem_of_getElem? (i := 522) (by decide +kernel), List.mem_of_getElem? (i := 704) (by decide +kernel), List.mem_of_getElem? (i := 705) (by decide +kernel)⟩
theorem lw_p50 : lw_okq (⟨"HayFootStrawModel", "rows", "(I)I"⟩, 14) := ⟨⟨by decide +kernel, by decide +kernel⟩, List.mem_of_getElem? (i := 522) (by decide +kernel), List.mem_of_getElem? (i := 744) (by decide +kernel), List.mem_of_getElem? (i := 745) (by decide +kernel)⟩
theorem lw_p51 : lw_okq (⟨"HayFootStrawModel", "holds", "()V"⟩, 14) := ⟨⟨by decide +kernel, by decide +kernel⟩, List.mem_of_getElem? (i := 522) (by decide +kernel), List.mem_of_getElem? (i := 748) (by decide +kernel), List.mem_of_getElem? (i := 749) (by decide +kernel)⟩
theorem lw_p52 : lw_okq (⟨"HayFootStrawModel", "isOneWay", "()Z"⟩, 14) := ⟨⟨by decide +kernel, by decide +kernel⟩, List.mem_of_getElem? (i := 522) (by decide +kernel), List.mem_of_getElem? (i := 752) (by decide +kernel), List.mem_of_getElem? (i := 753) (by decide +kernel)⟩
theorem lw_p53 : lw_okq (⟨"HayFootStrawModel", "lets", "()V"⟩, 14) := ⟨⟨by decide +kernel, by decide +kernel⟩, List.mem_of_getElem? (i := 522) (by decide +kernel), List.mem_of_getElem? (i := 756) (by decide +kernel), List.mem_of_getElem? (i := 757) (by decide +kernel)⟩
theorem lw_p54 : lw_okq (⟨"HayFootStrawModel", "doubtful", "()I"⟩, 14) := ⟨⟨by decide +kernel, by decide +kernel⟩, List.mem_of_getElem? (i := 522) (by decide +kernel), List.mem_of_getElem? (i := 768) (by decide +kernel), List.mem_of_getElem? (i := 769) (by decide +kernel)⟩
def lw_privs_4 : List (MethodName × Nat) := [(⟨"HayFootStrawModel", "wrong", "()I"⟩, 14), (⟨"HayFootStrawModel", "comesBy", "(II)Z"⟩, 14), (⟨"HayFootStrawModel", "rows", "(I)I"⟩, 14), (⟨"HayFootStrawModel", "holds", "()V"⟩, 14), (⟨"HayFootStrawModel", "isOneWay", "()Z"⟩, 14), (⟨"HayFootStrawModel", "lets", "()V"⟩, 14), (⟨"HayFootStrawModel", "doubtful", "()I"⟩, 14)]
theorem lw_r4 : ∀ q ∈ lw_privs_4, lw_okq q := List.forall_mem_cons.mpr ⟨lw_p48, List.forall_mem_cons.mpr ⟨lw_p49, List.forall_mem_cons.mpr ⟨lw_p50, List.forall_mem_cons.mpr ⟨lw_p51, List.forall_mem_cons.mpr ⟨lw_p52, List.forall_mem_cons.mpr ⟨lw_p53, List.forall_mem_cons.mpr ⟨lw_p54, fun _ h => absurd h List.not_mem_nil⟩⟩⟩⟩⟩⟩⟩
def lw_privs : List (MethodName × Nat) := lw_privs_1 ++ (lw_privs_2 ++ (lw_privs_3 ++ (lw_privs_4)))
def lw_tbl : List Cond := k2_sels lw_privs ++ tables_1
theorem lw_privs_ok : ∀ q ∈ lw_privs, lw_okq q := by
  show ∀ q ∈ lw_privs_1 ++ (lw_privs_2 ++ (lw_privs_3 ++ (lw_privs_4))), lw_okq q
  exact List.forall_mem_append.mpr ⟨lw_r1, List.forall_mem_append.mpr ⟨lw_r2, List.forall_mem_append.mpr ⟨lw_r3, lw_r4⟩⟩⟩
end
section
def RX0 : String := "HayFootStraw$Pile"
def TX0 : u_T := fun k => match k with
  | 0 => ("HayFootStraw$Pile", "places", "[LHayFootStraw$Standing;", true)
  | _ => ("HayFootStraw$Pile", "size", "I", false)
def tyX0 : Nat → FieldType := fun k => match k with
  | 0 => .array (.object "HayFootStraw$Standing")
  | _ => .int
theorem nmX0 : ∀ a, a < 2 → ∀ b, b < 2 → a ≠ b → (TX0 a).2.1 ≠ (TX0 b).2.1 := by decide +kernel
theorem tyX0_ok : ∀ k, k < 2 → parseFieldDescriptor (TX0 k).2.2.1 = some (tyX0 k) := by decide +kernel
abbrev cX0_init : ByteArray := prog_2_method_1_code
def yX0_init : MethodName := ⟨RX0, "<init>", "(I)V"⟩
abbrev cX0_put : ByteArray := prog_2_method_2_code
def yX0_put : MethodName := ⟨RX0, "put", "(LHayFootStraw$Standing;)V"⟩
abbrev cX0_loseOldest : ByteArray := prog_2_method_3_code
def yX0_loseOldest : MethodName := ⟨RX0, "loseOldest", "()V"⟩
abbrev cX0_takeTop : ByteArray := prog_2_method_4_code
def yX0_takeTop : MethodName := ⟨RX0, "takeTop", "(LHayFootStraw$Standing;)Z"⟩
def RX1 : String := "HayFootStraw$Script"
def TX1 : u_T := fun k => match k with
  | 0 => ("HayFootStraw$Script", "letters", "[C", true)
  | 1 => ("HayFootStraw$Script", "length", "I", false)
  | _ => ("HayFootStraw$Script", "told", "[I", true)
def tyX1 : Nat → FieldType := fun k => match k with
  | 0 => .array .char
  | 1 => .int
  | _ => .array .int
theorem nmX1 : ∀ a, a < 3 → ∀ b, b < 3 → a ≠ b → (TX1 a).2.1 ≠ (TX1 b).2.1 := by decide +kernel
theorem tyX1_ok : ∀ k, k < 3 → parseFieldDescriptor (TX1 k).2.2.1 = some (tyX1 k) := by decide +kernel
abbrev cX1_init : ByteArray := prog_3_method_1_code
def yX1_init : MethodName := ⟨RX1, "<init>", "()V"⟩
abbrev cX1_add : ByteArray := prog_3_method_2_code
def yX1_add : MethodName := ⟨RX1, "add", "(C)Z"⟩
abbrev cX1_clear : ByteArray := prog_3_method_3_code
def yX1_clear : MethodName := ⟨RX1, "clear", "()V"⟩
abbrev cX1_readInto : ByteArray := prog_3_method_4_code
def yX1_readInto : MethodName := ⟨RX1, "readInto", "(LHayFootStraw$Squad;)I"⟩
abbrev cX1_readItem : ByteArray := prog_3_method_5_code
def yX1_readItem : MethodName := ⟨RX1, "readItem", "(ILHayFootStraw$Squad;)I"⟩
abbrev cX1_numbersBehind : ByteArray := prog_3_method_6_code
def yX1_numbersBehind : MethodName := ⟨RX1, "numbersBehind", "(C)I"⟩
abbrev cX1_readNumber : ByteArray := prog_3_method_7_code
def yX1_readNumber : MethodName := ⟨RX1, "readNumber", "(II)I"⟩
abbrev cX1_isFigure : ByteArray := prog_3_method_8_code
def yX1_isFigure : MethodName := ⟨RX1, "isFigure", "(I)Z"⟩
def RX2 : String := "HayFootStraw$Squad"
def TX2 : u_T := fun k => match k with
  | 0 => ("HayFootStraw$Squad", "men", "I", false)
  | 1 => ("HayFootStraw$Squad", "seed", "I", false)
  | 2 => ("HayFootStraw$Squad", "shut", "I", false)
  | 3 => ("HayFootStraw$Squad", "kind", "[I", true)
  | 4 => ("HayFootStraw$Squad", "facing", "[I", true)
  | 5 => ("HayFootStraw$Squad", "looksAt", "[I", true)
  | _ => ("HayFootStraw$Squad", "erring", "[I", true)
def tyX2 : Nat → FieldType := fun k => match k with
  | 0 => .int
  | 1 => .int
  | 2 => .int
  | 3 => .array .int
  | 4 => .array .int
  | 5 => .array .int
  | _ => .array .int
theorem nmX2 : ∀ a, a < 7 → ∀ b, b < 7 → a ≠ b → (TX2 a).2.1 ≠ (TX2 b).2.1 := by decide +kernel
theorem tyX2_ok : ∀ k, k < 7 → parseFieldDescriptor (TX2 k).2.2.1 = some (tyX2 k) := by decide +kernel
abbrev cX2_init : ByteArray := prog_4_method_1_code
def yX2_init : MethodName := ⟨RX2, "<init>", "()V"⟩
abbrev cX2_clear : ByteArray := prog_4_method_2_code
def yX2_clear : MethodName := ⟨RX2, "clear", "()V"⟩
abbrev cX2_take : ByteArray := prog_4_method_3_code
def yX2_take : MethodName := ⟨RX2, "take", "(C[I)Z"⟩
abbrev cX2_takeMan : ByteArray := prog_4_method_4_code
def yX2_takeMan : MethodName := ⟨RX2, "takeMan", "(IIII)Z"⟩
abbrev cX2_canBeLaid : ByteArray := prog_4_method_5_code
def yX2_canBeLaid : MethodName := ⟨RX2, "canBeLaid", "()Z"⟩
def RX3 : String := "HayFootStraw$Standing"
def TX3 : u_T := fun k => match k with
  | 0 => ("HayFootStraw$Standing", "facing", "[I", true)
  | 1 => ("HayFootStraw$Standing", "looksAt", "[I", true)
  | 2 => ("HayFootStraw$Standing", "shut", "I", false)
  | 3 => ("HayFootStraw$Standing", "words", "I", false)
  | 4 => ("HayFootStraw$Standing", "turnAhead", "I", false)
  | 5 => ("HayFootStraw$Standing", "told", "I", false)
  | 6 => ("HayFootStraw$Standing", "erred", "I", false)
  | _ => ("HayFootStraw$Standing", "shouted", "I", false)
def tyX3 : Nat → FieldType := fun k => match k with
  | 0 => .array .int
  | 1 => .array .int
  | 2 => .int
  | 3 => .int
  | 4 => .int
  | 5 => .int
  | 6 => .int
  | _ => .int
theorem nmX3 : ∀ a, a < 8 → ∀ b, b < 8 → a ≠ b → (TX3 a).2.1 ≠ (TX3 b).2.1 := by decide +kernel
theorem tyX3_ok : ∀ k, k < 8 → parseFieldDescriptor (TX3 k).2.2.1 = some (tyX3 k) := by decide +kernel
abbrev cX3_init : ByteArray := prog_5_method_1_code
def yX3_init : MethodName := ⟨RX3, "<init>", "()V"⟩
abbrev cX3_begin : ByteArray := prog_5_method_2_code
def yX3_begin : MethodName := ⟨RX3, "begin", "(LHayFootStraw$Squad;)V"⟩
abbrev cX3_copy : ByteArray := prog_5_method_3_code
def yX3_copy : MethodName := ⟨RX3, "copy", "(LHayFootStraw$Standing;)V"⟩
def RX4 : String := "HayFootStraw"
def TX4 : u_T := fun k => match k with
  | 0 => ("HayFootStraw", "script", "LHayFootStraw$Script;", true)
  | 1 => ("HayFootStraw", "squad", "LHayFootStraw$Squad;", false)
  | 2 => ("HayFootStraw", "draft", "LHayFootStraw$Squad;", false)
  | 3 => ("HayFootStraw", "now", "LHayFootStraw$Standing;", true)
  | 4 => ("HayFootStraw", "trial", "LHayFootStraw$Standing;", true)
  | 5 => ("HayFootStraw", "undoable", "LHayFootStraw$Pile;", true)
  | 6 => ("HayFootStraw", "kept", "LHayFootStraw$Pile;", true)
  | 7 => ("HayFootStraw", "leader", "[I", true)
  | 8 => ("HayFootStraw", "manner", "[I", true)
  | _ => ("HayFootStraw", "rowTurn", "[I", true)
def tyX4 : Nat → FieldType := fun k => match k with
  | 0 => .object "HayFootStraw$Script"
  | 1 => .object "HayFootStraw$Squad"
  | 2 => .object "HayFootStraw$Squad"
  | 3 => .object "HayFootStraw$Standing"
  | 4 => .object "HayFootStraw$Standing"
  | 5 => .object "HayFootStraw$Pile"
  | 6 => .object "HayFootStraw$Pile"
  | 7 => .array .int
  | 8 => .array .int
  | _ => .array .int
theorem nmX4 : ∀ a, a < 10 → ∀ b, b < 10 → a ≠ b → (TX4 a).2.1 ≠ (TX4 b).2.1 := by decide +kernel
theorem tyX4_ok : ∀ k, k < 10 → parseFieldDescriptor (TX4 k).2.2.1 = some (tyX4 k) := by decide +kernel
abbrev cX4_init : ByteArray := prog_1_method_1_code
def yX4_init : MethodName := ⟨RX4, "<init>", "()V"⟩
abbrev cX4_write : ByteArray := prog_1_method_2_code
def yX4_write : MethodName := ⟨RX4, "write", "(I)I"⟩
abbrev cX4_wipe : ByteArray := prog_1_method_3_code
def yX4_wipe : MethodName := ⟨RX4, "wipe", "()I"⟩
abbrev cX4_fault : ByteArray := prog_1_method_4_code
def yX4_fault : MethodName := ⟨RX4, "fault", "()I"⟩
abbrev cX4_lay : ByteArray := prog_1_method_5_code
def yX4_lay : MethodName := ⟨RX4, "lay", "()I"⟩
abbrev cX4_man : ByteArray := prog_1_method_6_code
def yX4_man : MethodName := ⟨RX4, "man", "(II)I"⟩
abbrev cX4_word : ByteArray := prog_1_method_7_code
def yX4_word : MethodName := ⟨RX4, "word", "(I)I"⟩
abbrev cX4_shout : ByteArray := prog_1_method_8_code
def yX4_shout : MethodName := ⟨RX4, "shout", "(I)I"⟩
abbrev cX4_eyes : ByteArray := prog_1_method_9_code
def yX4_eyes : MethodName := ⟨RX4, "eyes", "(I)I"⟩
abbrev cX4_look : ByteArray := prog_1_method_10_code
def yX4_look : MethodName := ⟨RX4, "look", "(II)I"⟩
abbrev cX4_undo : ByteArray := prog_1_method_11_code
def yX4_undo : MethodName := ⟨RX4, "undo", "()I"⟩
abbrev cX4_who : ByteArray := prog_1_method_12_code
def yX4_who : MethodName := ⟨RX4, "who", "(I)I"⟩
abbrev cX4_follows : ByteArray := prog_1_method_13_code
def yX4_follows : MethodName := ⟨RX4, "follows", "(I)I"⟩
abbrev cX4_runs : ByteArray := prog_1_method_14_code
def yX4_runs : MethodName := ⟨RX4, "runs", "(I)I"⟩
abbrev cX4_most : ByteArray := prog_1_method_15_code
def yX4_most : MethodName := ⟨RX4, "most", "(I)I"⟩
abbrev cX4_groups : ByteArray := prog_1_method_16_code
def yX4_groups : MethodName := ⟨RX4, "groups", "(I)I"⟩
abbrev cX4_plan : ByteArray := prog_1_method_17_code
def yX4_plan : MethodName := ⟨RX4, "plan", "(I)I"⟩
abbrev cX4_turn : ByteArray := prog_1_method_18_code
def yX4_turn : MethodName := ⟨RX4, "turn", "(II)I"⟩
abbrev cX4_alike : ByteArray := prog_1_method_19_code
def yX4_alike : MethodName := ⟨RX4, "alike", "(II)I"⟩
abbrev cX4_right : ByteArray := prog_1_method_20_code
def yX4_right : MethodName := ⟨RX4, "right", "(III)I"⟩
abbrev cX4_which : ByteArray := prog_1_method_21_code
def yX4_which : MethodName := ⟨RX4, "which", "(II)I"⟩
abbrev cX4_safe : ByteArray := prog_1_method_22_code
def yX4_safe : MethodName := ⟨RX4, "safe", "(I)I"⟩
abbrev cX4_numbers : ByteArray := prog_1_method_23_code
def yX4_numbers : MethodName := ⟨RX4, "numbers", "(I)I"⟩
abbrev cX4_drill : ByteArray := prog_1_method_24_code
def yX4_drill : MethodName := ⟨RX4, "drill", "(III)I"⟩
abbrev cX4_keep : ByteArray := prog_1_method_25_code
def yX4_keep : MethodName := ⟨RX4, "keep", "()I"⟩
abbrev cX4_back : ByteArray := prog_1_method_26_code
def yX4_back : MethodName := ⟨RX4, "back", "()I"⟩
abbrev cX4_count : ByteArray := prog_1_method_27_code
def yX4_count : MethodName := ⟨RX4, "count", "(I)I"⟩
abbrev cX4_isMan : ByteArray := prog_1_method_28_code
def yX4_isMan : MethodName := ⟨RX4, "isMan", "(I)Z"⟩
abbrev cX4_isWord : ByteArray := prog_1_method_29_code
def yX4_isWord : MethodName := ⟨RX4, "isWord", "(I)Z"⟩
abbrev cX4_isEither : ByteArray := prog_1_method_30_code
def yX4_isEither : MethodName := ⟨RX4, "isEither", "(I)Z"⟩
abbrev cX4_layScript : ByteArray := prog_1_method_31_code
def yX4_layScript : MethodName := ⟨RX4, "layScript", "()Z"⟩
abbrev cX4_chainEnd : ByteArray := prog_1_method_32_code
def yX4_chainEnd : MethodName := ⟨RX4, "chainEnd", "(II)I"⟩
abbrev cX4_heeds : ByteArray := prog_1_method_33_code
def yX4_heeds : MethodName := ⟨RX4, "heeds", "(II)Z"⟩
abbrev cX4_findLeaders : ByteArray := prog_1_method_34_code
def yX4_findLeaders : MethodName := ⟨RX4, "findLeaders", "()V"⟩
abbrev cX4_drawOf : ByteArray := prog_1_method_35_code
def yX4_drawOf : MethodName := ⟨RX4, "drawOf", "(J)I"⟩
abbrev cX4_isChancy : ByteArray := prog_1_method_36_code
def yX4_isChancy : MethodName := ⟨RX4, "isChancy", "(I)Z"⟩
abbrev cX4_mannerOf : ByteArray := prog_1_method_37_code
def yX4_mannerOf : MethodName := ⟨RX4, "mannerOf", "(IZ)I"⟩
abbrev cX4_errsByDraw : ByteArray := prog_1_method_38_code
def yX4_errsByDraw : MethodName := ⟨RX4, "errsByDraw", "(II)Z"⟩
abbrev cX4_turnBy : ByteArray := prog_1_method_39_code
def yX4_turnBy : MethodName := ⟨RX4, "turnBy", "(III)I"⟩
abbrev cX4_say : ByteArray := prog_1_method_40_code
def yX4_say : MethodName := ⟨RX4, "say", "(LHayFootStraw$Standing;I)V"⟩
abbrev cX4_dueFacing : ByteArray := prog_1_method_41_code
def yX4_dueFacing : MethodName := ⟨RX4, "dueFacing", "(LHayFootStraw$Standing;I)I"⟩
abbrev cX4_wrongMen : ByteArray := prog_1_method_42_code
def yX4_wrongMen : MethodName := ⟨RX4, "wrongMen", "(LHayFootStraw$Standing;)I"⟩
abbrev cX4_menFacing : ByteArray := prog_1_method_43_code
def yX4_menFacing : MethodName := ⟨RX4, "menFacing", "(I)I"⟩
abbrev cX4_isAlike : ByteArray := prog_1_method_44_code
def yX4_isAlike : MethodName := ⟨RX4, "isAlike", "(LHayFootStraw$Standing;)Z"⟩
abbrev cX4_findManners : ByteArray := prog_1_method_45_code
def yX4_findManners : MethodName := ⟨RX4, "findManners", "()V"⟩
abbrev cX4_facingBy : ByteArray := prog_1_method_46_code
def yX4_facingBy : MethodName := ⟨RX4, "facingBy", "(III)I"⟩
abbrev cX4_facingForeseen : ByteArray := prog_1_method_47_code
def yX4_facingForeseen : MethodName := ⟨RX4, "facingForeseen", "(II)I"⟩
abbrev cX4_firstRowAlike : ByteArray := prog_1_method_48_code
def yX4_firstRowAlike : MethodName := ⟨RX4, "firstRowAlike", "(I)I"⟩
abbrev cX4_wordOfRow : ByteArray := prog_1_method_49_code
def yX4_wordOfRow : MethodName := ⟨RX4, "wordOfRow", "(III)I"⟩
abbrev cX4_isRowAlike : ByteArray := prog_1_method_50_code
def yX4_isRowAlike : MethodName := ⟨RX4, "isRowAlike", "(II)Z"⟩
abbrev cX4_addUpRow : ByteArray := prog_1_method_51_code
def yX4_addUpRow : MethodName := ⟨RX4, "addUpRow", "(II)V"⟩
abbrev cX4_waysToTurn : ByteArray := prog_1_method_52_code
def yX4_waysToTurn : MethodName := ⟨RX4, "waysToTurn", "(I)I"⟩
abbrev cX4_waysOfManner : ByteArray := prog_1_method_53_code
def yX4_waysOfManner : MethodName := ⟨RX4, "waysOfManner", "(II)I"⟩
abbrev cX4_waysAllFace : ByteArray := prog_1_method_54_code
def yX4_waysAllFace : MethodName := ⟨RX4, "waysAllFace", "(II)I"⟩
abbrev cX4_waysLedFace : ByteArray := prog_1_method_55_code
def yX4_waysLedFace : MethodName := ⟨RX4, "waysLedFace", "(III)I"⟩
abbrev cX4_wouldLedFace : ByteArray := prog_1_method_56_code
def yX4_wouldLedFace : MethodName := ⟨RX4, "wouldLedFace", "(IIII)Z"⟩
abbrev cX4_partInLowestTerms : ByteArray := prog_1_method_57_code
def yX4_partInLowestTerms : MethodName := ⟨RX4, "partInLowestTerms", "(III)I"⟩
abbrev cX4_commonDivisor : ByteArray := prog_1_method_58_code
def yX4_commonDivisor : MethodName := ⟨RX4, "commonDivisor", "(II)I"⟩
def RX5 : String := "HayFootStrawModel"
def TX5 : u_T := fun k => match k with
  | 0 => ("HayFootStrawModel", "text", "[I", true)
  | 1 => ("HayFootStrawModel", "typed", "I", false)
  | 2 => ("HayFootStrawModel", "told", "[I", true)
  | 3 => ("HayFootStrawModel", "draft", "[I", true)
  | 4 => ("HayFootStrawModel", "s", "[I", true)
  | 5 => ("HayFootStrawModel", "past", "[I", true)
  | 6 => ("HayFootStrawModel", "known", "I", false)
  | 7 => ("HayFootStrawModel", "images", "[I", true)
  | 8 => ("HayFootStrawModel", "kept", "I", false)
  | 9 => ("HayFootStrawModel", "at", "I", false)
  | 10 => ("HayFootStrawModel", "taken", "I", false)
  | 11 => ("HayFootStrawModel", "takenAt", "I", false)
  | 12 => ("HayFootStrawModel", "held", "[I", true)
  | _ => ("HayFootStrawModel", "firstRow", "I", false)
def tyX5 : Nat → FieldType := fun k => match k with
  | 0 => .array .int
  | 1 => .int
  | 2 => .array .int
  | 3 => .array .int
  | 4 => .array .int
  | 5 => .array .int
  | 6 => .int
  | 7 => .array .int
  | 8 => .int
  | 9 => .int
  | 10 => .int
  | 11 => .int
  | 12 => .array .int
  | _ => .int
theorem nmX5 : ∀ a, a < 14 → ∀ b, b < 14 → a ≠ b → (TX5 a).2.1 ≠ (TX5 b).2.1 := by decide +kernel
theorem tyX5_ok : ∀ k, k < 14 → parseFieldDescriptor (TX5 k).2.2.1 = some (tyX5 k) := by decide +kernel
abbrev cX5_init : ByteArray := prog_7_method_1_code
def yX5_init : MethodName := ⟨RX5, "<init>", "()V"⟩
abbrev cX5_in : ByteArray := prog_7_method_3_code
def yX5_in : MethodName := ⟨RX5, "in", "(III)Z"⟩
abbrev cX5_isMan : ByteArray := prog_7_method_4_code
def yX5_isMan : MethodName := ⟨RX5, "isMan", "(I)Z"⟩
abbrev cX5_isWord : ByteArray := prog_7_method_5_code
def yX5_isWord : MethodName := ⟨RX5, "isWord", "(I)Z"⟩
abbrev cX5_ones : ByteArray := prog_7_method_6_code
def yX5_ones : MethodName := ⟨RX5, "ones", "(I)I"⟩
abbrev cX5_write : ByteArray := prog_7_method_7_code
def yX5_write : MethodName := ⟨RX5, "write", "(I)I"⟩
abbrev cX5_wipe : ByteArray := prog_7_method_8_code
def yX5_wipe : MethodName := ⟨RX5, "wipe", "()I"⟩
abbrev cX5_letterAt : ByteArray := prog_7_method_9_code
def yX5_letterAt : MethodName := ⟨RX5, "letterAt", "(I)I"⟩
abbrev cX5_isFigure : ByteArray := prog_7_method_10_code
def yX5_isFigure : MethodName := ⟨RX5, "isFigure", "(I)Z"⟩
abbrev cX5_number : ByteArray := prog_7_method_11_code
def yX5_number : MethodName := ⟨RX5, "number", "()I"⟩
abbrev cX5_sign : ByteArray := prog_7_method_12_code
def yX5_sign : MethodName := ⟨RX5, "sign", "(I)Z"⟩
abbrev cX5_begins : ByteArray := prog_7_method_13_code
def yX5_begins : MethodName := ⟨RX5, "begins", "()V"⟩
abbrev cX5_adds : ByteArray := prog_7_method_14_code
def yX5_adds : MethodName := ⟨RX5, "adds", "(IIII)V"⟩
abbrev cX5_readsMan : ByteArray := prog_7_method_15_code
def yX5_readsMan : MethodName := ⟨RX5, "readsMan", "()Z"⟩
abbrev cX5_readsOne : ByteArray := prog_7_method_16_code
def yX5_readsOne : MethodName := ⟨RX5, "readsOne", "(II)Z"⟩
abbrev cX5_reads : ByteArray := prog_7_method_17_code
def yX5_reads : MethodName := ⟨RX5, "reads", "()I"⟩
abbrev cX5_fault : ByteArray := prog_7_method_18_code
def yX5_fault : MethodName := ⟨RX5, "fault", "()I"⟩
abbrev cX5_lays : ByteArray := prog_7_method_19_code
def yX5_lays : MethodName := ⟨RX5, "lays", "()V"⟩
abbrev cX5_lay : ByteArray := prog_7_method_20_code
def yX5_lay : MethodName := ⟨RX5, "lay", "()I"⟩
abbrev cX5_turnOf : ByteArray := prog_7_method_21_code
def yX5_turnOf : MethodName := ⟨RX5, "turnOf", "(I)I"⟩
abbrev cX5_dueOf : ByteArray := prog_7_method_22_code
def yX5_dueOf : MethodName := ⟨RX5, "dueOf", "(I)I"⟩
abbrev cX5_man : ByteArray := prog_7_method_23_code
def yX5_man : MethodName := ⟨RX5, "man", "(II)I"⟩
abbrev cX5_isLooking : ByteArray := prog_7_method_24_code
def yX5_isLooking : MethodName := ⟨RX5, "isLooking", "(I)Z"⟩
abbrev cX5_leader : ByteArray := prog_7_method_25_code
def yX5_leader : MethodName := ⟨RX5, "leader", "(I)I"⟩
abbrev cX5_turnsAs : ByteArray := prog_7_method_26_code
def yX5_turnsAs : MethodName := ⟨RX5, "turnsAs", "(I)I"⟩
abbrev cX5_mayErr : ByteArray := prog_7_method_27_code
def yX5_mayErr : MethodName := ⟨RX5, "mayErr", "(I)Z"⟩
abbrev cX5_drawOf : ByteArray := prog_7_method_28_code
def yX5_drawOf : MethodName := ⟨RX5, "drawOf", "(J)I"⟩
abbrev cX5_wrongly : ByteArray := prog_7_method_29_code
def yX5_wrongly : MethodName := ⟨RX5, "wrongly", "(I)I"⟩
abbrev cX5_errors : ByteArray := prog_7_method_30_code
def yX5_errors : MethodName := ⟨RX5, "errors", "(Z)I"⟩
abbrev cX5_turnBy : ByteArray := prog_7_method_31_code
def yX5_turnBy : MethodName := ⟨RX5, "turnBy", "(III)I"⟩
abbrev cX5_says : ByteArray := prog_7_method_32_code
def yX5_says : MethodName := ⟨RX5, "says", "(II)V"⟩
abbrev cX5_keeps : ByteArray := prog_7_method_33_code
def yX5_keeps : MethodName := ⟨RX5, "keeps", "()V"⟩
abbrev cX5_wrong : ByteArray := prog_7_method_34_code
def yX5_wrong : MethodName := ⟨RX5, "wrong", "()I"⟩
abbrev cX5_word : ByteArray := prog_7_method_35_code
def yX5_word : MethodName := ⟨RX5, "word", "(I)I"⟩
abbrev cX5_comesBy : ByteArray := prog_7_method_36_code
def yX5_comesBy : MethodName := ⟨RX5, "comesBy", "(II)Z"⟩
abbrev cX5_shout : ByteArray := prog_7_method_37_code
def yX5_shout : MethodName := ⟨RX5, "shout", "(I)I"⟩
abbrev cX5_eyes : ByteArray := prog_7_method_38_code
def yX5_eyes : MethodName := ⟨RX5, "eyes", "(I)I"⟩
abbrev cX5_look : ByteArray := prog_7_method_39_code
def yX5_look : MethodName := ⟨RX5, "look", "(II)I"⟩
abbrev cX5_undo : ByteArray := prog_7_method_40_code
def yX5_undo : MethodName := ⟨RX5, "undo", "()I"⟩
abbrev cX5_who : ByteArray := prog_7_method_41_code
def yX5_who : MethodName := ⟨RX5, "who", "(I)I"⟩
abbrev cX5_follows : ByteArray := prog_7_method_42_code
def yX5_follows : MethodName := ⟨RX5, "follows", "(I)I"⟩
abbrev cX5_runs : ByteArray := prog_7_method_43_code
def yX5_runs : MethodName := ⟨RX5, "runs", "(I)I"⟩
abbrev cX5_most : ByteArray := prog_7_method_44_code
def yX5_most : MethodName := ⟨RX5, "most", "(I)I"⟩
abbrev cX5_groups : ByteArray := prog_7_method_45_code
def yX5_groups : MethodName := ⟨RX5, "groups", "(I)I"⟩
abbrev cX5_holds : ByteArray := prog_7_method_46_code
def yX5_holds : MethodName := ⟨RX5, "holds", "()V"⟩
abbrev cX5_lets : ByteArray := prog_7_method_47_code
def yX5_lets : MethodName := ⟨RX5, "lets", "()V"⟩
abbrev cX5_isOneWay : ByteArray := prog_7_method_48_code
def yX5_isOneWay : MethodName := ⟨RX5, "isOneWay", "()Z"⟩
abbrev cX5_rows : ByteArray := prog_7_method_49_code
def yX5_rows : MethodName := ⟨RX5, "rows", "(I)I"⟩
abbrev cX5_plan : ByteArray := prog_7_method_50_code
def yX5_plan : MethodName := ⟨RX5, "plan", "(I)I"⟩
abbrev cX5_turn : ByteArray := prog_7_method_51_code
def yX5_turn : MethodName := ⟨RX5, "turn", "(II)I"⟩
abbrev cX5_common : ByteArray := prog_7_method_52_code
def yX5_common : MethodName := ⟨RX5, "common", "(II)I"⟩
abbrev cX5_doubtful : ByteArray := prog_7_method_53_code
def yX5_doubtful : MethodName := ⟨RX5, "doubtful", "()I"⟩
abbrev cX5_alike : ByteArray := prog_7_method_54_code
def yX5_alike : MethodName := ⟨RX5, "alike", "(II)I"⟩
abbrev cX5_right : ByteArray := prog_7_method_55_code
def yX5_right : MethodName := ⟨RX5, "right", "(III)I"⟩
abbrev cX5_which : ByteArray := prog_7_method_56_code
def yX5_which : MethodName := ⟨RX5, "which", "(II)I"⟩
abbrev cX5_safe : ByteArray := prog_7_method_57_code
def yX5_safe : MethodName := ⟨RX5, "safe", "(I)I"⟩
abbrev cX5_numbers : ByteArray := prog_7_method_58_code
def yX5_numbers : MethodName := ⟨RX5, "numbers", "(I)I"⟩
abbrev cX5_drill : ByteArray := prog_7_method_59_code
def yX5_drill : MethodName := ⟨RX5, "drill", "(III)I"⟩
abbrev cX5_keep : ByteArray := prog_7_method_60_code
def yX5_keep : MethodName := ⟨RX5, "keep", "()I"⟩
abbrev cX5_back : ByteArray := prog_7_method_61_code
def yX5_back : MethodName := ⟨RX5, "back", "()I"⟩
abbrev cX5_count : ByteArray := prog_7_method_62_code
def yX5_count : MethodName := ⟨RX5, "count", "(I)I"⟩
def RJ6 : String := "java/lang/Integer"
def TJ6 : u_T := fun k => match k with
  | _ => ("", "", "", false)
def tyJ6 : Nat → FieldType := fun k => match k with
  | _ => .int
theorem nmJ6 : ∀ a, a < 0 → ∀ b, b < 0 → a ≠ b → (TJ6 a).2.1 ≠ (TJ6 b).2.1 := by decide +kernel
theorem tyJ6_ok : ∀ k, k < 0 → parseFieldDescriptor (TJ6 k).2.2.1 = some (tyJ6 k) := by decide +kernel
abbrev cJ6_bitCount_0f7a4 : ByteArray := prog_8_method_49_code
def yJ6_bitCount_0f7a4 : MethodName := ⟨RJ6, "bitCount", "(I)I"⟩
def RJ9 : String := "java/lang/Math"
def TJ9 : u_T := fun k => match k with
  | _ => ("", "", "", false)
def tyJ9 : Nat → FieldType := fun k => match k with
  | _ => .int
theorem nmJ9 : ∀ a, a < 0 → ∀ b, b < 0 → a ≠ b → (TJ9 a).2.1 ≠ (TJ9 b).2.1 := by decide +kernel
theorem tyJ9_ok : ∀ k, k < 0 → parseFieldDescriptor (TJ9 k).2.2.1 = some (tyJ9 k) := by decide +kernel
abbrev cJ9_max_7cf53 : ByteArray := prog_9_method_65_code
def yJ9_max_7cf53 : MethodName := ⟨RJ9, "max", "(II)I"⟩
def RJ0 : String := "java/lang/String"
def TJ0 : u_T := fun k => match k with
  | _ => ("", "", "", false)
def tyJ0 : Nat → FieldType := fun k => match k with
  | _ => .int
theorem nmJ0 : ∀ a, a < 0 → ∀ b, b < 0 → a ≠ b → (TJ0 a).2.1 ≠ (TJ0 b).2.1 := by decide +kernel
theorem tyJ0_ok : ∀ k, k < 0 → parseFieldDescriptor (TJ0 k).2.2.1 = some (tyJ0 k) := by decide +kernel
abbrev cJ0_length_8abf5 : ByteArray := prog_10_method_54_code
def yJ0_length_8abf5 : MethodName := ⟨RJ0, "length", "()I"⟩
abbrev cJ0_charAt_5068e : ByteArray := prog_10_method_56_code
def yJ0_charAt_5068e : MethodName := ⟨RJ0, "charAt", "(I)C"⟩
abbrev cJ0_coder_7d493 : ByteArray := prog_10_method_152_code
def yJ0_coder_7d493 : MethodName := ⟨RJ0, "coder", "()B"⟩
abbrev cJ0_isLatin1_aae02 : ByteArray := prog_10_method_154_code
def yJ0_isLatin1_aae02 : MethodName := ⟨RJ0, "isLatin1", "()Z"⟩
abbrev cJ0_checkIndex_df160 : ByteArray := prog_10_method_155_code
def yJ0_checkIndex_df160 : MethodName := ⟨RJ0, "checkIndex", "(II)V"⟩
def RJ1 : String := "java/lang/StringLatin1"
def TJ1 : u_T := fun k => match k with
  | _ => ("", "", "", false)
def tyJ1 : Nat → FieldType := fun k => match k with
  | _ => .int
theorem nmJ1 : ∀ a, a < 0 → ∀ b, b < 0 → a ≠ b → (TJ1 a).2.1 ≠ (TJ1 b).2.1 := by decide +kernel
theorem tyJ1_ok : ∀ k, k < 0 → parseFieldDescriptor (TJ1 k).2.2.1 = some (tyJ1 k) := by decide +kernel
abbrev cJ1_charAt_3b067 : ByteArray := prog_11_method_2_code
def yJ1_charAt_3b067 : MethodName := ⟨RJ1, "charAt", "([BI)C"⟩
def RJ2 : String := "java/lang/StringUTF16"
def TJ2 : u_T := fun k => match k with
  | _ => ("", "", "", false)
def tyJ2 : Nat → FieldType := fun k => match k with
  | _ => .int
theorem nmJ2 : ∀ a, a < 0 → ∀ b, b < 0 → a ≠ b → (TJ2 a).2.1 ≠ (TJ2 b).2.1 := by decide +kernel
theorem tyJ2_ok : ∀ k, k < 0 → parseFieldDescriptor (TJ2 k).2.2.1 = some (tyJ2 k) := by decide +kernel
abbrev cJ2_getChar_3b067 : ByteArray := prog_12_method_5_code
def yJ2_getChar_3b067 : MethodName := ⟨RJ2, "getChar", "([BI)C"⟩
abbrev cJ2_length_9d52b : ByteArray := prog_12_method_6_code
def yJ2_length_9d52b : MethodName := ⟨RJ2, "length", "([B)I"⟩
abbrev cJ2_charAt_3b067 : ByteArray := prog_12_method_83_code
def yJ2_charAt_3b067 : MethodName := ⟨RJ2, "charAt", "([BI)C"⟩
abbrev cJ2_checkIndex_2214a : ByteArray := prog_12_method_91_code
def yJ2_checkIndex_2214a : MethodName := ⟨RJ2, "checkIndex", "(I[B)V"⟩
def RJ10 : String := "java/lang/System"
def TJ10 : u_T := fun k => match k with
  | _ => ("", "", "", false)
def tyJ10 : Nat → FieldType := fun k => match k with
  | _ => .int
theorem nmJ10 : ∀ a, a < 0 → ∀ b, b < 0 → a ≠ b → (TJ10 a).2.1 ≠ (TJ10 b).2.1 := by decide +kernel
theorem tyJ10_ok : ∀ k, k < 0 → parseFieldDescriptor (TJ10 k).2.2.1 = some (tyJ10 k) := by decide +kernel
def RJ3 : String := "jdk/internal/util/Preconditions"
def TJ3 : u_T := fun k => match k with
  | _ => ("", "", "", false)
def tyJ3 : Nat → FieldType := fun k => match k with
  | _ => .int
theorem nmJ3 : ∀ a, a < 0 → ∀ b, b < 0 → a ≠ b → (TJ3 a).2.1 ≠ (TJ3 b).2.1 := by decide +kernel
theorem tyJ3_ok : ∀ k, k < 0 → parseFieldDescriptor (TJ3 k).2.2.1 = some (tyJ3 k) := by decide +kernel
abbrev cJ3_checkIndex_8e157 : ByteArray := prog_14_method_11_code
def yJ3_checkIndex_8e157 : MethodName := ⟨RJ3, "checkIndex", "(IILjava/util/function/BiFunction;)I"⟩
def RL : String := "HayFootStrawLaw"
abbrev cL_law : ByteArray := code
abbrev vwCl : List vw_C := [(RX0, TX0, 2), (RX1, TX1, 3), (RX2, TX2, 7), (RX3, TX3, 8), (RX4, TX4, 10), (RX5, TX5, 14)]
end
section
theorem dL_law_0 : decode cL_law 0 = .ok (.new 7, 3) := by decide +kernel
theorem dL_law_3 : decode cL_law 3 = .ok (.dup, 1) := by decide +kernel
theorem dL_law_4 : decode cL_law 4 = .ok (.invokespecial 9, 3) := by decide +kernel
theorem dL_law_7 : decode cL_law 7 = .ok (.astore_n 1, 1) := by decide +kernel
theorem dL_law_8 : decode cL_law 8 = .ok (.new 10, 3) := by decide +kernel
theorem dL_law_11 : decode cL_law 11 = .ok (.dup, 1) := by decide +kernel
theorem dL_law_12 : decode cL_law 12 = .ok (.invokespecial 12, 3) := by decide +kernel
theorem dL_law_15 : decode cL_law 15 = .ok (.astore_n 2, 1) := by decide +kernel
theorem dL_law_16 : decode cL_law 16 = .ok (.iconst 0, 1) := by decide +kernel
theorem dL_law_17 : decode cL_law 17 = .ok (.istore_n 3, 1) := by decide +kernel
theorem dL_law_18 : decode cL_law 18 = .ok (.iload_n 3, 1) := by decide +kernel
theorem dL_law_19 : decode cL_law 19 = .ok (.aload_n 0, 1) := by decide +kernel
theorem dL_law_20 : decode cL_law 20 = .ok (.arraylength, 1) := by decide +kernel
theorem dL_law_21 : decode cL_law 21 = .ok (.iconst 4, 1) := by decide +kernel
theorem dL_law_22 : decode cL_law 22 = .ok (.isub, 1) := by decide +kernel
theorem dL_law_23 : decode cL_law 23 = .ok (.if_icmp .gt 763, 3) := by decide +kernel
theorem dL_law_26 : decode cL_law 26 = .ok (.aload_n 0, 1) := by decide +kernel
theorem dL_law_27 : decode cL_law 27 = .ok (.iload_n 3, 1) := by decide +kernel
theorem dL_law_28 : decode cL_law 28 = .ok (.iaload, 1) := by decide +kernel
theorem dL_law_29 : decode cL_law 29 = .ok (.bipush 31, 2) := by decide +kernel
theorem dL_law_31 : decode cL_law 31 = .ok (.iand, 1) := by decide +kernel
theorem dL_law_32 : decode cL_law 32 = .ok (.tableswitch 748 0 25 #[120, 143, 156, 169, 182, 215, 238, 261, 284, 317, 330, 353, 376, 399, 422, 445, 468, 501, 534, 577, 610, 633, 656, 699, 712, 725], 120) := by decide +kernel
theorem dL_law_152 : decode cL_law 152 = .ok (.aload_n 1, 1) := by decide +kernel
theorem dL_law_153 : decode cL_law 153 = .ok (.aload_n 0, 1) := by decide +kernel
theorem dL_law_154 : decode cL_law 154 = .ok (.iload_n 3, 1) := by decide +kernel
theorem dL_law_155 : decode cL_law 155 = .ok (.iconst 1, 1) := by decide +kernel
theorem dL_law_156 : decode cL_law 156 = .ok (.iadd, 1) := by decide +kernel
theorem dL_law_157 : decode cL_law 157 = .ok (.iaload, 1) := by decide +kernel
theorem dL_law_158 : decode cL_law 158 = .ok (.invokevirtual 13, 3) := by decide +kernel
theorem dL_law_161 : decode cL_law 161 = .ok (.aload_n 2, 1) := by decide +kernel
theorem dL_law_162 : decode cL_law 162 = .ok (.aload_n 0, 1) := by decide +kernel
theorem dL_law_163 : decode cL_law 163 = .ok (.iload_n 3, 1) := by decide +kernel
theorem dL_law_164 : decode cL_law 164 = .ok (.iconst 1, 1) := by decide +kernel
theorem dL_law_165 : decode cL_law 165 = .ok (.iadd, 1) := by decide +kernel
theorem dL_law_166 : decode cL_law 166 = .ok (.iaload, 1) := by decide +kernel
theorem dL_law_167 : decode cL_law 167 = .ok (.invokevirtual 17, 3) := by decide +kernel
theorem dL_law_170 : decode cL_law 170 = .ok (.if_icmp .eq 610, 3) := by decide +kernel
theorem dL_law_173 : decode cL_law 173 = .ok (.iconst 0, 1) := by decide +kernel
theorem dL_law_174 : decode cL_law 174 = .ok (.ireturn, 1) := by decide +kernel
theorem dL_law_175 : decode cL_law 175 = .ok (.aload_n 1, 1) := by decide +kernel
theorem dL_law_176 : decode cL_law 176 = .ok (.invokevirtual 18, 3) := by decide +kernel
theorem dL_law_179 : decode cL_law 179 = .ok (.aload_n 2, 1) := by decide +kernel
theorem dL_law_180 : decode cL_law 180 = .ok (.invokevirtual 22, 3) := by decide +kernel
theorem dL_law_183 : decode cL_law 183 = .ok (.if_icmp .eq 597, 3) := by decide +kernel
theorem dL_law_186 : decode cL_law 186 = .ok (.iconst 0, 1) := by decide +kernel
theorem dL_law_187 : decode cL_law 187 = .ok (.ireturn, 1) := by decide +kernel
theorem dL_law_188 : decode cL_law 188 = .ok (.aload_n 1, 1) := by decide +kernel
theorem dL_law_189 : decode cL_law 189 = .ok (.invokevirtual 23, 3) := by decide +kernel
theorem dL_law_192 : decode cL_law 192 = .ok (.aload_n 2, 1) := by decide +kernel
theorem dL_law_193 : decode cL_law 193 = .ok (.invokevirtual 26, 3) := by decide +kernel
theorem dL_law_196 : decode cL_law 196 = .ok (.if_icmp .eq 584, 3) := by decide +kernel
theorem dL_law_199 : decode cL_law 199 = .ok (.iconst 0, 1) := by decide +kernel
theorem dL_law_200 : decode cL_law 200 = .ok (.ireturn, 1) := by decide +kernel
theorem dL_law_201 : decode cL_law 201 = .ok (.aload_n 1, 1) := by decide +kernel
theorem dL_law_202 : decode cL_law 202 = .ok (.invokevirtual 27, 3) := by decide +kernel
theorem dL_law_205 : decode cL_law 205 = .ok (.aload_n 2, 1) := by decide +kernel
theorem dL_law_206 : decode cL_law 206 = .ok (.invokevirtual 30, 3) := by decide +kernel
theorem dL_law_209 : decode cL_law 209 = .ok (.if_icmp .eq 571, 3) := by decide +kernel
theorem dL_law_212 : decode cL_law 212 = .ok (.iconst 0, 1) := by decide +kernel
theorem dL_law_213 : decode cL_law 213 = .ok (.ireturn, 1) := by decide +kernel
theorem dL_law_214 : decode cL_law 214 = .ok (.aload_n 1, 1) := by decide +kernel
theorem dL_law_215 : decode cL_law 215 = .ok (.aload_n 0, 1) := by decide +kernel
theorem dL_law_216 : decode cL_law 216 = .ok (.iload_n 3, 1) := by decide +kernel
theorem dL_law_217 : decode cL_law 217 = .ok (.iconst 1, 1) := by decide +kernel
theorem dL_law_218 : decode cL_law 218 = .ok (.iadd, 1) := by decide +kernel
theorem dL_law_219 : decode cL_law 219 = .ok (.iaload, 1) := by decide +kernel
theorem dL_law_220 : decode cL_law 220 = .ok (.aload_n 0, 1) := by decide +kernel
theorem dL_law_221 : decode cL_law 221 = .ok (.iload_n 3, 1) := by decide +kernel
theorem dL_law_222 : decode cL_law 222 = .ok (.iconst 2, 1) := by decide +kernel
theorem dL_law_223 : decode cL_law 223 = .ok (.iadd, 1) := by decide +kernel
theorem dL_law_224 : decode cL_law 224 = .ok (.iaload, 1) := by decide +kernel
theorem dL_law_225 : decode cL_law 225 = .ok (.invokevirtual 31, 3) := by decide +kernel
theorem dL_law_228 : decode cL_law 228 = .ok (.aload_n 2, 1) := by decide +kernel
theorem dL_law_229 : decode cL_law 229 = .ok (.aload_n 0, 1) := by decide +kernel
theorem dL_law_230 : decode cL_law 230 = .ok (.iload_n 3, 1) := by decide +kernel
theorem dL_law_231 : decode cL_law 231 = .ok (.iconst 1, 1) := by decide +kernel
theorem dL_law_232 : decode cL_law 232 = .ok (.iadd, 1) := by decide +kernel
theorem dL_law_233 : decode cL_law 233 = .ok (.iaload, 1) := by decide +kernel
theorem dL_law_234 : decode cL_law 234 = .ok (.aload_n 0, 1) := by decide +kernel
theorem dL_law_235 : decode cL_law 235 = .ok (.iload_n 3, 1) := by decide +kernel
theorem dL_law_236 : decode cL_law 236 = .ok (.iconst 2, 1) := by decide +kernel
theorem dL_law_237 : decode cL_law 237 = .ok (.iadd, 1) := by decide +kernel
theorem dL_law_238 : decode cL_law 238 = .ok (.iaload, 1) := by decide +kernel
theorem dL_law_239 : decode cL_law 239 = .ok (.invokevirtual 35, 3) := by decide +kernel
theorem dL_law_242 : decode cL_law 242 = .ok (.if_icmp .eq 538, 3) := by decide +kernel
theorem dL_law_245 : decode cL_law 245 = .ok (.iconst 0, 1) := by decide +kernel
theorem dL_law_246 : decode cL_law 246 = .ok (.ireturn, 1) := by decide +kernel
theorem dL_law_247 : decode cL_law 247 = .ok (.aload_n 1, 1) := by decide +kernel
theorem dL_law_248 : decode cL_law 248 = .ok (.aload_n 0, 1) := by decide +kernel
theorem dL_law_249 : decode cL_law 249 = .ok (.iload_n 3, 1) := by decide +kernel
theorem dL_law_250 : decode cL_law 250 = .ok (.iconst 1, 1) := by decide +kernel
theorem dL_law_251 : decode cL_law 251 = .ok (.iadd, 1) := by decide +kernel
theorem dL_law_252 : decode cL_law 252 = .ok (.iaload, 1) := by decide +kernel
theorem dL_law_253 : decode cL_law 253 = .ok (.invokevirtual 36, 3) := by decide +kernel
theorem dL_law_256 : decode cL_law 256 = .ok (.aload_n 2, 1) := by decide +kernel
theorem dL_law_257 : decode cL_law 257 = .ok (.aload_n 0, 1) := by decide +kernel
theorem dL_law_258 : decode cL_law 258 = .ok (.iload_n 3, 1) := by decide +kernel
theorem dL_law_259 : decode cL_law 259 = .ok (.iconst 1, 1) := by decide +kernel
theorem dL_law_260 : decode cL_law 260 = .ok (.iadd, 1) := by decide +kernel
theorem dL_law_261 : decode cL_law 261 = .ok (.iaload, 1) := by decide +kernel
theorem dL_law_262 : decode cL_law 262 = .ok (.invokevirtual 39, 3) := by decide +kernel
theorem dL_law_265 : decode cL_law 265 = .ok (.if_icmp .eq 515, 3) := by decide +kernel
theorem dL_law_268 : decode cL_law 268 = .ok (.iconst 0, 1) := by decide +kernel
theorem dL_law_269 : decode cL_law 269 = .ok (.ireturn, 1) := by decide +kernel
theorem dL_law_270 : decode cL_law 270 = .ok (.aload_n 1, 1) := by decide +kernel
theorem dL_law_271 : decode cL_law 271 = .ok (.aload_n 0, 1) := by decide +kernel
theorem dL_law_272 : decode cL_law 272 = .ok (.iload_n 3, 1) := by decide +kernel
theorem dL_law_273 : decode cL_law 273 = .ok (.iconst 1, 1) := by decide +kernel
theorem dL_law_274 : decode cL_law 274 = .ok (.iadd, 1) := by decide +kernel
theorem dL_law_275 : decode cL_law 275 = .ok (.iaload, 1) := by decide +kernel
theorem dL_law_276 : decode cL_law 276 = .ok (.invokevirtual 40, 3) := by decide +kernel
theorem dL_law_279 : decode cL_law 279 = .ok (.aload_n 2, 1) := by decide +kernel
theorem dL_law_280 : decode cL_law 280 = .ok (.aload_n 0, 1) := by decide +kernel
theorem dL_law_281 : decode cL_law 281 = .ok (.iload_n 3, 1) := by decide +kernel
theorem dL_law_282 : decode cL_law 282 = .ok (.iconst 1, 1) := by decide +kernel
theorem dL_law_283 : decode cL_law 283 = .ok (.iadd, 1) := by decide +kernel
theorem dL_law_284 : decode cL_law 284 = .ok (.iaload, 1) := by decide +kernel
theorem dL_law_285 : decode cL_law 285 = .ok (.invokevirtual 43, 3) := by decide +kernel
theorem dL_law_288 : decode cL_law 288 = .ok (.if_icmp .eq 492, 3) := by decide +kernel
theorem dL_law_291 : decode cL_law 291 = .ok (.iconst 0, 1) := by decide +kernel
theorem dL_law_292 : decode cL_law 292 = .ok (.ireturn, 1) := by decide +kernel
theorem dL_law_293 : decode cL_law 293 = .ok (.aload_n 1, 1) := by decide +kernel
theorem dL_law_294 : decode cL_law 294 = .ok (.aload_n 0, 1) := by decide +kernel
theorem dL_law_295 : decode cL_law 295 = .ok (.iload_n 3, 1) := by decide +kernel
theorem dL_law_296 : decode cL_law 296 = .ok (.iconst 1, 1) := by decide +kernel
theorem dL_law_297 : decode cL_law 297 = .ok (.iadd, 1) := by decide +kernel
theorem dL_law_298 : decode cL_law 298 = .ok (.iaload, 1) := by decide +kernel
theorem dL_law_299 : decode cL_law 299 = .ok (.invokevirtual 44, 3) := by decide +kernel
theorem dL_law_302 : decode cL_law 302 = .ok (.aload_n 2, 1) := by decide +kernel
theorem dL_law_303 : decode cL_law 303 = .ok (.aload_n 0, 1) := by decide +kernel
theorem dL_law_304 : decode cL_law 304 = .ok (.iload_n 3, 1) := by decide +kernel
theorem dL_law_305 : decode cL_law 305 = .ok (.iconst 1, 1) := by decide +kernel
theorem dL_law_306 : decode cL_law 306 = .ok (.iadd, 1) := by decide +kernel
theorem dL_law_307 : decode cL_law 307 = .ok (.iaload, 1) := by decide +kernel
theorem dL_law_308 : decode cL_law 308 = .ok (.invokevirtual 47, 3) := by decide +kernel
theorem dL_law_311 : decode cL_law 311 = .ok (.if_icmp .eq 469, 3) := by decide +kernel
theorem dL_law_314 : decode cL_law 314 = .ok (.iconst 0, 1) := by decide +kernel
theorem dL_law_315 : decode cL_law 315 = .ok (.ireturn, 1) := by decide +kernel
theorem dL_law_316 : decode cL_law 316 = .ok (.aload_n 1, 1) := by decide +kernel
theorem dL_law_317 : decode cL_law 317 = .ok (.aload_n 0, 1) := by decide +kernel
theorem dL_law_318 : decode cL_law 318 = .ok (.iload_n 3, 1) := by decide +kernel
theorem dL_law_319 : decode cL_law 319 = .ok (.iconst 1, 1) := by decide +kernel
theorem dL_law_320 : decode cL_law 320 = .ok (.iadd, 1) := by decide +kernel
theorem dL_law_321 : decode cL_law 321 = .ok (.iaload, 1) := by decide +kernel
theorem dL_law_322 : decode cL_law 322 = .ok (.aload_n 0, 1) := by decide +kernel
theorem dL_law_323 : decode cL_law 323 = .ok (.iload_n 3, 1) := by decide +kernel
theorem dL_law_324 : decode cL_law 324 = .ok (.iconst 2, 1) := by decide +kernel
theorem dL_law_325 : decode cL_law 325 = .ok (.iadd, 1) := by decide +kernel
theorem dL_law_326 : decode cL_law 326 = .ok (.iaload, 1) := by decide +kernel
theorem dL_law_327 : decode cL_law 327 = .ok (.invokevirtual 48, 3) := by decide +kernel
theorem dL_law_330 : decode cL_law 330 = .ok (.aload_n 2, 1) := by decide +kernel
theorem dL_law_331 : decode cL_law 331 = .ok (.aload_n 0, 1) := by decide +kernel
theorem dL_law_332 : decode cL_law 332 = .ok (.iload_n 3, 1) := by decide +kernel
theorem dL_law_333 : decode cL_law 333 = .ok (.iconst 1, 1) := by decide +kernel
theorem dL_law_334 : decode cL_law 334 = .ok (.iadd, 1) := by decide +kernel
theorem dL_law_335 : decode cL_law 335 = .ok (.iaload, 1) := by decide +kernel
theorem dL_law_336 : decode cL_law 336 = .ok (.aload_n 0, 1) := by decide +kernel
theorem dL_law_337 : decode cL_law 337 = .ok (.iload_n 3, 1) := by decide +kernel
theorem dL_law_338 : decode cL_law 338 = .ok (.iconst 2, 1) := by decide +kernel
theorem dL_law_339 : decode cL_law 339 = .ok (.iadd, 1) := by decide +kernel
theorem dL_law_340 : decode cL_law 340 = .ok (.iaload, 1) := by decide +kernel
theorem dL_law_341 : decode cL_law 341 = .ok (.invokevirtual 51, 3) := by decide +kernel
theorem dL_law_344 : decode cL_law 344 = .ok (.if_icmp .eq 436, 3) := by decide +kernel
theorem dL_law_347 : decode cL_law 347 = .ok (.iconst 0, 1) := by decide +kernel
theorem dL_law_348 : decode cL_law 348 = .ok (.ireturn, 1) := by decide +kernel
theorem dL_law_349 : decode cL_law 349 = .ok (.aload_n 1, 1) := by decide +kernel
theorem dL_law_350 : decode cL_law 350 = .ok (.invokevirtual 52, 3) := by decide +kernel
theorem dL_law_353 : decode cL_law 353 = .ok (.aload_n 2, 1) := by decide +kernel
theorem dL_law_354 : decode cL_law 354 = .ok (.invokevirtual 55, 3) := by decide +kernel
theorem dL_law_357 : decode cL_law 357 = .ok (.if_icmp .eq 423, 3) := by decide +kernel
theorem dL_law_360 : decode cL_law 360 = .ok (.iconst 0, 1) := by decide +kernel
theorem dL_law_361 : decode cL_law 361 = .ok (.ireturn, 1) := by decide +kernel
theorem dL_law_362 : decode cL_law 362 = .ok (.aload_n 1, 1) := by decide +kernel
theorem dL_law_363 : decode cL_law 363 = .ok (.aload_n 0, 1) := by decide +kernel
theorem dL_law_364 : decode cL_law 364 = .ok (.iload_n 3, 1) := by decide +kernel
theorem dL_law_365 : decode cL_law 365 = .ok (.iconst 1, 1) := by decide +kernel
theorem dL_law_366 : decode cL_law 366 = .ok (.iadd, 1) := by decide +kernel
theorem dL_law_367 : decode cL_law 367 = .ok (.iaload, 1) := by decide +kernel
theorem dL_law_368 : decode cL_law 368 = .ok (.invokevirtual 56, 3) := by decide +kernel
theorem dL_law_371 : decode cL_law 371 = .ok (.aload_n 2, 1) := by decide +kernel
theorem dL_law_372 : decode cL_law 372 = .ok (.aload_n 0, 1) := by decide +kernel
theorem dL_law_373 : decode cL_law 373 = .ok (.iload_n 3, 1) := by decide +kernel
theorem dL_law_374 : decode cL_law 374 = .ok (.iconst 1, 1) := by decide +kernel
theorem dL_law_375 : decode cL_law 375 = .ok (.iadd, 1) := by decide +kernel
theorem dL_law_376 : decode cL_law 376 = .ok (.iaload, 1) := by decide +kernel
theorem dL_law_377 : decode cL_law 377 = .ok (.invokevirtual 59, 3) := by decide +kernel
theorem dL_law_380 : decode cL_law 380 = .ok (.if_icmp .eq 400, 3) := by decide +kernel
theorem dL_law_383 : decode cL_law 383 = .ok (.iconst 0, 1) := by decide +kernel
theorem dL_law_384 : decode cL_law 384 = .ok (.ireturn, 1) := by decide +kernel
theorem dL_law_385 : decode cL_law 385 = .ok (.aload_n 1, 1) := by decide +kernel
theorem dL_law_386 : decode cL_law 386 = .ok (.aload_n 0, 1) := by decide +kernel
theorem dL_law_387 : decode cL_law 387 = .ok (.iload_n 3, 1) := by decide +kernel
theorem dL_law_388 : decode cL_law 388 = .ok (.iconst 1, 1) := by decide +kernel
theorem dL_law_389 : decode cL_law 389 = .ok (.iadd, 1) := by decide +kernel
theorem dL_law_390 : decode cL_law 390 = .ok (.iaload, 1) := by decide +kernel
theorem dL_law_391 : decode cL_law 391 = .ok (.invokevirtual 60, 3) := by decide +kernel
theorem dL_law_394 : decode cL_law 394 = .ok (.aload_n 2, 1) := by decide +kernel
theorem dL_law_395 : decode cL_law 395 = .ok (.aload_n 0, 1) := by decide +kernel
theorem dL_law_396 : decode cL_law 396 = .ok (.iload_n 3, 1) := by decide +kernel
theorem dL_law_397 : decode cL_law 397 = .ok (.iconst 1, 1) := by decide +kernel
theorem dL_law_398 : decode cL_law 398 = .ok (.iadd, 1) := by decide +kernel
theorem dL_law_399 : decode cL_law 399 = .ok (.iaload, 1) := by decide +kernel
theorem dL_law_400 : decode cL_law 400 = .ok (.invokevirtual 63, 3) := by decide +kernel
theorem dL_law_403 : decode cL_law 403 = .ok (.if_icmp .eq 377, 3) := by decide +kernel
theorem dL_law_406 : decode cL_law 406 = .ok (.iconst 0, 1) := by decide +kernel
theorem dL_law_407 : decode cL_law 407 = .ok (.ireturn, 1) := by decide +kernel
theorem dL_law_408 : decode cL_law 408 = .ok (.aload_n 1, 1) := by decide +kernel
theorem dL_law_409 : decode cL_law 409 = .ok (.aload_n 0, 1) := by decide +kernel
theorem dL_law_410 : decode cL_law 410 = .ok (.iload_n 3, 1) := by decide +kernel
theorem dL_law_411 : decode cL_law 411 = .ok (.iconst 1, 1) := by decide +kernel
theorem dL_law_412 : decode cL_law 412 = .ok (.iadd, 1) := by decide +kernel
theorem dL_law_413 : decode cL_law 413 = .ok (.iaload, 1) := by decide +kernel
theorem dL_law_414 : decode cL_law 414 = .ok (.invokevirtual 64, 3) := by decide +kernel
theorem dL_law_417 : decode cL_law 417 = .ok (.aload_n 2, 1) := by decide +kernel
theorem dL_law_418 : decode cL_law 418 = .ok (.aload_n 0, 1) := by decide +kernel
theorem dL_law_419 : decode cL_law 419 = .ok (.iload_n 3, 1) := by decide +kernel
theorem dL_law_420 : decode cL_law 420 = .ok (.iconst 1, 1) := by decide +kernel
theorem dL_law_421 : decode cL_law 421 = .ok (.iadd, 1) := by decide +kernel
theorem dL_law_422 : decode cL_law 422 = .ok (.iaload, 1) := by decide +kernel
theorem dL_law_423 : decode cL_law 423 = .ok (.invokevirtual 67, 3) := by decide +kernel
theorem dL_law_426 : decode cL_law 426 = .ok (.if_icmp .eq 354, 3) := by decide +kernel
theorem dL_law_429 : decode cL_law 429 = .ok (.iconst 0, 1) := by decide +kernel
theorem dL_law_430 : decode cL_law 430 = .ok (.ireturn, 1) := by decide +kernel
theorem dL_law_431 : decode cL_law 431 = .ok (.aload_n 1, 1) := by decide +kernel
theorem dL_law_432 : decode cL_law 432 = .ok (.aload_n 0, 1) := by decide +kernel
theorem dL_law_433 : decode cL_law 433 = .ok (.iload_n 3, 1) := by decide +kernel
theorem dL_law_434 : decode cL_law 434 = .ok (.iconst 1, 1) := by decide +kernel
theorem dL_law_435 : decode cL_law 435 = .ok (.iadd, 1) := by decide +kernel
theorem dL_law_436 : decode cL_law 436 = .ok (.iaload, 1) := by decide +kernel
theorem dL_law_437 : decode cL_law 437 = .ok (.invokevirtual 68, 3) := by decide +kernel
theorem dL_law_440 : decode cL_law 440 = .ok (.aload_n 2, 1) := by decide +kernel
theorem dL_law_441 : decode cL_law 441 = .ok (.aload_n 0, 1) := by decide +kernel
theorem dL_law_442 : decode cL_law 442 = .ok (.iload_n 3, 1) := by decide +kernel
theorem dL_law_443 : decode cL_law 443 = .ok (.iconst 1, 1) := by decide +kernel
theorem dL_law_444 : decode cL_law 444 = .ok (.iadd, 1) := by decide +kernel
theorem dL_law_445 : decode cL_law 445 = .ok (.iaload, 1) := by decide +kernel
theorem dL_law_446 : decode cL_law 446 = .ok (.invokevirtual 71, 3) := by decide +kernel
theorem dL_law_449 : decode cL_law 449 = .ok (.if_icmp .eq 331, 3) := by decide +kernel
theorem dL_law_452 : decode cL_law 452 = .ok (.iconst 0, 1) := by decide +kernel
theorem dL_law_453 : decode cL_law 453 = .ok (.ireturn, 1) := by decide +kernel
theorem dL_law_454 : decode cL_law 454 = .ok (.aload_n 1, 1) := by decide +kernel
theorem dL_law_455 : decode cL_law 455 = .ok (.aload_n 0, 1) := by decide +kernel
theorem dL_law_456 : decode cL_law 456 = .ok (.iload_n 3, 1) := by decide +kernel
theorem dL_law_457 : decode cL_law 457 = .ok (.iconst 1, 1) := by decide +kernel
theorem dL_law_458 : decode cL_law 458 = .ok (.iadd, 1) := by decide +kernel
theorem dL_law_459 : decode cL_law 459 = .ok (.iaload, 1) := by decide +kernel
theorem dL_law_460 : decode cL_law 460 = .ok (.invokevirtual 72, 3) := by decide +kernel
theorem dL_law_463 : decode cL_law 463 = .ok (.aload_n 2, 1) := by decide +kernel
theorem dL_law_464 : decode cL_law 464 = .ok (.aload_n 0, 1) := by decide +kernel
theorem dL_law_465 : decode cL_law 465 = .ok (.iload_n 3, 1) := by decide +kernel
theorem dL_law_466 : decode cL_law 466 = .ok (.iconst 1, 1) := by decide +kernel
theorem dL_law_467 : decode cL_law 467 = .ok (.iadd, 1) := by decide +kernel
theorem dL_law_468 : decode cL_law 468 = .ok (.iaload, 1) := by decide +kernel
theorem dL_law_469 : decode cL_law 469 = .ok (.invokevirtual 75, 3) := by decide +kernel
theorem dL_law_472 : decode cL_law 472 = .ok (.if_icmp .eq 308, 3) := by decide +kernel
theorem dL_law_475 : decode cL_law 475 = .ok (.iconst 0, 1) := by decide +kernel
theorem dL_law_476 : decode cL_law 476 = .ok (.ireturn, 1) := by decide +kernel
theorem dL_law_477 : decode cL_law 477 = .ok (.aload_n 1, 1) := by decide +kernel
theorem dL_law_478 : decode cL_law 478 = .ok (.aload_n 0, 1) := by decide +kernel
theorem dL_law_479 : decode cL_law 479 = .ok (.iload_n 3, 1) := by decide +kernel
theorem dL_law_480 : decode cL_law 480 = .ok (.iconst 1, 1) := by decide +kernel
theorem dL_law_481 : decode cL_law 481 = .ok (.iadd, 1) := by decide +kernel
theorem dL_law_482 : decode cL_law 482 = .ok (.iaload, 1) := by decide +kernel
theorem dL_law_483 : decode cL_law 483 = .ok (.invokevirtual 76, 3) := by decide +kernel
theorem dL_law_486 : decode cL_law 486 = .ok (.aload_n 2, 1) := by decide +kernel
theorem dL_law_487 : decode cL_law 487 = .ok (.aload_n 0, 1) := by decide +kernel
theorem dL_law_488 : decode cL_law 488 = .ok (.iload_n 3, 1) := by decide +kernel
theorem dL_law_489 : decode cL_law 489 = .ok (.iconst 1, 1) := by decide +kernel
theorem dL_law_490 : decode cL_law 490 = .ok (.iadd, 1) := by decide +kernel
theorem dL_law_491 : decode cL_law 491 = .ok (.iaload, 1) := by decide +kernel
theorem dL_law_492 : decode cL_law 492 = .ok (.invokevirtual 79, 3) := by decide +kernel
theorem dL_law_495 : decode cL_law 495 = .ok (.if_icmp .eq 285, 3) := by decide +kernel
theorem dL_law_498 : decode cL_law 498 = .ok (.iconst 0, 1) := by decide +kernel
theorem dL_law_499 : decode cL_law 499 = .ok (.ireturn, 1) := by decide +kernel
theorem dL_law_500 : decode cL_law 500 = .ok (.aload_n 1, 1) := by decide +kernel
theorem dL_law_501 : decode cL_law 501 = .ok (.aload_n 0, 1) := by decide +kernel
theorem dL_law_502 : decode cL_law 502 = .ok (.iload_n 3, 1) := by decide +kernel
theorem dL_law_503 : decode cL_law 503 = .ok (.iconst 1, 1) := by decide +kernel
theorem dL_law_504 : decode cL_law 504 = .ok (.iadd, 1) := by decide +kernel
theorem dL_law_505 : decode cL_law 505 = .ok (.iaload, 1) := by decide +kernel
theorem dL_law_506 : decode cL_law 506 = .ok (.aload_n 0, 1) := by decide +kernel
theorem dL_law_507 : decode cL_law 507 = .ok (.iload_n 3, 1) := by decide +kernel
theorem dL_law_508 : decode cL_law 508 = .ok (.iconst 2, 1) := by decide +kernel
theorem dL_law_509 : decode cL_law 509 = .ok (.iadd, 1) := by decide +kernel
theorem dL_law_510 : decode cL_law 510 = .ok (.iaload, 1) := by decide +kernel
theorem dL_law_511 : decode cL_law 511 = .ok (.invokevirtual 80, 3) := by decide +kernel
theorem dL_law_514 : decode cL_law 514 = .ok (.aload_n 2, 1) := by decide +kernel
theorem dL_law_515 : decode cL_law 515 = .ok (.aload_n 0, 1) := by decide +kernel
theorem dL_law_516 : decode cL_law 516 = .ok (.iload_n 3, 1) := by decide +kernel
theorem dL_law_517 : decode cL_law 517 = .ok (.iconst 1, 1) := by decide +kernel
theorem dL_law_518 : decode cL_law 518 = .ok (.iadd, 1) := by decide +kernel
theorem dL_law_519 : decode cL_law 519 = .ok (.iaload, 1) := by decide +kernel
theorem dL_law_520 : decode cL_law 520 = .ok (.aload_n 0, 1) := by decide +kernel
theorem dL_law_521 : decode cL_law 521 = .ok (.iload_n 3, 1) := by decide +kernel
theorem dL_law_522 : decode cL_law 522 = .ok (.iconst 2, 1) := by decide +kernel
theorem dL_law_523 : decode cL_law 523 = .ok (.iadd, 1) := by decide +kernel
theorem dL_law_524 : decode cL_law 524 = .ok (.iaload, 1) := by decide +kernel
theorem dL_law_525 : decode cL_law 525 = .ok (.invokevirtual 83, 3) := by decide +kernel
theorem dL_law_528 : decode cL_law 528 = .ok (.if_icmp .eq 252, 3) := by decide +kernel
theorem dL_law_531 : decode cL_law 531 = .ok (.iconst 0, 1) := by decide +kernel
theorem dL_law_532 : decode cL_law 532 = .ok (.ireturn, 1) := by decide +kernel
theorem dL_law_533 : decode cL_law 533 = .ok (.aload_n 1, 1) := by decide +kernel
theorem dL_law_534 : decode cL_law 534 = .ok (.aload_n 0, 1) := by decide +kernel
theorem dL_law_535 : decode cL_law 535 = .ok (.iload_n 3, 1) := by decide +kernel
theorem dL_law_536 : decode cL_law 536 = .ok (.iconst 1, 1) := by decide +kernel
theorem dL_law_537 : decode cL_law 537 = .ok (.iadd, 1) := by decide +kernel
theorem dL_law_538 : decode cL_law 538 = .ok (.iaload, 1) := by decide +kernel
theorem dL_law_539 : decode cL_law 539 = .ok (.aload_n 0, 1) := by decide +kernel
theorem dL_law_540 : decode cL_law 540 = .ok (.iload_n 3, 1) := by decide +kernel
theorem dL_law_541 : decode cL_law 541 = .ok (.iconst 2, 1) := by decide +kernel
theorem dL_law_542 : decode cL_law 542 = .ok (.iadd, 1) := by decide +kernel
theorem dL_law_543 : decode cL_law 543 = .ok (.iaload, 1) := by decide +kernel
theorem dL_law_544 : decode cL_law 544 = .ok (.invokevirtual 84, 3) := by decide +kernel
theorem dL_law_547 : decode cL_law 547 = .ok (.aload_n 2, 1) := by decide +kernel
theorem dL_law_548 : decode cL_law 548 = .ok (.aload_n 0, 1) := by decide +kernel
theorem dL_law_549 : decode cL_law 549 = .ok (.iload_n 3, 1) := by decide +kernel
theorem dL_law_550 : decode cL_law 550 = .ok (.iconst 1, 1) := by decide +kernel
theorem dL_law_551 : decode cL_law 551 = .ok (.iadd, 1) := by decide +kernel
theorem dL_law_552 : decode cL_law 552 = .ok (.iaload, 1) := by decide +kernel
theorem dL_law_553 : decode cL_law 553 = .ok (.aload_n 0, 1) := by decide +kernel
theorem dL_law_554 : decode cL_law 554 = .ok (.iload_n 3, 1) := by decide +kernel
theorem dL_law_555 : decode cL_law 555 = .ok (.iconst 2, 1) := by decide +kernel
theorem dL_law_556 : decode cL_law 556 = .ok (.iadd, 1) := by decide +kernel
theorem dL_law_557 : decode cL_law 557 = .ok (.iaload, 1) := by decide +kernel
theorem dL_law_558 : decode cL_law 558 = .ok (.invokevirtual 87, 3) := by decide +kernel
theorem dL_law_561 : decode cL_law 561 = .ok (.if_icmp .eq 219, 3) := by decide +kernel
theorem dL_law_564 : decode cL_law 564 = .ok (.iconst 0, 1) := by decide +kernel
theorem dL_law_565 : decode cL_law 565 = .ok (.ireturn, 1) := by decide +kernel
theorem dL_law_566 : decode cL_law 566 = .ok (.aload_n 1, 1) := by decide +kernel
theorem dL_law_567 : decode cL_law 567 = .ok (.aload_n 0, 1) := by decide +kernel
theorem dL_law_568 : decode cL_law 568 = .ok (.iload_n 3, 1) := by decide +kernel
theorem dL_law_569 : decode cL_law 569 = .ok (.iconst 1, 1) := by decide +kernel
theorem dL_law_570 : decode cL_law 570 = .ok (.iadd, 1) := by decide +kernel
theorem dL_law_571 : decode cL_law 571 = .ok (.iaload, 1) := by decide +kernel
theorem dL_law_572 : decode cL_law 572 = .ok (.aload_n 0, 1) := by decide +kernel
theorem dL_law_573 : decode cL_law 573 = .ok (.iload_n 3, 1) := by decide +kernel
theorem dL_law_574 : decode cL_law 574 = .ok (.iconst 2, 1) := by decide +kernel
theorem dL_law_575 : decode cL_law 575 = .ok (.iadd, 1) := by decide +kernel
theorem dL_law_576 : decode cL_law 576 = .ok (.iaload, 1) := by decide +kernel
theorem dL_law_577 : decode cL_law 577 = .ok (.aload_n 0, 1) := by decide +kernel
theorem dL_law_578 : decode cL_law 578 = .ok (.iload_n 3, 1) := by decide +kernel
theorem dL_law_579 : decode cL_law 579 = .ok (.iconst 3, 1) := by decide +kernel
theorem dL_law_580 : decode cL_law 580 = .ok (.iadd, 1) := by decide +kernel
theorem dL_law_581 : decode cL_law 581 = .ok (.iaload, 1) := by decide +kernel
theorem dL_law_582 : decode cL_law 582 = .ok (.invokevirtual 88, 3) := by decide +kernel
theorem dL_law_585 : decode cL_law 585 = .ok (.aload_n 2, 1) := by decide +kernel
theorem dL_law_586 : decode cL_law 586 = .ok (.aload_n 0, 1) := by decide +kernel
theorem dL_law_587 : decode cL_law 587 = .ok (.iload_n 3, 1) := by decide +kernel
theorem dL_law_588 : decode cL_law 588 = .ok (.iconst 1, 1) := by decide +kernel
theorem dL_law_589 : decode cL_law 589 = .ok (.iadd, 1) := by decide +kernel
theorem dL_law_590 : decode cL_law 590 = .ok (.iaload, 1) := by decide +kernel
theorem dL_law_591 : decode cL_law 591 = .ok (.aload_n 0, 1) := by decide +kernel
theorem dL_law_592 : decode cL_law 592 = .ok (.iload_n 3, 1) := by decide +kernel
theorem dL_law_593 : decode cL_law 593 = .ok (.iconst 2, 1) := by decide +kernel
theorem dL_law_594 : decode cL_law 594 = .ok (.iadd, 1) := by decide +kernel
theorem dL_law_595 : decode cL_law 595 = .ok (.iaload, 1) := by decide +kernel
theorem dL_law_596 : decode cL_law 596 = .ok (.aload_n 0, 1) := by decide +kernel
theorem dL_law_597 : decode cL_law 597 = .ok (.iload_n 3, 1) := by decide +kernel
theorem dL_law_598 : decode cL_law 598 = .ok (.iconst 3, 1) := by decide +kernel
theorem dL_law_599 : decode cL_law 599 = .ok (.iadd, 1) := by decide +kernel
theorem dL_law_600 : decode cL_law 600 = .ok (.iaload, 1) := by decide +kernel
theorem dL_law_601 : decode cL_law 601 = .ok (.invokevirtual 92, 3) := by decide +kernel
theorem dL_law_604 : decode cL_law 604 = .ok (.if_icmp .eq 176, 3) := by decide +kernel
theorem dL_law_607 : decode cL_law 607 = .ok (.iconst 0, 1) := by decide +kernel
theorem dL_law_608 : decode cL_law 608 = .ok (.ireturn, 1) := by decide +kernel
theorem dL_law_609 : decode cL_law 609 = .ok (.aload_n 1, 1) := by decide +kernel
theorem dL_law_610 : decode cL_law 610 = .ok (.aload_n 0, 1) := by decide +kernel
theorem dL_law_611 : decode cL_law 611 = .ok (.iload_n 3, 1) := by decide +kernel
theorem dL_law_612 : decode cL_law 612 = .ok (.iconst 1, 1) := by decide +kernel
theorem dL_law_613 : decode cL_law 613 = .ok (.iadd, 1) := by decide +kernel
theorem dL_law_614 : decode cL_law 614 = .ok (.iaload, 1) := by decide +kernel
theorem dL_law_615 : decode cL_law 615 = .ok (.aload_n 0, 1) := by decide +kernel
theorem dL_law_616 : decode cL_law 616 = .ok (.iload_n 3, 1) := by decide +kernel
theorem dL_law_617 : decode cL_law 617 = .ok (.iconst 2, 1) := by decide +kernel
theorem dL_law_618 : decode cL_law 618 = .ok (.iadd, 1) := by decide +kernel
theorem dL_law_619 : decode cL_law 619 = .ok (.iaload, 1) := by decide +kernel
theorem dL_law_620 : decode cL_law 620 = .ok (.invokevirtual 93, 3) := by decide +kernel
theorem dL_law_623 : decode cL_law 623 = .ok (.aload_n 2, 1) := by decide +kernel
theorem dL_law_624 : decode cL_law 624 = .ok (.aload_n 0, 1) := by decide +kernel
theorem dL_law_625 : decode cL_law 625 = .ok (.iload_n 3, 1) := by decide +kernel
theorem dL_law_626 : decode cL_law 626 = .ok (.iconst 1, 1) := by decide +kernel
theorem dL_law_627 : decode cL_law 627 = .ok (.iadd, 1) := by decide +kernel
theorem dL_law_628 : decode cL_law 628 = .ok (.iaload, 1) := by decide +kernel
theorem dL_law_629 : decode cL_law 629 = .ok (.aload_n 0, 1) := by decide +kernel
theorem dL_law_630 : decode cL_law 630 = .ok (.iload_n 3, 1) := by decide +kernel
theorem dL_law_631 : decode cL_law 631 = .ok (.iconst 2, 1) := by decide +kernel
theorem dL_law_632 : decode cL_law 632 = .ok (.iadd, 1) := by decide +kernel
theorem dL_law_633 : decode cL_law 633 = .ok (.iaload, 1) := by decide +kernel
theorem dL_law_634 : decode cL_law 634 = .ok (.invokevirtual 96, 3) := by decide +kernel
theorem dL_law_637 : decode cL_law 637 = .ok (.if_icmp .eq 143, 3) := by decide +kernel
theorem dL_law_640 : decode cL_law 640 = .ok (.iconst 0, 1) := by decide +kernel
theorem dL_law_641 : decode cL_law 641 = .ok (.ireturn, 1) := by decide +kernel
theorem dL_law_642 : decode cL_law 642 = .ok (.aload_n 1, 1) := by decide +kernel
theorem dL_law_643 : decode cL_law 643 = .ok (.aload_n 0, 1) := by decide +kernel
theorem dL_law_644 : decode cL_law 644 = .ok (.iload_n 3, 1) := by decide +kernel
theorem dL_law_645 : decode cL_law 645 = .ok (.iconst 1, 1) := by decide +kernel
theorem dL_law_646 : decode cL_law 646 = .ok (.iadd, 1) := by decide +kernel
theorem dL_law_647 : decode cL_law 647 = .ok (.iaload, 1) := by decide +kernel
theorem dL_law_648 : decode cL_law 648 = .ok (.invokevirtual 97, 3) := by decide +kernel
theorem dL_law_651 : decode cL_law 651 = .ok (.aload_n 2, 1) := by decide +kernel
theorem dL_law_652 : decode cL_law 652 = .ok (.aload_n 0, 1) := by decide +kernel
theorem dL_law_653 : decode cL_law 653 = .ok (.iload_n 3, 1) := by decide +kernel
theorem dL_law_654 : decode cL_law 654 = .ok (.iconst 1, 1) := by decide +kernel
theorem dL_law_655 : decode cL_law 655 = .ok (.iadd, 1) := by decide +kernel
theorem dL_law_656 : decode cL_law 656 = .ok (.iaload, 1) := by decide +kernel
theorem dL_law_657 : decode cL_law 657 = .ok (.invokevirtual 100, 3) := by decide +kernel
theorem dL_law_660 : decode cL_law 660 = .ok (.if_icmp .eq 120, 3) := by decide +kernel
theorem dL_law_663 : decode cL_law 663 = .ok (.iconst 0, 1) := by decide +kernel
theorem dL_law_664 : decode cL_law 664 = .ok (.ireturn, 1) := by decide +kernel
theorem dL_law_665 : decode cL_law 665 = .ok (.aload_n 1, 1) := by decide +kernel
theorem dL_law_666 : decode cL_law 666 = .ok (.aload_n 0, 1) := by decide +kernel
theorem dL_law_667 : decode cL_law 667 = .ok (.iload_n 3, 1) := by decide +kernel
theorem dL_law_668 : decode cL_law 668 = .ok (.iconst 1, 1) := by decide +kernel
theorem dL_law_669 : decode cL_law 669 = .ok (.iadd, 1) := by decide +kernel
theorem dL_law_670 : decode cL_law 670 = .ok (.iaload, 1) := by decide +kernel
theorem dL_law_671 : decode cL_law 671 = .ok (.invokevirtual 101, 3) := by decide +kernel
theorem dL_law_674 : decode cL_law 674 = .ok (.aload_n 2, 1) := by decide +kernel
theorem dL_law_675 : decode cL_law 675 = .ok (.aload_n 0, 1) := by decide +kernel
theorem dL_law_676 : decode cL_law 676 = .ok (.iload_n 3, 1) := by decide +kernel
theorem dL_law_677 : decode cL_law 677 = .ok (.iconst 1, 1) := by decide +kernel
theorem dL_law_678 : decode cL_law 678 = .ok (.iadd, 1) := by decide +kernel
theorem dL_law_679 : decode cL_law 679 = .ok (.iaload, 1) := by decide +kernel
theorem dL_law_680 : decode cL_law 680 = .ok (.invokevirtual 104, 3) := by decide +kernel
theorem dL_law_683 : decode cL_law 683 = .ok (.if_icmp .eq 97, 3) := by decide +kernel
theorem dL_law_686 : decode cL_law 686 = .ok (.iconst 0, 1) := by decide +kernel
theorem dL_law_687 : decode cL_law 687 = .ok (.ireturn, 1) := by decide +kernel
theorem dL_law_688 : decode cL_law 688 = .ok (.aload_n 1, 1) := by decide +kernel
theorem dL_law_689 : decode cL_law 689 = .ok (.aload_n 0, 1) := by decide +kernel
theorem dL_law_690 : decode cL_law 690 = .ok (.iload_n 3, 1) := by decide +kernel
theorem dL_law_691 : decode cL_law 691 = .ok (.iconst 1, 1) := by decide +kernel
theorem dL_law_692 : decode cL_law 692 = .ok (.iadd, 1) := by decide +kernel
theorem dL_law_693 : decode cL_law 693 = .ok (.iaload, 1) := by decide +kernel
theorem dL_law_694 : decode cL_law 694 = .ok (.aload_n 0, 1) := by decide +kernel
theorem dL_law_695 : decode cL_law 695 = .ok (.iload_n 3, 1) := by decide +kernel
theorem dL_law_696 : decode cL_law 696 = .ok (.iconst 2, 1) := by decide +kernel
theorem dL_law_697 : decode cL_law 697 = .ok (.iadd, 1) := by decide +kernel
theorem dL_law_698 : decode cL_law 698 = .ok (.iaload, 1) := by decide +kernel
theorem dL_law_699 : decode cL_law 699 = .ok (.aload_n 0, 1) := by decide +kernel
theorem dL_law_700 : decode cL_law 700 = .ok (.iload_n 3, 1) := by decide +kernel
theorem dL_law_701 : decode cL_law 701 = .ok (.iconst 3, 1) := by decide +kernel
theorem dL_law_702 : decode cL_law 702 = .ok (.iadd, 1) := by decide +kernel
theorem dL_law_703 : decode cL_law 703 = .ok (.iaload, 1) := by decide +kernel
theorem dL_law_704 : decode cL_law 704 = .ok (.invokevirtual 105, 3) := by decide +kernel
theorem dL_law_707 : decode cL_law 707 = .ok (.aload_n 2, 1) := by decide +kernel
theorem dL_law_708 : decode cL_law 708 = .ok (.aload_n 0, 1) := by decide +kernel
theorem dL_law_709 : decode cL_law 709 = .ok (.iload_n 3, 1) := by decide +kernel
theorem dL_law_710 : decode cL_law 710 = .ok (.iconst 1, 1) := by decide +kernel
theorem dL_law_711 : decode cL_law 711 = .ok (.iadd, 1) := by decide +kernel
theorem dL_law_712 : decode cL_law 712 = .ok (.iaload, 1) := by decide +kernel
theorem dL_law_713 : decode cL_law 713 = .ok (.aload_n 0, 1) := by decide +kernel
theorem dL_law_714 : decode cL_law 714 = .ok (.iload_n 3, 1) := by decide +kernel
theorem dL_law_715 : decode cL_law 715 = .ok (.iconst 2, 1) := by decide +kernel
theorem dL_law_716 : decode cL_law 716 = .ok (.iadd, 1) := by decide +kernel
theorem dL_law_717 : decode cL_law 717 = .ok (.iaload, 1) := by decide +kernel
theorem dL_law_718 : decode cL_law 718 = .ok (.aload_n 0, 1) := by decide +kernel
theorem dL_law_719 : decode cL_law 719 = .ok (.iload_n 3, 1) := by decide +kernel
theorem dL_law_720 : decode cL_law 720 = .ok (.iconst 3, 1) := by decide +kernel
theorem dL_law_721 : decode cL_law 721 = .ok (.iadd, 1) := by decide +kernel
theorem dL_law_722 : decode cL_law 722 = .ok (.iaload, 1) := by decide +kernel
theorem dL_law_723 : decode cL_law 723 = .ok (.invokevirtual 108, 3) := by decide +kernel
theorem dL_law_726 : decode cL_law 726 = .ok (.if_icmp .eq 54, 3) := by decide +kernel
theorem dL_law_729 : decode cL_law 729 = .ok (.iconst 0, 1) := by decide +kernel
theorem dL_law_730 : decode cL_law 730 = .ok (.ireturn, 1) := by decide +kernel
theorem dL_law_731 : decode cL_law 731 = .ok (.aload_n 1, 1) := by decide +kernel
theorem dL_law_732 : decode cL_law 732 = .ok (.invokevirtual 109, 3) := by decide +kernel
theorem dL_law_735 : decode cL_law 735 = .ok (.aload_n 2, 1) := by decide +kernel
theorem dL_law_736 : decode cL_law 736 = .ok (.invokevirtual 112, 3) := by decide +kernel
theorem dL_law_739 : decode cL_law 739 = .ok (.if_icmp .eq 41, 3) := by decide +kernel
theorem dL_law_742 : decode cL_law 742 = .ok (.iconst 0, 1) := by decide +kernel
theorem dL_law_743 : decode cL_law 743 = .ok (.ireturn, 1) := by decide +kernel
theorem dL_law_744 : decode cL_law 744 = .ok (.aload_n 1, 1) := by decide +kernel
theorem dL_law_745 : decode cL_law 745 = .ok (.invokevirtual 113, 3) := by decide +kernel
theorem dL_law_748 : decode cL_law 748 = .ok (.aload_n 2, 1) := by decide +kernel
theorem dL_law_749 : decode cL_law 749 = .ok (.invokevirtual 116, 3) := by decide +kernel
theorem dL_law_752 : decode cL_law 752 = .ok (.if_icmp .eq 28, 3) := by decide +kernel
theorem dL_law_755 : decode cL_law 755 = .ok (.iconst 0, 1) := by decide +kernel
theorem dL_law_756 : decode cL_law 756 = .ok (.ireturn, 1) := by decide +kernel
theorem dL_law_757 : decode cL_law 757 = .ok (.aload_n 1, 1) := by decide +kernel
theorem dL_law_758 : decode cL_law 758 = .ok (.aload_n 0, 1) := by decide +kernel
theorem dL_law_759 : decode cL_law 759 = .ok (.iload_n 3, 1) := by decide +kernel
theorem dL_law_760 : decode cL_law 760 = .ok (.iconst 1, 1) := by decide +kernel
theorem dL_law_761 : decode cL_law 761 = .ok (.iadd, 1) := by decide +kernel
theorem dL_law_762 : decode cL_law 762 = .ok (.iaload, 1) := by decide +kernel
theorem dL_law_763 : decode cL_law 763 = .ok (.invokevirtual 117, 3) := by decide +kernel
theorem dL_law_766 : decode cL_law 766 = .ok (.aload_n 2, 1) := by decide +kernel
theorem dL_law_767 : decode cL_law 767 = .ok (.aload_n 0, 1) := by decide +kernel
theorem dL_law_768 : decode cL_law 768 = .ok (.iload_n 3, 1) := by decide +kernel
theorem dL_law_769 : decode cL_law 769 = .ok (.iconst 1, 1) := by decide +kernel
theorem dL_law_770 : decode cL_law 770 = .ok (.iadd, 1) := by decide +kernel
theorem dL_law_771 : decode cL_law 771 = .ok (.iaload, 1) := by decide +kernel
theorem dL_law_772 : decode cL_law 772 = .ok (.invokevirtual 120, 3) := by decide +kernel
theorem dL_law_775 : decode cL_law 775 = .ok (.if_icmp .eq 5, 3) := by decide +kernel
theorem dL_law_778 : decode cL_law 778 = .ok (.iconst 0, 1) := by decide +kernel
theorem dL_law_779 : decode cL_law 779 = .ok (.ireturn, 1) := by decide +kernel
theorem dL_law_780 : decode cL_law 780 = .ok (.iinc 3 4, 3) := by decide +kernel
theorem dL_law_783 : decode cL_law 783 = .ok (.goto (-765), 3) := by decide +kernel
theorem dL_law_786 : decode cL_law 786 = .ok (.iconst 1, 1) := by decide +kernel
theorem dL_law_787 : decode cL_law 787 = .ok (.ireturn, 1) := by decide +kernel
end
section
theorem dX4_init_0 : decode cX4_init 0 = .ok (.aload_n 0, 1) := by decide +kernel
theorem dX4_init_1 : decode cX4_init 1 = .ok (.invokespecial 1, 3) := by decide +kernel
theorem dX4_init_4 : decode cX4_init 4 = .ok (.aload_n 0, 1) := by decide +kernel
theorem dX4_init_5 : decode cX4_init 5 = .ok (.new 7, 3) := by decide +kernel
theorem dX4_init_8 : decode cX4_init 8 = .ok (.dup, 1) := by decide +kernel
theorem dX4_init_9 : decode cX4_init 9 = .ok (.invokespecial 9, 3) := by decide +kernel
theorem dX4_init_12 : decode cX4_init 12 = .ok (.putfield 10, 3) := by decide +kernel
theorem dX4_init_15 : decode cX4_init 15 = .ok (.aload_n 0, 1) := by decide +kernel
theorem dX4_init_16 : decode cX4_init 16 = .ok (.new 16, 3) := by decide +kernel
theorem dX4_init_19 : decode cX4_init 19 = .ok (.dup, 1) := by decide +kernel
theorem dX4_init_20 : decode cX4_init 20 = .ok (.invokespecial 18, 3) := by decide +kernel
theorem dX4_init_23 : decode cX4_init 23 = .ok (.putfield 19, 3) := by decide +kernel
theorem dX4_init_26 : decode cX4_init 26 = .ok (.aload_n 0, 1) := by decide +kernel
theorem dX4_init_27 : decode cX4_init 27 = .ok (.new 16, 3) := by decide +kernel
theorem dX4_init_30 : decode cX4_init 30 = .ok (.dup, 1) := by decide +kernel
theorem dX4_init_31 : decode cX4_init 31 = .ok (.invokespecial 18, 3) := by decide +kernel
theorem dX4_init_34 : decode cX4_init 34 = .ok (.putfield 23, 3) := by decide +kernel
theorem dX4_init_37 : decode cX4_init 37 = .ok (.aload_n 0, 1) := by decide +kernel
theorem dX4_init_38 : decode cX4_init 38 = .ok (.new 26, 3) := by decide +kernel
theorem dX4_init_41 : decode cX4_init 41 = .ok (.dup, 1) := by decide +kernel
theorem dX4_init_42 : decode cX4_init 42 = .ok (.invokespecial 28, 3) := by decide +kernel
theorem dX4_init_45 : decode cX4_init 45 = .ok (.putfield 29, 3) := by decide +kernel
theorem dX4_init_48 : decode cX4_init 48 = .ok (.aload_n 0, 1) := by decide +kernel
theorem dX4_init_49 : decode cX4_init 49 = .ok (.new 26, 3) := by decide +kernel
theorem dX4_init_52 : decode cX4_init 52 = .ok (.dup, 1) := by decide +kernel
theorem dX4_init_53 : decode cX4_init 53 = .ok (.invokespecial 28, 3) := by decide +kernel
theorem dX4_init_56 : decode cX4_init 56 = .ok (.putfield 33, 3) := by decide +kernel
theorem dX4_init_59 : decode cX4_init 59 = .ok (.aload_n 0, 1) := by decide +kernel
theorem dX4_init_60 : decode cX4_init 60 = .ok (.new 36, 3) := by decide +kernel
theorem dX4_init_63 : decode cX4_init 63 = .ok (.dup, 1) := by decide +kernel
theorem dX4_init_64 : decode cX4_init 64 = .ok (.bipush 8, 2) := by decide +kernel
theorem dX4_init_66 : decode cX4_init 66 = .ok (.invokespecial 38, 3) := by decide +kernel
theorem dX4_init_69 : decode cX4_init 69 = .ok (.putfield 41, 3) := by decide +kernel
theorem dX4_init_72 : decode cX4_init 72 = .ok (.aload_n 0, 1) := by decide +kernel
theorem dX4_init_73 : decode cX4_init 73 = .ok (.new 36, 3) := by decide +kernel
theorem dX4_init_76 : decode cX4_init 76 = .ok (.dup, 1) := by decide +kernel
theorem dX4_init_77 : decode cX4_init 77 = .ok (.iconst 2, 1) := by decide +kernel
theorem dX4_init_78 : decode cX4_init 78 = .ok (.invokespecial 38, 3) := by decide +kernel
theorem dX4_init_81 : decode cX4_init 81 = .ok (.putfield 45, 3) := by decide +kernel
theorem dX4_init_84 : decode cX4_init 84 = .ok (.aload_n 0, 1) := by decide +kernel
theorem dX4_init_85 : decode cX4_init 85 = .ok (.bipush 8, 2) := by decide +kernel
theorem dX4_init_87 : decode cX4_init 87 = .ok (.newarray .int, 2) := by decide +kernel
theorem dX4_init_89 : decode cX4_init 89 = .ok (.putfield 48, 3) := by decide +kernel
theorem dX4_init_92 : decode cX4_init 92 = .ok (.aload_n 0, 1) := by decide +kernel
theorem dX4_init_93 : decode cX4_init 93 = .ok (.bipush 8, 2) := by decide +kernel
theorem dX4_init_95 : decode cX4_init 95 = .ok (.newarray .int, 2) := by decide +kernel
theorem dX4_init_97 : decode cX4_init 97 = .ok (.putfield 52, 3) := by decide +kernel
theorem dX4_init_100 : decode cX4_init 100 = .ok (.aload_n 0, 1) := by decide +kernel
theorem dX4_init_101 : decode cX4_init 101 = .ok (.iconst 3, 1) := by decide +kernel
theorem dX4_init_102 : decode cX4_init 102 = .ok (.newarray .int, 2) := by decide +kernel
theorem dX4_init_104 : decode cX4_init 104 = .ok (.putfield 55, 3) := by decide +kernel
theorem dX4_init_107 : decode cX4_init 107 = .ok (.iconst 0, 1) := by decide +kernel
theorem dX4_init_108 : decode cX4_init 108 = .ok (.istore_n 1, 1) := by decide +kernel
theorem dX4_init_109 : decode cX4_init 109 = .ok (.iload_n 1, 1) := by decide +kernel
theorem dX4_init_110 : decode cX4_init 110 = .ok (.ldc 58, 2) := by decide +kernel
theorem dX4_init_112 : decode cX4_init 112 = .ok (.invokevirtual 60, 3) := by decide +kernel
theorem dX4_init_115 : decode cX4_init 115 = .ok (.if_icmp .ge 23, 3) := by decide +kernel
theorem dX4_init_118 : decode cX4_init 118 = .ok (.aload_n 0, 1) := by decide +kernel
theorem dX4_init_119 : decode cX4_init 119 = .ok (.getfield 10, 3) := by decide +kernel
theorem dX4_init_122 : decode cX4_init 122 = .ok (.ldc 58, 2) := by decide +kernel
theorem dX4_init_124 : decode cX4_init 124 = .ok (.iload_n 1, 1) := by decide +kernel
theorem dX4_init_125 : decode cX4_init 125 = .ok (.invokevirtual 66, 3) := by decide +kernel
theorem dX4_init_128 : decode cX4_init 128 = .ok (.invokevirtual 70, 3) := by decide +kernel
theorem dX4_init_131 : decode cX4_init 131 = .ok (.pop, 1) := by decide +kernel
theorem dX4_init_132 : decode cX4_init 132 = .ok (.iinc 1 1, 3) := by decide +kernel
theorem dX4_init_135 : decode cX4_init 135 = .ok (.goto (-26), 3) := by decide +kernel
theorem dX4_init_138 : decode cX4_init 138 = .ok (.aload_n 0, 1) := by decide +kernel
theorem dX4_init_139 : decode cX4_init 139 = .ok (.invokevirtual 74, 3) := by decide +kernel
theorem dX4_init_142 : decode cX4_init 142 = .ok (.pop, 1) := by decide +kernel
theorem dX4_init_143 : decode cX4_init 143 = .ok (.aload_n 0, 1) := by decide +kernel
theorem dX4_init_144 : decode cX4_init 144 = .ok (.getfield 10, 3) := by decide +kernel
theorem dX4_init_147 : decode cX4_init 147 = .ok (.invokevirtual 78, 3) := by decide +kernel
theorem dX4_init_150 : decode cX4_init 150 = .ok (.return_, 1) := by decide +kernel
theorem dX4_write_0 : decode cX4_write 0 = .ok (.iload_n 1, 1) := by decide +kernel
theorem dX4_write_1 : decode cX4_write 1 = .ok (.bipush 32, 2) := by decide +kernel
theorem dX4_write_3 : decode cX4_write 3 = .ok (.if_icmp .lt 9, 3) := by decide +kernel
theorem dX4_write_6 : decode cX4_write 6 = .ok (.iload_n 1, 1) := by decide +kernel
theorem dX4_write_7 : decode cX4_write 7 = .ok (.bipush 126, 2) := by decide +kernel
theorem dX4_write_9 : decode cX4_write 9 = .ok (.if_icmp .le 5, 3) := by decide +kernel
theorem dX4_write_12 : decode cX4_write 12 = .ok (.iconst (-1), 1) := by decide +kernel
theorem dX4_write_13 : decode cX4_write 13 = .ok (.ireturn, 1) := by decide +kernel
theorem dX4_write_14 : decode cX4_write 14 = .ok (.aload_n 0, 1) := by decide +kernel
theorem dX4_write_15 : decode cX4_write 15 = .ok (.getfield 10, 3) := by decide +kernel
theorem dX4_write_18 : decode cX4_write 18 = .ok (.iload_n 1, 1) := by decide +kernel
theorem dX4_write_19 : decode cX4_write 19 = .ok (.i2c, 1) := by decide +kernel
theorem dX4_write_20 : decode cX4_write 20 = .ok (.invokevirtual 70, 3) := by decide +kernel
theorem dX4_write_23 : decode cX4_write 23 = .ok (.ifCond .eq 13, 3) := by decide +kernel
theorem dX4_write_26 : decode cX4_write 26 = .ok (.aload_n 0, 1) := by decide +kernel
theorem dX4_write_27 : decode cX4_write 27 = .ok (.getfield 10, 3) := by decide +kernel
theorem dX4_write_30 : decode cX4_write 30 = .ok (.getfield 81, 3) := by decide +kernel
theorem dX4_write_33 : decode cX4_write 33 = .ok (.goto 5, 3) := by decide +kernel
theorem dX4_write_36 : decode cX4_write 36 = .ok (.bipush (-3), 2) := by decide +kernel
theorem dX4_write_38 : decode cX4_write 38 = .ok (.ireturn, 1) := by decide +kernel
theorem dX4_wipe_0 : decode cX4_wipe 0 = .ok (.aload_n 0, 1) := by decide +kernel
theorem dX4_wipe_1 : decode cX4_wipe 1 = .ok (.getfield 10, 3) := by decide +kernel
theorem dX4_wipe_4 : decode cX4_wipe 4 = .ok (.getfield 81, 3) := by decide +kernel
theorem dX4_wipe_7 : decode cX4_wipe 7 = .ok (.istore_n 1, 1) := by decide +kernel
theorem dX4_wipe_8 : decode cX4_wipe 8 = .ok (.aload_n 0, 1) := by decide +kernel
theorem dX4_wipe_9 : decode cX4_wipe 9 = .ok (.getfield 10, 3) := by decide +kernel
theorem dX4_wipe_12 : decode cX4_wipe 12 = .ok (.invokevirtual 78, 3) := by decide +kernel
theorem dX4_wipe_15 : decode cX4_wipe 15 = .ok (.iload_n 1, 1) := by decide +kernel
theorem dX4_wipe_16 : decode cX4_wipe 16 = .ok (.ireturn, 1) := by decide +kernel
theorem dX4_fault_0 : decode cX4_fault 0 = .ok (.aload_n 0, 1) := by decide +kernel
theorem dX4_fault_1 : decode cX4_fault 1 = .ok (.getfield 10, 3) := by decide +kernel
theorem dX4_fault_4 : decode cX4_fault 4 = .ok (.aload_n 0, 1) := by decide +kernel
theorem dX4_fault_5 : decode cX4_fault 5 = .ok (.getfield 23, 3) := by decide +kernel
theorem dX4_fault_8 : decode cX4_fault 8 = .ok (.invokevirtual 84, 3) := by decide +kernel
theorem dX4_fault_11 : decode cX4_fault 11 = .ok (.ireturn, 1) := by decide +kernel
theorem dX4_lay_0 : decode cX4_lay 0 = .ok (.aload_n 0, 1) := by decide +kernel
theorem dX4_lay_1 : decode cX4_lay 1 = .ok (.invokevirtual 74, 3) := by decide +kernel
theorem dX4_lay_4 : decode cX4_lay 4 = .ok (.ifCond .eq 13, 3) := by decide +kernel
theorem dX4_lay_7 : decode cX4_lay 7 = .ok (.aload_n 0, 1) := by decide +kernel
theorem dX4_lay_8 : decode cX4_lay 8 = .ok (.getfield 19, 3) := by decide +kernel
theorem dX4_lay_11 : decode cX4_lay 11 = .ok (.getfield 88, 3) := by decide +kernel
theorem dX4_lay_14 : decode cX4_lay 14 = .ok (.goto 5, 3) := by decide +kernel
theorem dX4_lay_17 : decode cX4_lay 17 = .ok (.bipush (-2), 2) := by decide +kernel
theorem dX4_lay_19 : decode cX4_lay 19 = .ok (.ireturn, 1) := by decide +kernel
theorem dX4_man_0 : decode cX4_man 0 = .ok (.aload_n 0, 1) := by decide +kernel
theorem dX4_man_1 : decode cX4_man 1 = .ok (.iload_n 1, 1) := by decide +kernel
theorem dX4_man_2 : decode cX4_man 2 = .ok (.invokevirtual 91, 3) := by decide +kernel
theorem dX4_man_5 : decode cX4_man 5 = .ok (.ifCond .ne 5, 3) := by decide +kernel
theorem dX4_man_8 : decode cX4_man 8 = .ok (.iconst (-1), 1) := by decide +kernel
theorem dX4_man_9 : decode cX4_man 9 = .ok (.ireturn, 1) := by decide +kernel
theorem dX4_man_10 : decode cX4_man 10 = .ok (.iload_n 2, 1) := by decide +kernel
theorem dX4_man_11 : decode cX4_man 11 = .ok (.tableswitch 83 0 4 #[33, 43, 53, 63, 73], 33) := by decide +kernel
theorem dX4_man_44 : decode cX4_man 44 = .ok (.aload_n 0, 1) := by decide +kernel
theorem dX4_man_45 : decode cX4_man 45 = .ok (.getfield 19, 3) := by decide +kernel
theorem dX4_man_48 : decode cX4_man 48 = .ok (.getfield 95, 3) := by decide +kernel
theorem dX4_man_51 : decode cX4_man 51 = .ok (.iload_n 1, 1) := by decide +kernel
theorem dX4_man_52 : decode cX4_man 52 = .ok (.iaload, 1) := by decide +kernel
theorem dX4_man_53 : decode cX4_man 53 = .ok (.ireturn, 1) := by decide +kernel
theorem dX4_man_54 : decode cX4_man 54 = .ok (.aload_n 0, 1) := by decide +kernel
theorem dX4_man_55 : decode cX4_man 55 = .ok (.getfield 29, 3) := by decide +kernel
theorem dX4_man_58 : decode cX4_man 58 = .ok (.getfield 98, 3) := by decide +kernel
theorem dX4_man_61 : decode cX4_man 61 = .ok (.iload_n 1, 1) := by decide +kernel
theorem dX4_man_62 : decode cX4_man 62 = .ok (.iaload, 1) := by decide +kernel
theorem dX4_man_63 : decode cX4_man 63 = .ok (.ireturn, 1) := by decide +kernel
theorem dX4_man_64 : decode cX4_man 64 = .ok (.aload_n 0, 1) := by decide +kernel
theorem dX4_man_65 : decode cX4_man 65 = .ok (.getfield 29, 3) := by decide +kernel
theorem dX4_man_68 : decode cX4_man 68 = .ok (.getfield 101, 3) := by decide +kernel
theorem dX4_man_71 : decode cX4_man 71 = .ok (.iload_n 1, 1) := by decide +kernel
theorem dX4_man_72 : decode cX4_man 72 = .ok (.iaload, 1) := by decide +kernel
theorem dX4_man_73 : decode cX4_man 73 = .ok (.ireturn, 1) := by decide +kernel
theorem dX4_man_74 : decode cX4_man 74 = .ok (.aload_n 0, 1) := by decide +kernel
theorem dX4_man_75 : decode cX4_man 75 = .ok (.getfield 19, 3) := by decide +kernel
theorem dX4_man_78 : decode cX4_man 78 = .ok (.getfield 104, 3) := by decide +kernel
theorem dX4_man_81 : decode cX4_man 81 = .ok (.iload_n 1, 1) := by decide +kernel
theorem dX4_man_82 : decode cX4_man 82 = .ok (.iaload, 1) := by decide +kernel
theorem dX4_man_83 : decode cX4_man 83 = .ok (.ireturn, 1) := by decide +kernel
theorem dX4_man_84 : decode cX4_man 84 = .ok (.aload_n 0, 1) := by decide +kernel
theorem dX4_man_85 : decode cX4_man 85 = .ok (.aload_n 0, 1) := by decide +kernel
theorem dX4_man_86 : decode cX4_man 86 = .ok (.getfield 29, 3) := by decide +kernel
theorem dX4_man_89 : decode cX4_man 89 = .ok (.iload_n 1, 1) := by decide +kernel
theorem dX4_man_90 : decode cX4_man 90 = .ok (.invokevirtual 107, 3) := by decide +kernel
theorem dX4_man_93 : decode cX4_man 93 = .ok (.ireturn, 1) := by decide +kernel
theorem dX4_man_94 : decode cX4_man 94 = .ok (.iconst (-1), 1) := by decide +kernel
theorem dX4_man_95 : decode cX4_man 95 = .ok (.ireturn, 1) := by decide +kernel
theorem dX4_word_0 : decode cX4_word 0 = .ok (.iload_n 1, 1) := by decide +kernel
theorem dX4_word_1 : decode cX4_word 1 = .ok (.invokestatic 111, 3) := by decide +kernel
theorem dX4_word_4 : decode cX4_word 4 = .ok (.ifCond .ne 5, 3) := by decide +kernel
theorem dX4_word_7 : decode cX4_word 7 = .ok (.iconst (-1), 1) := by decide +kernel
theorem dX4_word_8 : decode cX4_word 8 = .ok (.ireturn, 1) := by decide +kernel
theorem dX4_word_9 : decode cX4_word 9 = .ok (.aload_n 0, 1) := by decide +kernel
theorem dX4_word_10 : decode cX4_word 10 = .ok (.getfield 29, 3) := by decide +kernel
theorem dX4_word_13 : decode cX4_word 13 = .ok (.getfield 114, 3) := by decide +kernel
theorem dX4_word_16 : decode cX4_word 16 = .ok (.sipush 999, 3) := by decide +kernel
theorem dX4_word_19 : decode cX4_word 19 = .ok (.if_icmp .lt 6, 3) := by decide +kernel
theorem dX4_word_22 : decode cX4_word 22 = .ok (.bipush (-2), 2) := by decide +kernel
theorem dX4_word_24 : decode cX4_word 24 = .ok (.ireturn, 1) := by decide +kernel
theorem dX4_word_25 : decode cX4_word 25 = .ok (.aload_n 0, 1) := by decide +kernel
theorem dX4_word_26 : decode cX4_word 26 = .ok (.getfield 41, 3) := by decide +kernel
theorem dX4_word_29 : decode cX4_word 29 = .ok (.aload_n 0, 1) := by decide +kernel
theorem dX4_word_30 : decode cX4_word 30 = .ok (.getfield 29, 3) := by decide +kernel
theorem dX4_word_33 : decode cX4_word 33 = .ok (.invokevirtual 117, 3) := by decide +kernel
theorem dX4_word_36 : decode cX4_word 36 = .ok (.aload_n 0, 1) := by decide +kernel
theorem dX4_word_37 : decode cX4_word 37 = .ok (.invokevirtual 121, 3) := by decide +kernel
theorem dX4_word_40 : decode cX4_word 40 = .ok (.aload_n 0, 1) := by decide +kernel
theorem dX4_word_41 : decode cX4_word 41 = .ok (.aload_n 0, 1) := by decide +kernel
theorem dX4_word_42 : decode cX4_word 42 = .ok (.getfield 29, 3) := by decide +kernel
theorem dX4_word_45 : decode cX4_word 45 = .ok (.iload_n 1, 1) := by decide +kernel
theorem dX4_word_46 : decode cX4_word 46 = .ok (.invokevirtual 124, 3) := by decide +kernel
theorem dX4_word_49 : decode cX4_word 49 = .ok (.aload_n 0, 1) := by decide +kernel
theorem dX4_word_50 : decode cX4_word 50 = .ok (.aload_n 0, 1) := by decide +kernel
theorem dX4_word_51 : decode cX4_word 51 = .ok (.getfield 29, 3) := by decide +kernel
theorem dX4_word_54 : decode cX4_word 54 = .ok (.invokevirtual 128, 3) := by decide +kernel
theorem dX4_word_57 : decode cX4_word 57 = .ok (.invokestatic 132, 3) := by decide +kernel
theorem dX4_word_60 : decode cX4_word 60 = .ok (.ireturn, 1) := by decide +kernel
theorem dX4_shout_0 : decode cX4_shout 0 = .ok (.aload_n 0, 1) := by decide +kernel
theorem dX4_shout_1 : decode cX4_shout 1 = .ok (.iload_n 1, 1) := by decide +kernel
theorem dX4_shout_2 : decode cX4_shout 2 = .ok (.invokevirtual 91, 3) := by decide +kernel
theorem dX4_shout_5 : decode cX4_shout 5 = .ok (.ifCond .ne 5, 3) := by decide +kernel
theorem dX4_shout_8 : decode cX4_shout 8 = .ok (.iconst (-1), 1) := by decide +kernel
theorem dX4_shout_9 : decode cX4_shout 9 = .ok (.ireturn, 1) := by decide +kernel
theorem dX4_shout_10 : decode cX4_shout 10 = .ok (.aload_n 0, 1) := by decide +kernel
theorem dX4_shout_11 : decode cX4_shout 11 = .ok (.getfield 41, 3) := by decide +kernel
theorem dX4_shout_14 : decode cX4_shout 14 = .ok (.aload_n 0, 1) := by decide +kernel
theorem dX4_shout_15 : decode cX4_shout 15 = .ok (.getfield 29, 3) := by decide +kernel
theorem dX4_shout_18 : decode cX4_shout 18 = .ok (.invokevirtual 117, 3) := by decide +kernel
theorem dX4_shout_21 : decode cX4_shout 21 = .ok (.iconst 0, 1) := by decide +kernel
theorem dX4_shout_22 : decode cX4_shout 22 = .ok (.istore_n 2, 1) := by decide +kernel
theorem dX4_shout_23 : decode cX4_shout 23 = .ok (.iconst 0, 1) := by decide +kernel
theorem dX4_shout_24 : decode cX4_shout 24 = .ok (.istore_n 3, 1) := by decide +kernel
theorem dX4_shout_25 : decode cX4_shout 25 = .ok (.iload_n 3, 1) := by decide +kernel
theorem dX4_shout_26 : decode cX4_shout 26 = .ok (.aload_n 0, 1) := by decide +kernel
theorem dX4_shout_27 : decode cX4_shout 27 = .ok (.getfield 19, 3) := by decide +kernel
theorem dX4_shout_30 : decode cX4_shout 30 = .ok (.getfield 88, 3) := by decide +kernel
theorem dX4_shout_33 : decode cX4_shout 33 = .ok (.if_icmp .ge 51, 3) := by decide +kernel
theorem dX4_shout_36 : decode cX4_shout 36 = .ok (.iload_n 3, 1) := by decide +kernel
theorem dX4_shout_37 : decode cX4_shout 37 = .ok (.iload_n 1, 1) := by decide +kernel
theorem dX4_shout_38 : decode cX4_shout 38 = .ok (.if_icmp .eq 12, 3) := by decide +kernel
theorem dX4_shout_41 : decode cX4_shout 41 = .ok (.aload_n 0, 1) := by decide +kernel
theorem dX4_shout_42 : decode cX4_shout 42 = .ok (.iload_n 3, 1) := by decide +kernel
theorem dX4_shout_43 : decode cX4_shout 43 = .ok (.iload_n 1, 1) := by decide +kernel
theorem dX4_shout_44 : decode cX4_shout 44 = .ok (.invokevirtual 138, 3) := by decide +kernel
theorem dX4_shout_47 : decode cX4_shout 47 = .ok (.ifCond .eq 31, 3) := by decide +kernel
theorem dX4_shout_50 : decode cX4_shout 50 = .ok (.aload_n 0, 1) := by decide +kernel
theorem dX4_shout_51 : decode cX4_shout 51 = .ok (.getfield 29, 3) := by decide +kernel
theorem dX4_shout_54 : decode cX4_shout 54 = .ok (.getfield 98, 3) := by decide +kernel
theorem dX4_shout_57 : decode cX4_shout 57 = .ok (.iload_n 3, 1) := by decide +kernel
theorem dX4_shout_58 : decode cX4_shout 58 = .ok (.aload_n 0, 1) := by decide +kernel
theorem dX4_shout_59 : decode cX4_shout 59 = .ok (.getfield 29, 3) := by decide +kernel
theorem dX4_shout_62 : decode cX4_shout 62 = .ok (.getfield 98, 3) := by decide +kernel
theorem dX4_shout_65 : decode cX4_shout 65 = .ok (.iload_n 3, 1) := by decide +kernel
theorem dX4_shout_66 : decode cX4_shout 66 = .ok (.iaload, 1) := by decide +kernel
theorem dX4_shout_67 : decode cX4_shout 67 = .ok (.iconst 2, 1) := by decide +kernel
theorem dX4_shout_68 : decode cX4_shout 68 = .ok (.iadd, 1) := by decide +kernel
theorem dX4_shout_69 : decode cX4_shout 69 = .ok (.iconst 4, 1) := by decide +kernel
theorem dX4_shout_70 : decode cX4_shout 70 = .ok (.irem, 1) := by decide +kernel
theorem dX4_shout_71 : decode cX4_shout 71 = .ok (.iastore, 1) := by decide +kernel
theorem dX4_shout_72 : decode cX4_shout 72 = .ok (.iload_n 2, 1) := by decide +kernel
theorem dX4_shout_73 : decode cX4_shout 73 = .ok (.iconst 1, 1) := by decide +kernel
theorem dX4_shout_74 : decode cX4_shout 74 = .ok (.iload_n 3, 1) := by decide +kernel
theorem dX4_shout_75 : decode cX4_shout 75 = .ok (.ishl, 1) := by decide +kernel
theorem dX4_shout_76 : decode cX4_shout 76 = .ok (.ior, 1) := by decide +kernel
theorem dX4_shout_77 : decode cX4_shout 77 = .ok (.istore_n 2, 1) := by decide +kernel
theorem dX4_shout_78 : decode cX4_shout 78 = .ok (.iinc 3 1, 3) := by decide +kernel
theorem dX4_shout_81 : decode cX4_shout 81 = .ok (.goto (-56), 3) := by decide +kernel
theorem dX4_shout_84 : decode cX4_shout 84 = .ok (.aload_n 0, 1) := by decide +kernel
theorem dX4_shout_85 : decode cX4_shout 85 = .ok (.getfield 29, 3) := by decide +kernel
theorem dX4_shout_88 : decode cX4_shout 88 = .ok (.dup, 1) := by decide +kernel
theorem dX4_shout_89 : decode cX4_shout 89 = .ok (.getfield 142, 3) := by decide +kernel
theorem dX4_shout_92 : decode cX4_shout 92 = .ok (.iload_n 2, 1) := by decide +kernel
theorem dX4_shout_93 : decode cX4_shout 93 = .ok (.ior, 1) := by decide +kernel
theorem dX4_shout_94 : decode cX4_shout 94 = .ok (.putfield 142, 3) := by decide +kernel
theorem dX4_shout_97 : decode cX4_shout 97 = .ok (.iload_n 2, 1) := by decide +kernel
theorem dX4_shout_98 : decode cX4_shout 98 = .ok (.invokestatic 132, 3) := by decide +kernel
theorem dX4_shout_101 : decode cX4_shout 101 = .ok (.ireturn, 1) := by decide +kernel
theorem dX4_eyes_0 : decode cX4_eyes 0 = .ok (.iload_n 1, 1) := by decide +kernel
theorem dX4_eyes_1 : decode cX4_eyes 1 = .ok (.invokestatic 145, 3) := by decide +kernel
theorem dX4_eyes_4 : decode cX4_eyes 4 = .ok (.ifCond .ne 5, 3) := by decide +kernel
theorem dX4_eyes_7 : decode cX4_eyes 7 = .ok (.iconst (-1), 1) := by decide +kernel
theorem dX4_eyes_8 : decode cX4_eyes 8 = .ok (.ireturn, 1) := by decide +kernel
theorem dX4_eyes_9 : decode cX4_eyes 9 = .ok (.aload_n 0, 1) := by decide +kernel
theorem dX4_eyes_10 : decode cX4_eyes 10 = .ok (.getfield 41, 3) := by decide +kernel
theorem dX4_eyes_13 : decode cX4_eyes 13 = .ok (.aload_n 0, 1) := by decide +kernel
theorem dX4_eyes_14 : decode cX4_eyes 14 = .ok (.getfield 29, 3) := by decide +kernel
theorem dX4_eyes_17 : decode cX4_eyes 17 = .ok (.invokevirtual 117, 3) := by decide +kernel
theorem dX4_eyes_20 : decode cX4_eyes 20 = .ok (.aload_n 0, 1) := by decide +kernel
theorem dX4_eyes_21 : decode cX4_eyes 21 = .ok (.getfield 29, 3) := by decide +kernel
theorem dX4_eyes_24 : decode cX4_eyes 24 = .ok (.getfield 148, 3) := by decide +kernel
theorem dX4_eyes_27 : decode cX4_eyes 27 = .ok (.istore_n 2, 1) := by decide +kernel
theorem dX4_eyes_28 : decode cX4_eyes 28 = .ok (.aload_n 0, 1) := by decide +kernel
theorem dX4_eyes_29 : decode cX4_eyes 29 = .ok (.getfield 29, 3) := by decide +kernel
theorem dX4_eyes_32 : decode cX4_eyes 32 = .ok (.iload_n 1, 1) := by decide +kernel
theorem dX4_eyes_33 : decode cX4_eyes 33 = .ok (.putfield 148, 3) := by decide +kernel
theorem dX4_eyes_36 : decode cX4_eyes 36 = .ok (.iload_n 2, 1) := by decide +kernel
theorem dX4_eyes_37 : decode cX4_eyes 37 = .ok (.ireturn, 1) := by decide +kernel
theorem dX4_look_0 : decode cX4_look 0 = .ok (.aload_n 0, 1) := by decide +kernel
theorem dX4_look_1 : decode cX4_look 1 = .ok (.iload_n 1, 1) := by decide +kernel
theorem dX4_look_2 : decode cX4_look 2 = .ok (.invokevirtual 91, 3) := by decide +kernel
theorem dX4_look_5 : decode cX4_look 5 = .ok (.ifCond .eq 11, 3) := by decide +kernel
theorem dX4_look_8 : decode cX4_look 8 = .ok (.aload_n 0, 1) := by decide +kernel
theorem dX4_look_9 : decode cX4_look 9 = .ok (.iload_n 2, 1) := by decide +kernel
theorem dX4_look_10 : decode cX4_look 10 = .ok (.invokevirtual 91, 3) := by decide +kernel
theorem dX4_look_13 : decode cX4_look 13 = .ok (.ifCond .ne 5, 3) := by decide +kernel
theorem dX4_look_16 : decode cX4_look 16 = .ok (.iconst (-1), 1) := by decide +kernel
theorem dX4_look_17 : decode cX4_look 17 = .ok (.ireturn, 1) := by decide +kernel
theorem dX4_look_18 : decode cX4_look 18 = .ok (.aload_n 0, 1) := by decide +kernel
theorem dX4_look_19 : decode cX4_look 19 = .ok (.getfield 41, 3) := by decide +kernel
theorem dX4_look_22 : decode cX4_look 22 = .ok (.aload_n 0, 1) := by decide +kernel
theorem dX4_look_23 : decode cX4_look 23 = .ok (.getfield 29, 3) := by decide +kernel
theorem dX4_look_26 : decode cX4_look 26 = .ok (.invokevirtual 117, 3) := by decide +kernel
theorem dX4_look_29 : decode cX4_look 29 = .ok (.aload_n 0, 1) := by decide +kernel
theorem dX4_look_30 : decode cX4_look 30 = .ok (.getfield 29, 3) := by decide +kernel
theorem dX4_look_33 : decode cX4_look 33 = .ok (.getfield 101, 3) := by decide +kernel
theorem dX4_look_36 : decode cX4_look 36 = .ok (.iload_n 1, 1) := by decide +kernel
theorem dX4_look_37 : decode cX4_look 37 = .ok (.iaload, 1) := by decide +kernel
theorem dX4_look_38 : decode cX4_look 38 = .ok (.istore_n 3, 1) := by decide +kernel
theorem dX4_look_39 : decode cX4_look 39 = .ok (.aload_n 0, 1) := by decide +kernel
theorem dX4_look_40 : decode cX4_look 40 = .ok (.getfield 29, 3) := by decide +kernel
theorem dX4_look_43 : decode cX4_look 43 = .ok (.getfield 101, 3) := by decide +kernel
theorem dX4_look_46 : decode cX4_look 46 = .ok (.iload_n 1, 1) := by decide +kernel
theorem dX4_look_47 : decode cX4_look 47 = .ok (.iload_n 2, 1) := by decide +kernel
theorem dX4_look_48 : decode cX4_look 48 = .ok (.iastore, 1) := by decide +kernel
theorem dX4_look_49 : decode cX4_look 49 = .ok (.iload_n 3, 1) := by decide +kernel
theorem dX4_look_50 : decode cX4_look 50 = .ok (.ireturn, 1) := by decide +kernel
theorem dX4_undo_0 : decode cX4_undo 0 = .ok (.aload_n 0, 1) := by decide +kernel
theorem dX4_undo_1 : decode cX4_undo 1 = .ok (.getfield 41, 3) := by decide +kernel
theorem dX4_undo_4 : decode cX4_undo 4 = .ok (.aload_n 0, 1) := by decide +kernel
theorem dX4_undo_5 : decode cX4_undo 5 = .ok (.getfield 29, 3) := by decide +kernel
theorem dX4_undo_8 : decode cX4_undo 8 = .ok (.invokevirtual 151, 3) := by decide +kernel
theorem dX4_undo_11 : decode cX4_undo 11 = .ok (.ifCond .eq 13, 3) := by decide +kernel
theorem dX4_undo_14 : decode cX4_undo 14 = .ok (.aload_n 0, 1) := by decide +kernel
theorem dX4_undo_15 : decode cX4_undo 15 = .ok (.getfield 41, 3) := by decide +kernel
theorem dX4_undo_18 : decode cX4_undo 18 = .ok (.getfield 155, 3) := by decide +kernel
theorem dX4_undo_21 : decode cX4_undo 21 = .ok (.goto 5, 3) := by decide +kernel
theorem dX4_undo_24 : decode cX4_undo 24 = .ok (.bipush (-2), 2) := by decide +kernel
theorem dX4_undo_26 : decode cX4_undo 26 = .ok (.ireturn, 1) := by decide +kernel
theorem dX4_who_0 : decode cX4_who 0 = .ok (.iload_n 1, 1) := by decide +kernel
theorem dX4_who_1 : decode cX4_who 1 = .ok (.tableswitch 71 0 2 #[27, 36, 63], 27) := by decide +kernel
theorem dX4_who_28 : decode cX4_who 28 = .ok (.aload_n 0, 1) := by decide +kernel
theorem dX4_who_29 : decode cX4_who 29 = .ok (.aload_n 0, 1) := by decide +kernel
theorem dX4_who_30 : decode cX4_who 30 = .ok (.getfield 29, 3) := by decide +kernel
theorem dX4_who_33 : decode cX4_who 33 = .ok (.invokevirtual 128, 3) := by decide +kernel
theorem dX4_who_36 : decode cX4_who 36 = .ok (.ireturn, 1) := by decide +kernel
theorem dX4_who_37 : decode cX4_who 37 = .ok (.aload_n 0, 1) := by decide +kernel
theorem dX4_who_38 : decode cX4_who 38 = .ok (.getfield 29, 3) := by decide +kernel
theorem dX4_who_41 : decode cX4_who 41 = .ok (.getfield 158, 3) := by decide +kernel
theorem dX4_who_44 : decode cX4_who 44 = .ok (.aload_n 0, 1) := by decide +kernel
theorem dX4_who_45 : decode cX4_who 45 = .ok (.getfield 29, 3) := by decide +kernel
theorem dX4_who_48 : decode cX4_who 48 = .ok (.getfield 142, 3) := by decide +kernel
theorem dX4_who_51 : decode cX4_who 51 = .ok (.ior, 1) := by decide +kernel
theorem dX4_who_52 : decode cX4_who 52 = .ok (.aload_n 0, 1) := by decide +kernel
theorem dX4_who_53 : decode cX4_who 53 = .ok (.aload_n 0, 1) := by decide +kernel
theorem dX4_who_54 : decode cX4_who 54 = .ok (.getfield 29, 3) := by decide +kernel
theorem dX4_who_57 : decode cX4_who 57 = .ok (.invokevirtual 128, 3) := by decide +kernel
theorem dX4_who_60 : decode cX4_who 60 = .ok (.iconst (-1), 1) := by decide +kernel
theorem dX4_who_61 : decode cX4_who 61 = .ok (.ixor, 1) := by decide +kernel
theorem dX4_who_62 : decode cX4_who 62 = .ok (.iand, 1) := by decide +kernel
theorem dX4_who_63 : decode cX4_who 63 = .ok (.ireturn, 1) := by decide +kernel
theorem dX4_who_64 : decode cX4_who 64 = .ok (.aload_n 0, 1) := by decide +kernel
theorem dX4_who_65 : decode cX4_who 65 = .ok (.getfield 29, 3) := by decide +kernel
theorem dX4_who_68 : decode cX4_who 68 = .ok (.getfield 158, 3) := by decide +kernel
theorem dX4_who_71 : decode cX4_who 71 = .ok (.ireturn, 1) := by decide +kernel
theorem dX4_who_72 : decode cX4_who 72 = .ok (.iconst (-1), 1) := by decide +kernel
theorem dX4_who_73 : decode cX4_who 73 = .ok (.ireturn, 1) := by decide +kernel
theorem dX4_follows_0 : decode cX4_follows 0 = .ok (.aload_n 0, 1) := by decide +kernel
theorem dX4_follows_1 : decode cX4_follows 1 = .ok (.iload_n 1, 1) := by decide +kernel
theorem dX4_follows_2 : decode cX4_follows 2 = .ok (.invokevirtual 91, 3) := by decide +kernel
theorem dX4_follows_5 : decode cX4_follows 5 = .ok (.ifCond .ne 5, 3) := by decide +kernel
theorem dX4_follows_8 : decode cX4_follows 8 = .ok (.iconst (-1), 1) := by decide +kernel
theorem dX4_follows_9 : decode cX4_follows 9 = .ok (.ireturn, 1) := by decide +kernel
theorem dX4_follows_10 : decode cX4_follows 10 = .ok (.aload_n 0, 1) := by decide +kernel
theorem dX4_follows_11 : decode cX4_follows 11 = .ok (.getfield 29, 3) := by decide +kernel
theorem dX4_follows_14 : decode cX4_follows 14 = .ok (.getfield 148, 3) := by decide +kernel
theorem dX4_follows_17 : decode cX4_follows 17 = .ok (.iconst 1, 1) := by decide +kernel
theorem dX4_follows_18 : decode cX4_follows 18 = .ok (.if_icmp .ne 7, 3) := by decide +kernel
theorem dX4_follows_21 : decode cX4_follows 21 = .ok (.iload_n 1, 1) := by decide +kernel
theorem dX4_follows_22 : decode cX4_follows 22 = .ok (.goto 10, 3) := by decide +kernel
theorem dX4_follows_25 : decode cX4_follows 25 = .ok (.aload_n 0, 1) := by decide +kernel
theorem dX4_follows_26 : decode cX4_follows 26 = .ok (.iload_n 1, 1) := by decide +kernel
theorem dX4_follows_27 : decode cX4_follows 27 = .ok (.bipush (-4), 2) := by decide +kernel
theorem dX4_follows_29 : decode cX4_follows 29 = .ok (.invokevirtual 161, 3) := by decide +kernel
theorem dX4_follows_32 : decode cX4_follows 32 = .ok (.ireturn, 1) := by decide +kernel
theorem dX4_runs_0 : decode cX4_runs 0 = .ok (.aload_n 0, 1) := by decide +kernel
theorem dX4_runs_1 : decode cX4_runs 1 = .ok (.iload_n 1, 1) := by decide +kernel
theorem dX4_runs_2 : decode cX4_runs 2 = .ok (.invokevirtual 91, 3) := by decide +kernel
theorem dX4_runs_5 : decode cX4_runs 5 = .ok (.ifCond .ne 5, 3) := by decide +kernel
theorem dX4_runs_8 : decode cX4_runs 8 = .ok (.iconst (-1), 1) := by decide +kernel
theorem dX4_runs_9 : decode cX4_runs 9 = .ok (.ireturn, 1) := by decide +kernel
theorem dX4_runs_10 : decode cX4_runs 10 = .ok (.iconst 0, 1) := by decide +kernel
theorem dX4_runs_11 : decode cX4_runs 11 = .ok (.istore_n 2, 1) := by decide +kernel
theorem dX4_runs_12 : decode cX4_runs 12 = .ok (.iconst 0, 1) := by decide +kernel
theorem dX4_runs_13 : decode cX4_runs 13 = .ok (.istore_n 3, 1) := by decide +kernel
theorem dX4_runs_14 : decode cX4_runs 14 = .ok (.iload_n 3, 1) := by decide +kernel
theorem dX4_runs_15 : decode cX4_runs 15 = .ok (.aload_n 0, 1) := by decide +kernel
theorem dX4_runs_16 : decode cX4_runs 16 = .ok (.getfield 19, 3) := by decide +kernel
theorem dX4_runs_19 : decode cX4_runs 19 = .ok (.getfield 88, 3) := by decide +kernel
theorem dX4_runs_22 : decode cX4_runs 22 = .ok (.if_icmp .ge 28, 3) := by decide +kernel
theorem dX4_runs_25 : decode cX4_runs 25 = .ok (.iload_n 3, 1) := by decide +kernel
theorem dX4_runs_26 : decode cX4_runs 26 = .ok (.iload_n 1, 1) := by decide +kernel
theorem dX4_runs_27 : decode cX4_runs 27 = .ok (.if_icmp .eq 17, 3) := by decide +kernel
theorem dX4_runs_30 : decode cX4_runs 30 = .ok (.aload_n 0, 1) := by decide +kernel
theorem dX4_runs_31 : decode cX4_runs 31 = .ok (.iload_n 3, 1) := by decide +kernel
theorem dX4_runs_32 : decode cX4_runs 32 = .ok (.bipush (-4), 2) := by decide +kernel
theorem dX4_runs_34 : decode cX4_runs 34 = .ok (.invokevirtual 161, 3) := by decide +kernel
theorem dX4_runs_37 : decode cX4_runs 37 = .ok (.iload_n 1, 1) := by decide +kernel
theorem dX4_runs_38 : decode cX4_runs 38 = .ok (.if_icmp .ne 6, 3) := by decide +kernel
theorem dX4_runs_41 : decode cX4_runs 41 = .ok (.iinc 2 1, 3) := by decide +kernel
theorem dX4_runs_44 : decode cX4_runs 44 = .ok (.iinc 3 1, 3) := by decide +kernel
theorem dX4_runs_47 : decode cX4_runs 47 = .ok (.goto (-33), 3) := by decide +kernel
theorem dX4_runs_50 : decode cX4_runs 50 = .ok (.iload_n 2, 1) := by decide +kernel
theorem dX4_runs_51 : decode cX4_runs 51 = .ok (.ireturn, 1) := by decide +kernel
theorem dX4_most_0 : decode cX4_most 0 = .ok (.iload_n 1, 1) := by decide +kernel
theorem dX4_most_1 : decode cX4_most 1 = .ok (.invokestatic 145, 3) := by decide +kernel
theorem dX4_most_4 : decode cX4_most 4 = .ok (.ifCond .ne 5, 3) := by decide +kernel
theorem dX4_most_7 : decode cX4_most 7 = .ok (.iconst (-1), 1) := by decide +kernel
theorem dX4_most_8 : decode cX4_most 8 = .ok (.ireturn, 1) := by decide +kernel
theorem dX4_most_9 : decode cX4_most 9 = .ok (.iconst 0, 1) := by decide +kernel
theorem dX4_most_10 : decode cX4_most 10 = .ok (.istore_n 2, 1) := by decide +kernel
theorem dX4_most_11 : decode cX4_most 11 = .ok (.iconst 1, 1) := by decide +kernel
theorem dX4_most_12 : decode cX4_most 12 = .ok (.istore_n 3, 1) := by decide +kernel
theorem dX4_most_13 : decode cX4_most 13 = .ok (.iload_n 3, 1) := by decide +kernel
theorem dX4_most_14 : decode cX4_most 14 = .ok (.iconst 4, 1) := by decide +kernel
theorem dX4_most_15 : decode cX4_most 15 = .ok (.if_icmp .ge 24, 3) := by decide +kernel
theorem dX4_most_18 : decode cX4_most 18 = .ok (.aload_n 0, 1) := by decide +kernel
theorem dX4_most_19 : decode cX4_most 19 = .ok (.iload_n 3, 1) := by decide +kernel
theorem dX4_most_20 : decode cX4_most 20 = .ok (.invokevirtual 165, 3) := by decide +kernel
theorem dX4_most_23 : decode cX4_most 23 = .ok (.aload_n 0, 1) := by decide +kernel
theorem dX4_most_24 : decode cX4_most 24 = .ok (.iload_n 2, 1) := by decide +kernel
theorem dX4_most_25 : decode cX4_most 25 = .ok (.invokevirtual 165, 3) := by decide +kernel
theorem dX4_most_28 : decode cX4_most 28 = .ok (.if_icmp .le 5, 3) := by decide +kernel
theorem dX4_most_31 : decode cX4_most 31 = .ok (.iload_n 3, 1) := by decide +kernel
theorem dX4_most_32 : decode cX4_most 32 = .ok (.istore_n 2, 1) := by decide +kernel
theorem dX4_most_33 : decode cX4_most 33 = .ok (.iinc 3 1, 3) := by decide +kernel
theorem dX4_most_36 : decode cX4_most 36 = .ok (.goto (-23), 3) := by decide +kernel
theorem dX4_most_39 : decode cX4_most 39 = .ok (.iload_n 1, 1) := by decide +kernel
theorem dX4_most_40 : decode cX4_most 40 = .ok (.ifCond .ne 7, 3) := by decide +kernel
theorem dX4_most_43 : decode cX4_most 43 = .ok (.iload_n 2, 1) := by decide +kernel
theorem dX4_most_44 : decode cX4_most 44 = .ok (.goto 8, 3) := by decide +kernel
theorem dX4_most_47 : decode cX4_most 47 = .ok (.aload_n 0, 1) := by decide +kernel
theorem dX4_most_48 : decode cX4_most 48 = .ok (.iload_n 2, 1) := by decide +kernel
theorem dX4_most_49 : decode cX4_most 49 = .ok (.invokevirtual 165, 3) := by decide +kernel
theorem dX4_most_52 : decode cX4_most 52 = .ok (.ireturn, 1) := by decide +kernel
theorem dX4_groups_0 : decode cX4_groups 0 = .ok (.iload_n 1, 1) := by decide +kernel
theorem dX4_groups_1 : decode cX4_groups 1 = .ok (.invokestatic 145, 3) := by decide +kernel
theorem dX4_groups_4 : decode cX4_groups 4 = .ok (.ifCond .ne 5, 3) := by decide +kernel
theorem dX4_groups_7 : decode cX4_groups 7 = .ok (.iconst (-1), 1) := by decide +kernel
theorem dX4_groups_8 : decode cX4_groups 8 = .ok (.ireturn, 1) := by decide +kernel
theorem dX4_groups_9 : decode cX4_groups 9 = .ok (.iconst 0, 1) := by decide +kernel
theorem dX4_groups_10 : decode cX4_groups 10 = .ok (.istore_n 2, 1) := by decide +kernel
theorem dX4_groups_11 : decode cX4_groups 11 = .ok (.iconst 0, 1) := by decide +kernel
theorem dX4_groups_12 : decode cX4_groups 12 = .ok (.istore_n 3, 1) := by decide +kernel
theorem dX4_groups_13 : decode cX4_groups 13 = .ok (.iconst 0, 1) := by decide +kernel
theorem dX4_groups_14 : decode cX4_groups 14 = .ok (.istore 4, 2) := by decide +kernel
theorem dX4_groups_16 : decode cX4_groups 16 = .ok (.iconst 0, 1) := by decide +kernel
theorem dX4_groups_17 : decode cX4_groups 17 = .ok (.istore 5, 2) := by decide +kernel
theorem dX4_groups_19 : decode cX4_groups 19 = .ok (.iload 5, 2) := by decide +kernel
theorem dX4_groups_21 : decode cX4_groups 21 = .ok (.aload_n 0, 1) := by decide +kernel
theorem dX4_groups_22 : decode cX4_groups 22 = .ok (.getfield 19, 3) := by decide +kernel
theorem dX4_groups_25 : decode cX4_groups 25 = .ok (.getfield 88, 3) := by decide +kernel
theorem dX4_groups_28 : decode cX4_groups 28 = .ok (.if_icmp .ge 55, 3) := by decide +kernel
theorem dX4_groups_31 : decode cX4_groups 31 = .ok (.iload 5, 2) := by decide +kernel
theorem dX4_groups_33 : decode cX4_groups 33 = .ok (.ifCond .eq 28, 3) := by decide +kernel
theorem dX4_groups_36 : decode cX4_groups 36 = .ok (.aload_n 0, 1) := by decide +kernel
theorem dX4_groups_37 : decode cX4_groups 37 = .ok (.getfield 29, 3) := by decide +kernel
theorem dX4_groups_40 : decode cX4_groups 40 = .ok (.getfield 98, 3) := by decide +kernel
theorem dX4_groups_43 : decode cX4_groups 43 = .ok (.iload 5, 2) := by decide +kernel
theorem dX4_groups_45 : decode cX4_groups 45 = .ok (.iaload, 1) := by decide +kernel
theorem dX4_groups_46 : decode cX4_groups 46 = .ok (.aload_n 0, 1) := by decide +kernel
theorem dX4_groups_47 : decode cX4_groups 47 = .ok (.getfield 29, 3) := by decide +kernel
theorem dX4_groups_50 : decode cX4_groups 50 = .ok (.getfield 98, 3) := by decide +kernel
theorem dX4_groups_53 : decode cX4_groups 53 = .ok (.iload 5, 2) := by decide +kernel
theorem dX4_groups_55 : decode cX4_groups 55 = .ok (.iconst 1, 1) := by decide +kernel
theorem dX4_groups_56 : decode cX4_groups 56 = .ok (.isub, 1) := by decide +kernel
theorem dX4_groups_57 : decode cX4_groups 57 = .ok (.iaload, 1) := by decide +kernel
theorem dX4_groups_58 : decode cX4_groups 58 = .ok (.if_icmp .eq 9, 3) := by decide +kernel
theorem dX4_groups_61 : decode cX4_groups 61 = .ok (.iinc 2 1, 3) := by decide +kernel
theorem dX4_groups_64 : decode cX4_groups 64 = .ok (.iconst 0, 1) := by decide +kernel
theorem dX4_groups_65 : decode cX4_groups 65 = .ok (.istore 4, 2) := by decide +kernel
theorem dX4_groups_67 : decode cX4_groups 67 = .ok (.iinc 4 1, 3) := by decide +kernel
theorem dX4_groups_70 : decode cX4_groups 70 = .ok (.iload_n 3, 1) := by decide +kernel
theorem dX4_groups_71 : decode cX4_groups 71 = .ok (.iload 4, 2) := by decide +kernel
theorem dX4_groups_73 : decode cX4_groups 73 = .ok (.invokestatic 168, 3) := by decide +kernel
theorem dX4_groups_76 : decode cX4_groups 76 = .ok (.istore_n 3, 1) := by decide +kernel
theorem dX4_groups_77 : decode cX4_groups 77 = .ok (.iinc 5 1, 3) := by decide +kernel
theorem dX4_groups_80 : decode cX4_groups 80 = .ok (.goto (-61), 3) := by decide +kernel
theorem dX4_groups_83 : decode cX4_groups 83 = .ok (.iload_n 1, 1) := by decide +kernel
theorem dX4_groups_84 : decode cX4_groups 84 = .ok (.ifCond .ne 7, 3) := by decide +kernel
theorem dX4_groups_87 : decode cX4_groups 87 = .ok (.iload_n 2, 1) := by decide +kernel
theorem dX4_groups_88 : decode cX4_groups 88 = .ok (.goto 4, 3) := by decide +kernel
theorem dX4_groups_91 : decode cX4_groups 91 = .ok (.iload_n 3, 1) := by decide +kernel
theorem dX4_groups_92 : decode cX4_groups 92 = .ok (.ireturn, 1) := by decide +kernel
theorem dX4_plan_0 : decode cX4_plan 0 = .ok (.iload_n 1, 1) := by decide +kernel
theorem dX4_plan_1 : decode cX4_plan 1 = .ok (.iconst (-1), 1) := by decide +kernel
theorem dX4_plan_2 : decode cX4_plan 2 = .ok (.if_icmp .lt 8, 3) := by decide +kernel
theorem dX4_plan_5 : decode cX4_plan 5 = .ok (.iload_n 1, 1) := by decide +kernel
theorem dX4_plan_6 : decode cX4_plan 6 = .ok (.iconst 5, 1) := by decide +kernel
theorem dX4_plan_7 : decode cX4_plan 7 = .ok (.if_icmp .lt 5, 3) := by decide +kernel
theorem dX4_plan_10 : decode cX4_plan 10 = .ok (.iconst (-1), 1) := by decide +kernel
theorem dX4_plan_11 : decode cX4_plan 11 = .ok (.ireturn, 1) := by decide +kernel
theorem dX4_plan_12 : decode cX4_plan 12 = .ok (.aload_n 0, 1) := by decide +kernel
theorem dX4_plan_13 : decode cX4_plan 13 = .ok (.invokevirtual 173, 3) := by decide +kernel
theorem dX4_plan_16 : decode cX4_plan 16 = .ok (.iconst 0, 1) := by decide +kernel
theorem dX4_plan_17 : decode cX4_plan 17 = .ok (.istore_n 2, 1) := by decide +kernel
theorem dX4_plan_18 : decode cX4_plan 18 = .ok (.iload_n 2, 1) := by decide +kernel
theorem dX4_plan_19 : decode cX4_plan 19 = .ok (.iconst 5, 1) := by decide +kernel
theorem dX4_plan_20 : decode cX4_plan 20 = .ok (.if_icmp .gt 37, 3) := by decide +kernel
theorem dX4_plan_23 : decode cX4_plan 23 = .ok (.aload_n 0, 1) := by decide +kernel
theorem dX4_plan_24 : decode cX4_plan 24 = .ok (.iload_n 2, 1) := by decide +kernel
theorem dX4_plan_25 : decode cX4_plan 25 = .ok (.invokevirtual 176, 3) := by decide +kernel
theorem dX4_plan_28 : decode cX4_plan 28 = .ok (.istore_n 3, 1) := by decide +kernel
theorem dX4_plan_29 : decode cX4_plan 29 = .ok (.iload_n 3, 1) := by decide +kernel
theorem dX4_plan_30 : decode cX4_plan 30 = .ok (.bipush (-4), 2) := by decide +kernel
theorem dX4_plan_32 : decode cX4_plan 32 = .ok (.if_icmp .eq 19, 3) := by decide +kernel
theorem dX4_plan_35 : decode cX4_plan 35 = .ok (.iload_n 1, 1) := by decide +kernel
theorem dX4_plan_36 : decode cX4_plan 36 = .ok (.iconst (-1), 1) := by decide +kernel
theorem dX4_plan_37 : decode cX4_plan 37 = .ok (.if_icmp .ne 7, 3) := by decide +kernel
theorem dX4_plan_40 : decode cX4_plan 40 = .ok (.iload_n 2, 1) := by decide +kernel
theorem dX4_plan_41 : decode cX4_plan 41 = .ok (.goto 9, 3) := by decide +kernel
theorem dX4_plan_44 : decode cX4_plan 44 = .ok (.iload_n 3, 1) := by decide +kernel
theorem dX4_plan_45 : decode cX4_plan 45 = .ok (.iload_n 2, 1) := by decide +kernel
theorem dX4_plan_46 : decode cX4_plan 46 = .ok (.iload_n 1, 1) := by decide +kernel
theorem dX4_plan_47 : decode cX4_plan 47 = .ok (.invokestatic 179, 3) := by decide +kernel
theorem dX4_plan_50 : decode cX4_plan 50 = .ok (.ireturn, 1) := by decide +kernel
theorem dX4_plan_51 : decode cX4_plan 51 = .ok (.iinc 2 1, 3) := by decide +kernel
theorem dX4_plan_54 : decode cX4_plan 54 = .ok (.goto (-36), 3) := by decide +kernel
theorem dX4_plan_57 : decode cX4_plan 57 = .ok (.bipush (-4), 2) := by decide +kernel
theorem dX4_plan_59 : decode cX4_plan 59 = .ok (.ireturn, 1) := by decide +kernel
theorem dX4_turn_0 : decode cX4_turn 0 = .ok (.aload_n 0, 1) := by decide +kernel
theorem dX4_turn_1 : decode cX4_turn 1 = .ok (.iload_n 1, 1) := by decide +kernel
theorem dX4_turn_2 : decode cX4_turn 2 = .ok (.invokevirtual 91, 3) := by decide +kernel
theorem dX4_turn_5 : decode cX4_turn 5 = .ok (.ifCond .eq 10, 3) := by decide +kernel
theorem dX4_turn_8 : decode cX4_turn 8 = .ok (.iload_n 2, 1) := by decide +kernel
theorem dX4_turn_9 : decode cX4_turn 9 = .ok (.invokestatic 111, 3) := by decide +kernel
theorem dX4_turn_12 : decode cX4_turn 12 = .ok (.ifCond .ne 5, 3) := by decide +kernel
theorem dX4_turn_15 : decode cX4_turn 15 = .ok (.iconst (-1), 1) := by decide +kernel
theorem dX4_turn_16 : decode cX4_turn 16 = .ok (.ireturn, 1) := by decide +kernel
theorem dX4_turn_17 : decode cX4_turn 17 = .ok (.aload_n 0, 1) := by decide +kernel
theorem dX4_turn_18 : decode cX4_turn 18 = .ok (.invokevirtual 173, 3) := by decide +kernel
theorem dX4_turn_21 : decode cX4_turn 21 = .ok (.aload_n 0, 1) := by decide +kernel
theorem dX4_turn_22 : decode cX4_turn 22 = .ok (.iload_n 1, 1) := by decide +kernel
theorem dX4_turn_23 : decode cX4_turn 23 = .ok (.iload_n 2, 1) := by decide +kernel
theorem dX4_turn_24 : decode cX4_turn 24 = .ok (.invokevirtual 183, 3) := by decide +kernel
theorem dX4_turn_27 : decode cX4_turn 27 = .ok (.ireturn, 1) := by decide +kernel
theorem dX4_alike_0 : decode cX4_alike 0 = .ok (.iload_n 1, 1) := by decide +kernel
theorem dX4_alike_1 : decode cX4_alike 1 = .ok (.invokestatic 111, 3) := by decide +kernel
theorem dX4_alike_4 : decode cX4_alike 4 = .ok (.ifCond .eq 10, 3) := by decide +kernel
theorem dX4_alike_7 : decode cX4_alike 7 = .ok (.iload_n 2, 1) := by decide +kernel
theorem dX4_alike_8 : decode cX4_alike 8 = .ok (.invokestatic 145, 3) := by decide +kernel
theorem dX4_alike_11 : decode cX4_alike 11 = .ok (.ifCond .ne 5, 3) := by decide +kernel
theorem dX4_alike_14 : decode cX4_alike 14 = .ok (.iconst (-1), 1) := by decide +kernel
theorem dX4_alike_15 : decode cX4_alike 15 = .ok (.ireturn, 1) := by decide +kernel
theorem dX4_alike_16 : decode cX4_alike 16 = .ok (.aload_n 0, 1) := by decide +kernel
theorem dX4_alike_17 : decode cX4_alike 17 = .ok (.invokevirtual 121, 3) := by decide +kernel
theorem dX4_alike_20 : decode cX4_alike 20 = .ok (.iconst 0, 1) := by decide +kernel
theorem dX4_alike_21 : decode cX4_alike 21 = .ok (.istore_n 3, 1) := by decide +kernel
theorem dX4_alike_22 : decode cX4_alike 22 = .ok (.iconst 0, 1) := by decide +kernel
theorem dX4_alike_23 : decode cX4_alike 23 = .ok (.istore 4, 2) := by decide +kernel
theorem dX4_alike_25 : decode cX4_alike 25 = .ok (.iload 4, 2) := by decide +kernel
theorem dX4_alike_27 : decode cX4_alike 27 = .ok (.iconst 4, 1) := by decide +kernel
theorem dX4_alike_28 : decode cX4_alike 28 = .ok (.if_icmp .ge 23, 3) := by decide +kernel
theorem dX4_alike_31 : decode cX4_alike 31 = .ok (.iload_n 3, 1) := by decide +kernel
theorem dX4_alike_32 : decode cX4_alike 32 = .ok (.aload_n 0, 1) := by decide +kernel
theorem dX4_alike_33 : decode cX4_alike 33 = .ok (.iload 4, 2) := by decide +kernel
theorem dX4_alike_35 : decode cX4_alike 35 = .ok (.getstatic 186, 3) := by decide +kernel
theorem dX4_alike_38 : decode cX4_alike 38 = .ok (.iload_n 1, 1) := by decide +kernel
theorem dX4_alike_39 : decode cX4_alike 39 = .ok (.iaload, 1) := by decide +kernel
theorem dX4_alike_40 : decode cX4_alike 40 = .ok (.invokevirtual 189, 3) := by decide +kernel
theorem dX4_alike_43 : decode cX4_alike 43 = .ok (.iadd, 1) := by decide +kernel
theorem dX4_alike_44 : decode cX4_alike 44 = .ok (.istore_n 3, 1) := by decide +kernel
theorem dX4_alike_45 : decode cX4_alike 45 = .ok (.iinc 4 1, 3) := by decide +kernel
theorem dX4_alike_48 : decode cX4_alike 48 = .ok (.goto (-23), 3) := by decide +kernel
theorem dX4_alike_51 : decode cX4_alike 51 = .ok (.iconst 1, 1) := by decide +kernel
theorem dX4_alike_52 : decode cX4_alike 52 = .ok (.istore 4, 2) := by decide +kernel
theorem dX4_alike_54 : decode cX4_alike 54 = .ok (.iconst 0, 1) := by decide +kernel
theorem dX4_alike_55 : decode cX4_alike 55 = .ok (.istore 5, 2) := by decide +kernel
theorem dX4_alike_57 : decode cX4_alike 57 = .ok (.iload 5, 2) := by decide +kernel
theorem dX4_alike_59 : decode cX4_alike 59 = .ok (.aload_n 0, 1) := by decide +kernel
theorem dX4_alike_60 : decode cX4_alike 60 = .ok (.getfield 19, 3) := by decide +kernel
theorem dX4_alike_63 : decode cX4_alike 63 = .ok (.getfield 88, 3) := by decide +kernel
theorem dX4_alike_66 : decode cX4_alike 66 = .ok (.if_icmp .ge 32, 3) := by decide +kernel
theorem dX4_alike_69 : decode cX4_alike 69 = .ok (.aload_n 0, 1) := by decide +kernel
theorem dX4_alike_70 : decode cX4_alike 70 = .ok (.getfield 48, 3) := by decide +kernel
theorem dX4_alike_73 : decode cX4_alike 73 = .ok (.iload 5, 2) := by decide +kernel
theorem dX4_alike_75 : decode cX4_alike 75 = .ok (.iaload, 1) := by decide +kernel
theorem dX4_alike_76 : decode cX4_alike 76 = .ok (.iload 5, 2) := by decide +kernel
theorem dX4_alike_78 : decode cX4_alike 78 = .ok (.if_icmp .ne 14, 3) := by decide +kernel
theorem dX4_alike_81 : decode cX4_alike 81 = .ok (.iload 4, 2) := by decide +kernel
theorem dX4_alike_83 : decode cX4_alike 83 = .ok (.aload_n 0, 1) := by decide +kernel
theorem dX4_alike_84 : decode cX4_alike 84 = .ok (.iload 5, 2) := by decide +kernel
theorem dX4_alike_86 : decode cX4_alike 86 = .ok (.invokevirtual 192, 3) := by decide +kernel
theorem dX4_alike_89 : decode cX4_alike 89 = .ok (.imul, 1) := by decide +kernel
theorem dX4_alike_90 : decode cX4_alike 90 = .ok (.istore 4, 2) := by decide +kernel
theorem dX4_alike_92 : decode cX4_alike 92 = .ok (.iinc 5 1, 3) := by decide +kernel
theorem dX4_alike_95 : decode cX4_alike 95 = .ok (.goto (-38), 3) := by decide +kernel
theorem dX4_alike_98 : decode cX4_alike 98 = .ok (.iload_n 3, 1) := by decide +kernel
theorem dX4_alike_99 : decode cX4_alike 99 = .ok (.iload 4, 2) := by decide +kernel
theorem dX4_alike_101 : decode cX4_alike 101 = .ok (.iload_n 2, 1) := by decide +kernel
theorem dX4_alike_102 : decode cX4_alike 102 = .ok (.invokestatic 195, 3) := by decide +kernel
theorem dX4_alike_105 : decode cX4_alike 105 = .ok (.ireturn, 1) := by decide +kernel
theorem dX4_right_0 : decode cX4_right 0 = .ok (.aload_n 0, 1) := by decide +kernel
theorem dX4_right_1 : decode cX4_right 1 = .ok (.iload_n 1, 1) := by decide +kernel
theorem dX4_right_2 : decode cX4_right 2 = .ok (.invokevirtual 91, 3) := by decide +kernel
theorem dX4_right_5 : decode cX4_right 5 = .ok (.ifCond .eq 17, 3) := by decide +kernel
theorem dX4_right_8 : decode cX4_right 8 = .ok (.iload_n 2, 1) := by decide +kernel
theorem dX4_right_9 : decode cX4_right 9 = .ok (.invokestatic 111, 3) := by decide +kernel
theorem dX4_right_12 : decode cX4_right 12 = .ok (.ifCond .eq 10, 3) := by decide +kernel
theorem dX4_right_15 : decode cX4_right 15 = .ok (.iload_n 3, 1) := by decide +kernel
theorem dX4_right_16 : decode cX4_right 16 = .ok (.invokestatic 145, 3) := by decide +kernel
theorem dX4_right_19 : decode cX4_right 19 = .ok (.ifCond .ne 5, 3) := by decide +kernel
theorem dX4_right_22 : decode cX4_right 22 = .ok (.iconst (-1), 1) := by decide +kernel
theorem dX4_right_23 : decode cX4_right 23 = .ok (.ireturn, 1) := by decide +kernel
theorem dX4_right_24 : decode cX4_right 24 = .ok (.aload_n 0, 1) := by decide +kernel
theorem dX4_right_25 : decode cX4_right 25 = .ok (.invokevirtual 121, 3) := by decide +kernel
theorem dX4_right_28 : decode cX4_right 28 = .ok (.getstatic 186, 3) := by decide +kernel
theorem dX4_right_31 : decode cX4_right 31 = .ok (.iload_n 2, 1) := by decide +kernel
theorem dX4_right_32 : decode cX4_right 32 = .ok (.iaload, 1) := by decide +kernel
theorem dX4_right_33 : decode cX4_right 33 = .ok (.istore 4, 2) := by decide +kernel
theorem dX4_right_35 : decode cX4_right 35 = .ok (.aload_n 0, 1) := by decide +kernel
theorem dX4_right_36 : decode cX4_right 36 = .ok (.aload_n 0, 1) := by decide +kernel
theorem dX4_right_37 : decode cX4_right 37 = .ok (.getfield 29, 3) := by decide +kernel
theorem dX4_right_40 : decode cX4_right 40 = .ok (.iload_n 1, 1) := by decide +kernel
theorem dX4_right_41 : decode cX4_right 41 = .ok (.invokevirtual 107, 3) := by decide +kernel
theorem dX4_right_44 : decode cX4_right 44 = .ok (.iload 4, 2) := by decide +kernel
theorem dX4_right_46 : decode cX4_right 46 = .ok (.iadd, 1) := by decide +kernel
theorem dX4_right_47 : decode cX4_right 47 = .ok (.iconst 4, 1) := by decide +kernel
theorem dX4_right_48 : decode cX4_right 48 = .ok (.irem, 1) := by decide +kernel
theorem dX4_right_49 : decode cX4_right 49 = .ok (.istore 5, 2) := by decide +kernel
theorem dX4_right_51 : decode cX4_right 51 = .ok (.iconst 0, 1) := by decide +kernel
theorem dX4_right_52 : decode cX4_right 52 = .ok (.istore 6, 2) := by decide +kernel
theorem dX4_right_54 : decode cX4_right 54 = .ok (.iconst 0, 1) := by decide +kernel
theorem dX4_right_55 : decode cX4_right 55 = .ok (.istore 7, 2) := by decide +kernel
theorem dX4_right_57 : decode cX4_right 57 = .ok (.iload 7, 2) := by decide +kernel
theorem dX4_right_59 : decode cX4_right 59 = .ok (.iconst 3, 1) := by decide +kernel
theorem dX4_right_60 : decode cX4_right 60 = .ok (.if_icmp .ge 40, 3) := by decide +kernel
theorem dX4_right_63 : decode cX4_right 63 = .ok (.aload_n 0, 1) := by decide +kernel
theorem dX4_right_64 : decode cX4_right 64 = .ok (.iload_n 1, 1) := by decide +kernel
theorem dX4_right_65 : decode cX4_right 65 = .ok (.iload 7, 2) := by decide +kernel
theorem dX4_right_67 : decode cX4_right 67 = .ok (.iload 4, 2) := by decide +kernel
theorem dX4_right_69 : decode cX4_right 69 = .ok (.invokevirtual 198, 3) := by decide +kernel
theorem dX4_right_72 : decode cX4_right 72 = .ok (.iload 5, 2) := by decide +kernel
theorem dX4_right_74 : decode cX4_right 74 = .ok (.if_icmp .ne 20, 3) := by decide +kernel
theorem dX4_right_77 : decode cX4_right 77 = .ok (.iload 6, 2) := by decide +kernel
theorem dX4_right_79 : decode cX4_right 79 = .ok (.aload_n 0, 1) := by decide +kernel
theorem dX4_right_80 : decode cX4_right 80 = .ok (.aload_n 0, 1) := by decide +kernel
theorem dX4_right_81 : decode cX4_right 81 = .ok (.getfield 48, 3) := by decide +kernel
theorem dX4_right_84 : decode cX4_right 84 = .ok (.iload_n 1, 1) := by decide +kernel
theorem dX4_right_85 : decode cX4_right 85 = .ok (.iaload, 1) := by decide +kernel
theorem dX4_right_86 : decode cX4_right 86 = .ok (.iload 7, 2) := by decide +kernel
theorem dX4_right_88 : decode cX4_right 88 = .ok (.invokevirtual 201, 3) := by decide +kernel
theorem dX4_right_91 : decode cX4_right 91 = .ok (.iadd, 1) := by decide +kernel
theorem dX4_right_92 : decode cX4_right 92 = .ok (.istore 6, 2) := by decide +kernel
theorem dX4_right_94 : decode cX4_right 94 = .ok (.iinc 7 1, 3) := by decide +kernel
theorem dX4_right_97 : decode cX4_right 97 = .ok (.goto (-40), 3) := by decide +kernel
theorem dX4_right_100 : decode cX4_right 100 = .ok (.iload 6, 2) := by decide +kernel
theorem dX4_right_102 : decode cX4_right 102 = .ok (.aload_n 0, 1) := by decide +kernel
theorem dX4_right_103 : decode cX4_right 103 = .ok (.aload_n 0, 1) := by decide +kernel
theorem dX4_right_104 : decode cX4_right 104 = .ok (.getfield 48, 3) := by decide +kernel
theorem dX4_right_107 : decode cX4_right 107 = .ok (.iload_n 1, 1) := by decide +kernel
theorem dX4_right_108 : decode cX4_right 108 = .ok (.iaload, 1) := by decide +kernel
theorem dX4_right_109 : decode cX4_right 109 = .ok (.invokevirtual 192, 3) := by decide +kernel
theorem dX4_right_112 : decode cX4_right 112 = .ok (.iload_n 3, 1) := by decide +kernel
theorem dX4_right_113 : decode cX4_right 113 = .ok (.invokestatic 195, 3) := by decide +kernel
theorem dX4_right_116 : decode cX4_right 116 = .ok (.ireturn, 1) := by decide +kernel
theorem dX4_which_0 : decode cX4_which 0 = .ok (.aload_n 0, 1) := by decide +kernel
theorem dX4_which_1 : decode cX4_which 1 = .ok (.iload_n 1, 1) := by decide +kernel
theorem dX4_which_2 : decode cX4_which 2 = .ok (.invokevirtual 91, 3) := by decide +kernel
theorem dX4_which_5 : decode cX4_which 5 = .ok (.ifCond .eq 12, 3) := by decide +kernel
theorem dX4_which_8 : decode cX4_which 8 = .ok (.iload_n 2, 1) := by decide +kernel
theorem dX4_which_9 : decode cX4_which 9 = .ok (.ifCond .lt 8, 3) := by decide +kernel
theorem dX4_which_12 : decode cX4_which 12 = .ok (.iload_n 2, 1) := by decide +kernel
theorem dX4_which_13 : decode cX4_which 13 = .ok (.iconst 4, 1) := by decide +kernel
theorem dX4_which_14 : decode cX4_which 14 = .ok (.if_icmp .lt 5, 3) := by decide +kernel
theorem dX4_which_17 : decode cX4_which 17 = .ok (.iconst (-1), 1) := by decide +kernel
theorem dX4_which_18 : decode cX4_which 18 = .ok (.ireturn, 1) := by decide +kernel
theorem dX4_which_19 : decode cX4_which 19 = .ok (.aload_n 0, 1) := by decide +kernel
theorem dX4_which_20 : decode cX4_which 20 = .ok (.invokevirtual 173, 3) := by decide +kernel
theorem dX4_which_23 : decode cX4_which 23 = .ok (.iconst 0, 1) := by decide +kernel
theorem dX4_which_24 : decode cX4_which 24 = .ok (.istore_n 3, 1) := by decide +kernel
theorem dX4_which_25 : decode cX4_which 25 = .ok (.iconst 0, 1) := by decide +kernel
theorem dX4_which_26 : decode cX4_which 26 = .ok (.istore 4, 2) := by decide +kernel
theorem dX4_which_28 : decode cX4_which 28 = .ok (.iload 4, 2) := by decide +kernel
theorem dX4_which_30 : decode cX4_which 30 = .ok (.iconst 3, 1) := by decide +kernel
theorem dX4_which_31 : decode cX4_which 31 = .ok (.if_icmp .ge 27, 3) := by decide +kernel
theorem dX4_which_34 : decode cX4_which 34 = .ok (.aload_n 0, 1) := by decide +kernel
theorem dX4_which_35 : decode cX4_which 35 = .ok (.iload_n 1, 1) := by decide +kernel
theorem dX4_which_36 : decode cX4_which 36 = .ok (.iload 4, 2) := by decide +kernel
theorem dX4_which_38 : decode cX4_which 38 = .ok (.invokevirtual 183, 3) := by decide +kernel
theorem dX4_which_41 : decode cX4_which 41 = .ok (.iload_n 2, 1) := by decide +kernel
theorem dX4_which_42 : decode cX4_which 42 = .ok (.if_icmp .ne 10, 3) := by decide +kernel
theorem dX4_which_45 : decode cX4_which 45 = .ok (.iload_n 3, 1) := by decide +kernel
theorem dX4_which_46 : decode cX4_which 46 = .ok (.iconst 1, 1) := by decide +kernel
theorem dX4_which_47 : decode cX4_which 47 = .ok (.iload 4, 2) := by decide +kernel
theorem dX4_which_49 : decode cX4_which 49 = .ok (.ishl, 1) := by decide +kernel
theorem dX4_which_50 : decode cX4_which 50 = .ok (.ior, 1) := by decide +kernel
theorem dX4_which_51 : decode cX4_which 51 = .ok (.istore_n 3, 1) := by decide +kernel
theorem dX4_which_52 : decode cX4_which 52 = .ok (.iinc 4 1, 3) := by decide +kernel
theorem dX4_which_55 : decode cX4_which 55 = .ok (.goto (-27), 3) := by decide +kernel
theorem dX4_which_58 : decode cX4_which 58 = .ok (.iload_n 3, 1) := by decide +kernel
theorem dX4_which_59 : decode cX4_which 59 = .ok (.ireturn, 1) := by decide +kernel
theorem dX4_safe_0 : decode cX4_safe 0 = .ok (.aload_n 0, 1) := by decide +kernel
theorem dX4_safe_1 : decode cX4_safe 1 = .ok (.iload_n 1, 1) := by decide +kernel
theorem dX4_safe_2 : decode cX4_safe 2 = .ok (.invokevirtual 91, 3) := by decide +kernel
theorem dX4_safe_5 : decode cX4_safe 5 = .ok (.ifCond .ne 5, 3) := by decide +kernel
theorem dX4_safe_8 : decode cX4_safe 8 = .ok (.iconst (-1), 1) := by decide +kernel
theorem dX4_safe_9 : decode cX4_safe 9 = .ok (.ireturn, 1) := by decide +kernel
theorem dX4_safe_10 : decode cX4_safe 10 = .ok (.iconst 0, 1) := by decide +kernel
theorem dX4_safe_11 : decode cX4_safe 11 = .ok (.istore_n 2, 1) := by decide +kernel
theorem dX4_safe_12 : decode cX4_safe 12 = .ok (.iload_n 2, 1) := by decide +kernel
theorem dX4_safe_13 : decode cX4_safe 13 = .ok (.aload_n 0, 1) := by decide +kernel
theorem dX4_safe_14 : decode cX4_safe 14 = .ok (.getfield 19, 3) := by decide +kernel
theorem dX4_safe_17 : decode cX4_safe 17 = .ok (.getfield 88, 3) := by decide +kernel
theorem dX4_safe_20 : decode cX4_safe 20 = .ok (.if_icmp .ge 36, 3) := by decide +kernel
theorem dX4_safe_23 : decode cX4_safe 23 = .ok (.aload_n 0, 1) := by decide +kernel
theorem dX4_safe_24 : decode cX4_safe 24 = .ok (.iload_n 2, 1) := by decide +kernel
theorem dX4_safe_25 : decode cX4_safe 25 = .ok (.iload_n 1, 1) := by decide +kernel
theorem dX4_safe_26 : decode cX4_safe 26 = .ok (.invokevirtual 161, 3) := by decide +kernel
theorem dX4_safe_29 : decode cX4_safe 29 = .ok (.istore_n 3, 1) := by decide +kernel
theorem dX4_safe_30 : decode cX4_safe 30 = .ok (.iload_n 3, 1) := by decide +kernel
theorem dX4_safe_31 : decode cX4_safe 31 = .ok (.bipush (-4), 2) := by decide +kernel
theorem dX4_safe_33 : decode cX4_safe 33 = .ok (.if_icmp .eq 17, 3) := by decide +kernel
theorem dX4_safe_36 : decode cX4_safe 36 = .ok (.aload_n 0, 1) := by decide +kernel
theorem dX4_safe_37 : decode cX4_safe 37 = .ok (.getfield 19, 3) := by decide +kernel
theorem dX4_safe_40 : decode cX4_safe 40 = .ok (.getfield 95, 3) := by decide +kernel
theorem dX4_safe_43 : decode cX4_safe 43 = .ok (.iload_n 3, 1) := by decide +kernel
theorem dX4_safe_44 : decode cX4_safe 44 = .ok (.iaload, 1) := by decide +kernel
theorem dX4_safe_45 : decode cX4_safe 45 = .ok (.ifCond .ne 5, 3) := by decide +kernel
theorem dX4_safe_48 : decode cX4_safe 48 = .ok (.iload_n 2, 1) := by decide +kernel
theorem dX4_safe_49 : decode cX4_safe 49 = .ok (.ireturn, 1) := by decide +kernel
theorem dX4_safe_50 : decode cX4_safe 50 = .ok (.iinc 2 1, 3) := by decide +kernel
theorem dX4_safe_53 : decode cX4_safe 53 = .ok (.goto (-41), 3) := by decide +kernel
theorem dX4_safe_56 : decode cX4_safe 56 = .ok (.bipush (-4), 2) := by decide +kernel
theorem dX4_safe_58 : decode cX4_safe 58 = .ok (.ireturn, 1) := by decide +kernel
theorem dX4_numbers_0 : decode cX4_numbers 0 = .ok (.iload_n 1, 1) := by decide +kernel
theorem dX4_numbers_1 : decode cX4_numbers 1 = .ok (.iconst 1, 1) := by decide +kernel
theorem dX4_numbers_2 : decode cX4_numbers 2 = .ok (.if_icmp .lt 8, 3) := by decide +kernel
theorem dX4_numbers_5 : decode cX4_numbers 5 = .ok (.iload_n 1, 1) := by decide +kernel
theorem dX4_numbers_6 : decode cX4_numbers 6 = .ok (.iconst 5, 1) := by decide +kernel
theorem dX4_numbers_7 : decode cX4_numbers 7 = .ok (.if_icmp .le 5, 3) := by decide +kernel
theorem dX4_numbers_10 : decode cX4_numbers 10 = .ok (.iconst (-1), 1) := by decide +kernel
theorem dX4_numbers_11 : decode cX4_numbers 11 = .ok (.ireturn, 1) := by decide +kernel
theorem dX4_numbers_12 : decode cX4_numbers 12 = .ok (.aload_n 0, 1) := by decide +kernel
theorem dX4_numbers_13 : decode cX4_numbers 13 = .ok (.invokevirtual 173, 3) := by decide +kernel
theorem dX4_numbers_16 : decode cX4_numbers 16 = .ok (.iconst 0, 1) := by decide +kernel
theorem dX4_numbers_17 : decode cX4_numbers 17 = .ok (.istore_n 2, 1) := by decide +kernel
theorem dX4_numbers_18 : decode cX4_numbers 18 = .ok (.iconst 0, 1) := by decide +kernel
theorem dX4_numbers_19 : decode cX4_numbers 19 = .ok (.istore_n 3, 1) := by decide +kernel
theorem dX4_numbers_20 : decode cX4_numbers 20 = .ok (.iload_n 3, 1) := by decide +kernel
theorem dX4_numbers_21 : decode cX4_numbers 21 = .ok (.getstatic 204, 3) := by decide +kernel
theorem dX4_numbers_24 : decode cX4_numbers 24 = .ok (.iload_n 1, 1) := by decide +kernel
theorem dX4_numbers_25 : decode cX4_numbers 25 = .ok (.iaload, 1) := by decide +kernel
theorem dX4_numbers_26 : decode cX4_numbers 26 = .ok (.if_icmp .ge 21, 3) := by decide +kernel
theorem dX4_numbers_29 : decode cX4_numbers 29 = .ok (.aload_n 0, 1) := by decide +kernel
theorem dX4_numbers_30 : decode cX4_numbers 30 = .ok (.iload_n 3, 1) := by decide +kernel
theorem dX4_numbers_31 : decode cX4_numbers 31 = .ok (.iload_n 1, 1) := by decide +kernel
theorem dX4_numbers_32 : decode cX4_numbers 32 = .ok (.invokevirtual 207, 3) := by decide +kernel
theorem dX4_numbers_35 : decode cX4_numbers 35 = .ok (.ifCond .eq 6, 3) := by decide +kernel
theorem dX4_numbers_38 : decode cX4_numbers 38 = .ok (.iinc 2 1, 3) := by decide +kernel
theorem dX4_numbers_41 : decode cX4_numbers 41 = .ok (.iinc 3 1, 3) := by decide +kernel
theorem dX4_numbers_44 : decode cX4_numbers 44 = .ok (.goto (-24), 3) := by decide +kernel
theorem dX4_numbers_47 : decode cX4_numbers 47 = .ok (.iload_n 2, 1) := by decide +kernel
theorem dX4_numbers_48 : decode cX4_numbers 48 = .ok (.ireturn, 1) := by decide +kernel
theorem dX4_drill_0 : decode cX4_drill 0 = .ok (.iload_n 1, 1) := by decide +kernel
theorem dX4_drill_1 : decode cX4_drill 1 = .ok (.ifCond .lt 28, 3) := by decide +kernel
theorem dX4_drill_4 : decode cX4_drill 4 = .ok (.iload_n 1, 1) := by decide +kernel
theorem dX4_drill_5 : decode cX4_drill 5 = .ok (.sipush 9999, 3) := by decide +kernel
theorem dX4_drill_8 : decode cX4_drill 8 = .ok (.if_icmp .gt 21, 3) := by decide +kernel
theorem dX4_drill_11 : decode cX4_drill 11 = .ok (.iload_n 2, 1) := by decide +kernel
theorem dX4_drill_12 : decode cX4_drill 12 = .ok (.iconst 1, 1) := by decide +kernel
theorem dX4_drill_13 : decode cX4_drill 13 = .ok (.if_icmp .lt 16, 3) := by decide +kernel
theorem dX4_drill_16 : decode cX4_drill 16 = .ok (.iload_n 2, 1) := by decide +kernel
theorem dX4_drill_17 : decode cX4_drill 17 = .ok (.bipush 60, 2) := by decide +kernel
theorem dX4_drill_19 : decode cX4_drill 19 = .ok (.if_icmp .gt 10, 3) := by decide +kernel
theorem dX4_drill_22 : decode cX4_drill 22 = .ok (.iload_n 3, 1) := by decide +kernel
theorem dX4_drill_23 : decode cX4_drill 23 = .ok (.invokestatic 145, 3) := by decide +kernel
theorem dX4_drill_26 : decode cX4_drill 26 = .ok (.ifCond .ne 5, 3) := by decide +kernel
theorem dX4_drill_29 : decode cX4_drill 29 = .ok (.iconst (-1), 1) := by decide +kernel
theorem dX4_drill_30 : decode cX4_drill 30 = .ok (.ireturn, 1) := by decide +kernel
theorem dX4_drill_31 : decode cX4_drill 31 = .ok (.aload_n 0, 1) := by decide +kernel
theorem dX4_drill_32 : decode cX4_drill 32 = .ok (.invokevirtual 121, 3) := by decide +kernel
theorem dX4_drill_35 : decode cX4_drill 35 = .ok (.aload_n 0, 1) := by decide +kernel
theorem dX4_drill_36 : decode cX4_drill 36 = .ok (.getfield 33, 3) := by decide +kernel
theorem dX4_drill_39 : decode cX4_drill 39 = .ok (.aload_n 0, 1) := by decide +kernel
theorem dX4_drill_40 : decode cX4_drill 40 = .ok (.getfield 29, 3) := by decide +kernel
theorem dX4_drill_43 : decode cX4_drill 43 = .ok (.invokevirtual 210, 3) := by decide +kernel
theorem dX4_drill_46 : decode cX4_drill 46 = .ok (.iconst 0, 1) := by decide +kernel
theorem dX4_drill_47 : decode cX4_drill 47 = .ok (.istore 4, 2) := by decide +kernel
theorem dX4_drill_49 : decode cX4_drill 49 = .ok (.iconst 0, 1) := by decide +kernel
theorem dX4_drill_50 : decode cX4_drill 50 = .ok (.istore 5, 2) := by decide +kernel
theorem dX4_drill_52 : decode cX4_drill 52 = .ok (.iload 5, 2) := by decide +kernel
theorem dX4_drill_54 : decode cX4_drill 54 = .ok (.iload_n 2, 1) := by decide +kernel
theorem dX4_drill_55 : decode cX4_drill 55 = .ok (.if_icmp .ge 52, 3) := by decide +kernel
theorem dX4_drill_58 : decode cX4_drill 58 = .ok (.aload_n 0, 1) := by decide +kernel
theorem dX4_drill_59 : decode cX4_drill 59 = .ok (.aload_n 0, 1) := by decide +kernel
theorem dX4_drill_60 : decode cX4_drill 60 = .ok (.getfield 33, 3) := by decide +kernel
theorem dX4_drill_63 : decode cX4_drill 63 = .ok (.ldc2_w 213, 3) := by decide +kernel
theorem dX4_drill_66 : decode cX4_drill 66 = .ok (.iload_n 1, 1) := by decide +kernel
theorem dX4_drill_67 : decode cX4_drill 67 = .ok (.i2l, 1) := by decide +kernel
theorem dX4_drill_68 : decode cX4_drill 68 = .ok (.lmul, 1) := by decide +kernel
theorem dX4_drill_69 : decode cX4_drill 69 = .ok (.ldc2_w 215, 3) := by decide +kernel
theorem dX4_drill_72 : decode cX4_drill 72 = .ok (.iload 5, 2) := by decide +kernel
theorem dX4_drill_74 : decode cX4_drill 74 = .ok (.i2l, 1) := by decide +kernel
theorem dX4_drill_75 : decode cX4_drill 75 = .ok (.lmul, 1) := by decide +kernel
theorem dX4_drill_76 : decode cX4_drill 76 = .ok (.ladd, 1) := by decide +kernel
theorem dX4_drill_77 : decode cX4_drill 77 = .ok (.lconst 1, 1) := by decide +kernel
theorem dX4_drill_78 : decode cX4_drill 78 = .ok (.ladd, 1) := by decide +kernel
theorem dX4_drill_79 : decode cX4_drill 79 = .ok (.invokestatic 217, 3) := by decide +kernel
theorem dX4_drill_82 : decode cX4_drill 82 = .ok (.iconst 3, 1) := by decide +kernel
theorem dX4_drill_83 : decode cX4_drill 83 = .ok (.irem, 1) := by decide +kernel
theorem dX4_drill_84 : decode cX4_drill 84 = .ok (.invokevirtual 124, 3) := by decide +kernel
theorem dX4_drill_87 : decode cX4_drill 87 = .ok (.aload_n 0, 1) := by decide +kernel
theorem dX4_drill_88 : decode cX4_drill 88 = .ok (.aload_n 0, 1) := by decide +kernel
theorem dX4_drill_89 : decode cX4_drill 89 = .ok (.getfield 33, 3) := by decide +kernel
theorem dX4_drill_92 : decode cX4_drill 92 = .ok (.invokevirtual 221, 3) := by decide +kernel
theorem dX4_drill_95 : decode cX4_drill 95 = .ok (.ifCond .eq 6, 3) := by decide +kernel
theorem dX4_drill_98 : decode cX4_drill 98 = .ok (.iinc 4 1, 3) := by decide +kernel
theorem dX4_drill_101 : decode cX4_drill 101 = .ok (.iinc 5 1, 3) := by decide +kernel
theorem dX4_drill_104 : decode cX4_drill 104 = .ok (.goto (-52), 3) := by decide +kernel
theorem dX4_drill_107 : decode cX4_drill 107 = .ok (.iload_n 3, 1) := by decide +kernel
theorem dX4_drill_108 : decode cX4_drill 108 = .ok (.ifCond .ne 17, 3) := by decide +kernel
theorem dX4_drill_111 : decode cX4_drill 111 = .ok (.aload_n 0, 1) := by decide +kernel
theorem dX4_drill_112 : decode cX4_drill 112 = .ok (.aload_n 0, 1) := by decide +kernel
theorem dX4_drill_113 : decode cX4_drill 113 = .ok (.getfield 33, 3) := by decide +kernel
theorem dX4_drill_116 : decode cX4_drill 116 = .ok (.invokevirtual 128, 3) := by decide +kernel
theorem dX4_drill_119 : decode cX4_drill 119 = .ok (.invokestatic 132, 3) := by decide +kernel
theorem dX4_drill_122 : decode cX4_drill 122 = .ok (.goto 5, 3) := by decide +kernel
theorem dX4_drill_125 : decode cX4_drill 125 = .ok (.iload 4, 2) := by decide +kernel
theorem dX4_drill_127 : decode cX4_drill 127 = .ok (.ireturn, 1) := by decide +kernel
theorem dX4_keep_0 : decode cX4_keep 0 = .ok (.aload_n 0, 1) := by decide +kernel
theorem dX4_keep_1 : decode cX4_keep 1 = .ok (.getfield 45, 3) := by decide +kernel
theorem dX4_keep_4 : decode cX4_keep 4 = .ok (.getfield 155, 3) := by decide +kernel
theorem dX4_keep_7 : decode cX4_keep 7 = .ok (.iconst 2, 1) := by decide +kernel
theorem dX4_keep_8 : decode cX4_keep 8 = .ok (.if_icmp .lt 6, 3) := by decide +kernel
theorem dX4_keep_11 : decode cX4_keep 11 = .ok (.bipush (-3), 2) := by decide +kernel
theorem dX4_keep_13 : decode cX4_keep 13 = .ok (.ireturn, 1) := by decide +kernel
theorem dX4_keep_14 : decode cX4_keep 14 = .ok (.aload_n 0, 1) := by decide +kernel
theorem dX4_keep_15 : decode cX4_keep 15 = .ok (.getfield 45, 3) := by decide +kernel
theorem dX4_keep_18 : decode cX4_keep 18 = .ok (.aload_n 0, 1) := by decide +kernel
theorem dX4_keep_19 : decode cX4_keep 19 = .ok (.getfield 29, 3) := by decide +kernel
theorem dX4_keep_22 : decode cX4_keep 22 = .ok (.invokevirtual 117, 3) := by decide +kernel
theorem dX4_keep_25 : decode cX4_keep 25 = .ok (.aload_n 0, 1) := by decide +kernel
theorem dX4_keep_26 : decode cX4_keep 26 = .ok (.getfield 45, 3) := by decide +kernel
theorem dX4_keep_29 : decode cX4_keep 29 = .ok (.getfield 155, 3) := by decide +kernel
theorem dX4_keep_32 : decode cX4_keep 32 = .ok (.ireturn, 1) := by decide +kernel
theorem dX4_back_0 : decode cX4_back 0 = .ok (.aload_n 0, 1) := by decide +kernel
theorem dX4_back_1 : decode cX4_back 1 = .ok (.getfield 45, 3) := by decide +kernel
theorem dX4_back_4 : decode cX4_back 4 = .ok (.aload_n 0, 1) := by decide +kernel
theorem dX4_back_5 : decode cX4_back 5 = .ok (.getfield 29, 3) := by decide +kernel
theorem dX4_back_8 : decode cX4_back 8 = .ok (.invokevirtual 151, 3) := by decide +kernel
theorem dX4_back_11 : decode cX4_back 11 = .ok (.ifCond .ne 6, 3) := by decide +kernel
theorem dX4_back_14 : decode cX4_back 14 = .ok (.bipush (-2), 2) := by decide +kernel
theorem dX4_back_16 : decode cX4_back 16 = .ok (.ireturn, 1) := by decide +kernel
theorem dX4_back_17 : decode cX4_back 17 = .ok (.aload_n 0, 1) := by decide +kernel
theorem dX4_back_18 : decode cX4_back 18 = .ok (.getfield 41, 3) := by decide +kernel
theorem dX4_back_21 : decode cX4_back 21 = .ok (.iconst 0, 1) := by decide +kernel
theorem dX4_back_22 : decode cX4_back 22 = .ok (.putfield 155, 3) := by decide +kernel
theorem dX4_back_25 : decode cX4_back 25 = .ok (.aload_n 0, 1) := by decide +kernel
theorem dX4_back_26 : decode cX4_back 26 = .ok (.getfield 45, 3) := by decide +kernel
theorem dX4_back_29 : decode cX4_back 29 = .ok (.getfield 155, 3) := by decide +kernel
theorem dX4_back_32 : decode cX4_back 32 = .ok (.ireturn, 1) := by decide +kernel
theorem dX4_count_0 : decode cX4_count 0 = .ok (.iload_n 1, 1) := by decide +kernel
theorem dX4_count_1 : decode cX4_count 1 = .ok (.tableswitch 87 0 5 #[39, 47, 55, 63, 71, 79], 39) := by decide +kernel
theorem dX4_count_40 : decode cX4_count 40 = .ok (.aload_n 0, 1) := by decide +kernel
theorem dX4_count_41 : decode cX4_count 41 = .ok (.getfield 19, 3) := by decide +kernel
theorem dX4_count_44 : decode cX4_count 44 = .ok (.getfield 88, 3) := by decide +kernel
theorem dX4_count_47 : decode cX4_count 47 = .ok (.ireturn, 1) := by decide +kernel
theorem dX4_count_48 : decode cX4_count 48 = .ok (.aload_n 0, 1) := by decide +kernel
theorem dX4_count_49 : decode cX4_count 49 = .ok (.getfield 29, 3) := by decide +kernel
theorem dX4_count_52 : decode cX4_count 52 = .ok (.getfield 114, 3) := by decide +kernel
theorem dX4_count_55 : decode cX4_count 55 = .ok (.ireturn, 1) := by decide +kernel
theorem dX4_count_56 : decode cX4_count 56 = .ok (.aload_n 0, 1) := by decide +kernel
theorem dX4_count_57 : decode cX4_count 57 = .ok (.getfield 29, 3) := by decide +kernel
theorem dX4_count_60 : decode cX4_count 60 = .ok (.getfield 148, 3) := by decide +kernel
theorem dX4_count_63 : decode cX4_count 63 = .ok (.ireturn, 1) := by decide +kernel
theorem dX4_count_64 : decode cX4_count 64 = .ok (.aload_n 0, 1) := by decide +kernel
theorem dX4_count_65 : decode cX4_count 65 = .ok (.getfield 41, 3) := by decide +kernel
theorem dX4_count_68 : decode cX4_count 68 = .ok (.getfield 155, 3) := by decide +kernel
theorem dX4_count_71 : decode cX4_count 71 = .ok (.ireturn, 1) := by decide +kernel
theorem dX4_count_72 : decode cX4_count 72 = .ok (.aload_n 0, 1) := by decide +kernel
end
section
theorem dX4_count_73 : decode cX4_count 73 = .ok (.getfield 45, 3) := by decide +kernel
theorem dX4_count_76 : decode cX4_count 76 = .ok (.getfield 155, 3) := by decide +kernel
theorem dX4_count_79 : decode cX4_count 79 = .ok (.ireturn, 1) := by decide +kernel
theorem dX4_count_80 : decode cX4_count 80 = .ok (.aload_n 0, 1) := by decide +kernel
theorem dX4_count_81 : decode cX4_count 81 = .ok (.getfield 10, 3) := by decide +kernel
theorem dX4_count_84 : decode cX4_count 84 = .ok (.getfield 81, 3) := by decide +kernel
theorem dX4_count_87 : decode cX4_count 87 = .ok (.ireturn, 1) := by decide +kernel
theorem dX4_count_88 : decode cX4_count 88 = .ok (.iconst (-1), 1) := by decide +kernel
theorem dX4_count_89 : decode cX4_count 89 = .ok (.ireturn, 1) := by decide +kernel
theorem dX4_isMan_0 : decode cX4_isMan 0 = .ok (.iload_n 1, 1) := by decide +kernel
theorem dX4_isMan_1 : decode cX4_isMan 1 = .ok (.ifCond .lt 18, 3) := by decide +kernel
theorem dX4_isMan_4 : decode cX4_isMan 4 = .ok (.iload_n 1, 1) := by decide +kernel
theorem dX4_isMan_5 : decode cX4_isMan 5 = .ok (.aload_n 0, 1) := by decide +kernel
theorem dX4_isMan_6 : decode cX4_isMan 6 = .ok (.getfield 19, 3) := by decide +kernel
theorem dX4_isMan_9 : decode cX4_isMan 9 = .ok (.getfield 88, 3) := by decide +kernel
theorem dX4_isMan_12 : decode cX4_isMan 12 = .ok (.if_icmp .ge 7, 3) := by decide +kernel
theorem dX4_isMan_15 : decode cX4_isMan 15 = .ok (.iconst 1, 1) := by decide +kernel
theorem dX4_isMan_16 : decode cX4_isMan 16 = .ok (.goto 4, 3) := by decide +kernel
theorem dX4_isMan_19 : decode cX4_isMan 19 = .ok (.iconst 0, 1) := by decide +kernel
theorem dX4_isMan_20 : decode cX4_isMan 20 = .ok (.ireturn, 1) := by decide +kernel
theorem dX4_isWord_0 : decode cX4_isWord 0 = .ok (.iload_n 0, 1) := by decide +kernel
theorem dX4_isWord_1 : decode cX4_isWord 1 = .ok (.ifCond .lt 12, 3) := by decide +kernel
theorem dX4_isWord_4 : decode cX4_isWord 4 = .ok (.iload_n 0, 1) := by decide +kernel
theorem dX4_isWord_5 : decode cX4_isWord 5 = .ok (.iconst 3, 1) := by decide +kernel
theorem dX4_isWord_6 : decode cX4_isWord 6 = .ok (.if_icmp .ge 7, 3) := by decide +kernel
theorem dX4_isWord_9 : decode cX4_isWord 9 = .ok (.iconst 1, 1) := by decide +kernel
theorem dX4_isWord_10 : decode cX4_isWord 10 = .ok (.goto 4, 3) := by decide +kernel
theorem dX4_isWord_13 : decode cX4_isWord 13 = .ok (.iconst 0, 1) := by decide +kernel
theorem dX4_isWord_14 : decode cX4_isWord 14 = .ok (.ireturn, 1) := by decide +kernel
theorem dX4_isEither_0 : decode cX4_isEither 0 = .ok (.iload_n 0, 1) := by decide +kernel
theorem dX4_isEither_1 : decode cX4_isEither 1 = .ok (.ifCond .eq 8, 3) := by decide +kernel
theorem dX4_isEither_4 : decode cX4_isEither 4 = .ok (.iload_n 0, 1) := by decide +kernel
theorem dX4_isEither_5 : decode cX4_isEither 5 = .ok (.iconst 1, 1) := by decide +kernel
theorem dX4_isEither_6 : decode cX4_isEither 6 = .ok (.if_icmp .ne 7, 3) := by decide +kernel
theorem dX4_isEither_9 : decode cX4_isEither 9 = .ok (.iconst 1, 1) := by decide +kernel
theorem dX4_isEither_10 : decode cX4_isEither 10 = .ok (.goto 4, 3) := by decide +kernel
theorem dX4_isEither_13 : decode cX4_isEither 13 = .ok (.iconst 0, 1) := by decide +kernel
theorem dX4_isEither_14 : decode cX4_isEither 14 = .ok (.ireturn, 1) := by decide +kernel
theorem dX4_layScript_0 : decode cX4_layScript 0 = .ok (.aload_n 0, 1) := by decide +kernel
theorem dX4_layScript_1 : decode cX4_layScript 1 = .ok (.getfield 10, 3) := by decide +kernel
theorem dX4_layScript_4 : decode cX4_layScript 4 = .ok (.aload_n 0, 1) := by decide +kernel
theorem dX4_layScript_5 : decode cX4_layScript 5 = .ok (.getfield 23, 3) := by decide +kernel
theorem dX4_layScript_8 : decode cX4_layScript 8 = .ok (.invokevirtual 84, 3) := by decide +kernel
theorem dX4_layScript_11 : decode cX4_layScript 11 = .ok (.bipush (-4), 2) := by decide +kernel
theorem dX4_layScript_13 : decode cX4_layScript 13 = .ok (.if_icmp .ne 13, 3) := by decide +kernel
theorem dX4_layScript_16 : decode cX4_layScript 16 = .ok (.aload_n 0, 1) := by decide +kernel
theorem dX4_layScript_17 : decode cX4_layScript 17 = .ok (.getfield 23, 3) := by decide +kernel
theorem dX4_layScript_20 : decode cX4_layScript 20 = .ok (.invokevirtual 224, 3) := by decide +kernel
theorem dX4_layScript_23 : decode cX4_layScript 23 = .ok (.ifCond .ne 5, 3) := by decide +kernel
theorem dX4_layScript_26 : decode cX4_layScript 26 = .ok (.iconst 0, 1) := by decide +kernel
theorem dX4_layScript_27 : decode cX4_layScript 27 = .ok (.ireturn, 1) := by decide +kernel
theorem dX4_layScript_28 : decode cX4_layScript 28 = .ok (.aload_n 0, 1) := by decide +kernel
theorem dX4_layScript_29 : decode cX4_layScript 29 = .ok (.getfield 19, 3) := by decide +kernel
theorem dX4_layScript_32 : decode cX4_layScript 32 = .ok (.astore_n 1, 1) := by decide +kernel
theorem dX4_layScript_33 : decode cX4_layScript 33 = .ok (.aload_n 0, 1) := by decide +kernel
theorem dX4_layScript_34 : decode cX4_layScript 34 = .ok (.aload_n 0, 1) := by decide +kernel
theorem dX4_layScript_35 : decode cX4_layScript 35 = .ok (.getfield 23, 3) := by decide +kernel
theorem dX4_layScript_38 : decode cX4_layScript 38 = .ok (.putfield 19, 3) := by decide +kernel
theorem dX4_layScript_41 : decode cX4_layScript 41 = .ok (.aload_n 0, 1) := by decide +kernel
theorem dX4_layScript_42 : decode cX4_layScript 42 = .ok (.aload_n 1, 1) := by decide +kernel
theorem dX4_layScript_43 : decode cX4_layScript 43 = .ok (.putfield 23, 3) := by decide +kernel
theorem dX4_layScript_46 : decode cX4_layScript 46 = .ok (.aload_n 0, 1) := by decide +kernel
theorem dX4_layScript_47 : decode cX4_layScript 47 = .ok (.getfield 29, 3) := by decide +kernel
theorem dX4_layScript_50 : decode cX4_layScript 50 = .ok (.aload_n 0, 1) := by decide +kernel
theorem dX4_layScript_51 : decode cX4_layScript 51 = .ok (.getfield 19, 3) := by decide +kernel
theorem dX4_layScript_54 : decode cX4_layScript 54 = .ok (.invokevirtual 227, 3) := by decide +kernel
theorem dX4_layScript_57 : decode cX4_layScript 57 = .ok (.aload_n 0, 1) := by decide +kernel
theorem dX4_layScript_58 : decode cX4_layScript 58 = .ok (.getfield 41, 3) := by decide +kernel
theorem dX4_layScript_61 : decode cX4_layScript 61 = .ok (.iconst 0, 1) := by decide +kernel
theorem dX4_layScript_62 : decode cX4_layScript 62 = .ok (.putfield 155, 3) := by decide +kernel
theorem dX4_layScript_65 : decode cX4_layScript 65 = .ok (.aload_n 0, 1) := by decide +kernel
theorem dX4_layScript_66 : decode cX4_layScript 66 = .ok (.getfield 45, 3) := by decide +kernel
theorem dX4_layScript_69 : decode cX4_layScript 69 = .ok (.iconst 0, 1) := by decide +kernel
theorem dX4_layScript_70 : decode cX4_layScript 70 = .ok (.putfield 155, 3) := by decide +kernel
theorem dX4_layScript_73 : decode cX4_layScript 73 = .ok (.iconst 1, 1) := by decide +kernel
theorem dX4_layScript_74 : decode cX4_layScript 74 = .ok (.ireturn, 1) := by decide +kernel
theorem dX4_chainEnd_0 : decode cX4_chainEnd 0 = .ok (.iload_n 1, 1) := by decide +kernel
theorem dX4_chainEnd_1 : decode cX4_chainEnd 1 = .ok (.istore_n 3, 1) := by decide +kernel
theorem dX4_chainEnd_2 : decode cX4_chainEnd 2 = .ok (.iconst 0, 1) := by decide +kernel
theorem dX4_chainEnd_3 : decode cX4_chainEnd 3 = .ok (.istore 4, 2) := by decide +kernel
theorem dX4_chainEnd_5 : decode cX4_chainEnd 5 = .ok (.iload 4, 2) := by decide +kernel
theorem dX4_chainEnd_7 : decode cX4_chainEnd 7 = .ok (.aload_n 0, 1) := by decide +kernel
theorem dX4_chainEnd_8 : decode cX4_chainEnd 8 = .ok (.getfield 19, 3) := by decide +kernel
theorem dX4_chainEnd_11 : decode cX4_chainEnd 11 = .ok (.getfield 88, 3) := by decide +kernel
theorem dX4_chainEnd_14 : decode cX4_chainEnd 14 = .ok (.if_icmp .gt 39, 3) := by decide +kernel
theorem dX4_chainEnd_17 : decode cX4_chainEnd 17 = .ok (.iload_n 3, 1) := by decide +kernel
theorem dX4_chainEnd_18 : decode cX4_chainEnd 18 = .ok (.iload_n 2, 1) := by decide +kernel
theorem dX4_chainEnd_19 : decode cX4_chainEnd 19 = .ok (.if_icmp .eq 34, 3) := by decide +kernel
theorem dX4_chainEnd_22 : decode cX4_chainEnd 22 = .ok (.aload_n 0, 1) := by decide +kernel
theorem dX4_chainEnd_23 : decode cX4_chainEnd 23 = .ok (.getfield 19, 3) := by decide +kernel
theorem dX4_chainEnd_26 : decode cX4_chainEnd 26 = .ok (.getfield 95, 3) := by decide +kernel
theorem dX4_chainEnd_29 : decode cX4_chainEnd 29 = .ok (.iload_n 3, 1) := by decide +kernel
theorem dX4_chainEnd_30 : decode cX4_chainEnd 30 = .ok (.iaload, 1) := by decide +kernel
theorem dX4_chainEnd_31 : decode cX4_chainEnd 31 = .ok (.iconst 2, 1) := by decide +kernel
theorem dX4_chainEnd_32 : decode cX4_chainEnd 32 = .ok (.if_icmp .eq 5, 3) := by decide +kernel
theorem dX4_chainEnd_35 : decode cX4_chainEnd 35 = .ok (.iload_n 3, 1) := by decide +kernel
theorem dX4_chainEnd_36 : decode cX4_chainEnd 36 = .ok (.ireturn, 1) := by decide +kernel
theorem dX4_chainEnd_37 : decode cX4_chainEnd 37 = .ok (.aload_n 0, 1) := by decide +kernel
theorem dX4_chainEnd_38 : decode cX4_chainEnd 38 = .ok (.getfield 29, 3) := by decide +kernel
theorem dX4_chainEnd_41 : decode cX4_chainEnd 41 = .ok (.getfield 101, 3) := by decide +kernel
theorem dX4_chainEnd_44 : decode cX4_chainEnd 44 = .ok (.iload_n 3, 1) := by decide +kernel
theorem dX4_chainEnd_45 : decode cX4_chainEnd 45 = .ok (.iaload, 1) := by decide +kernel
theorem dX4_chainEnd_46 : decode cX4_chainEnd 46 = .ok (.istore_n 3, 1) := by decide +kernel
theorem dX4_chainEnd_47 : decode cX4_chainEnd 47 = .ok (.iinc 4 1, 3) := by decide +kernel
theorem dX4_chainEnd_50 : decode cX4_chainEnd 50 = .ok (.goto (-45), 3) := by decide +kernel
theorem dX4_chainEnd_53 : decode cX4_chainEnd 53 = .ok (.bipush (-4), 2) := by decide +kernel
theorem dX4_chainEnd_55 : decode cX4_chainEnd 55 = .ok (.ireturn, 1) := by decide +kernel
theorem dX4_heeds_0 : decode cX4_heeds 0 = .ok (.aload_n 0, 1) := by decide +kernel
theorem dX4_heeds_1 : decode cX4_heeds 1 = .ok (.getfield 29, 3) := by decide +kernel
theorem dX4_heeds_4 : decode cX4_heeds 4 = .ok (.getfield 148, 3) := by decide +kernel
theorem dX4_heeds_7 : decode cX4_heeds 7 = .ok (.ifCond .ne 30, 3) := by decide +kernel
theorem dX4_heeds_10 : decode cX4_heeds 10 = .ok (.aload_n 0, 1) := by decide +kernel
theorem dX4_heeds_11 : decode cX4_heeds 11 = .ok (.iload_n 1, 1) := by decide +kernel
theorem dX4_heeds_12 : decode cX4_heeds 12 = .ok (.bipush (-4), 2) := by decide +kernel
theorem dX4_heeds_14 : decode cX4_heeds 14 = .ok (.invokevirtual 161, 3) := by decide +kernel
theorem dX4_heeds_17 : decode cX4_heeds 17 = .ok (.bipush (-4), 2) := by decide +kernel
theorem dX4_heeds_19 : decode cX4_heeds 19 = .ok (.if_icmp .eq 18, 3) := by decide +kernel
theorem dX4_heeds_22 : decode cX4_heeds 22 = .ok (.aload_n 0, 1) := by decide +kernel
theorem dX4_heeds_23 : decode cX4_heeds 23 = .ok (.iload_n 1, 1) := by decide +kernel
theorem dX4_heeds_24 : decode cX4_heeds 24 = .ok (.iload_n 2, 1) := by decide +kernel
theorem dX4_heeds_25 : decode cX4_heeds 25 = .ok (.invokevirtual 161, 3) := by decide +kernel
theorem dX4_heeds_28 : decode cX4_heeds 28 = .ok (.bipush (-4), 2) := by decide +kernel
theorem dX4_heeds_30 : decode cX4_heeds 30 = .ok (.if_icmp .ne 7, 3) := by decide +kernel
theorem dX4_heeds_33 : decode cX4_heeds 33 = .ok (.iconst 1, 1) := by decide +kernel
theorem dX4_heeds_34 : decode cX4_heeds 34 = .ok (.goto 4, 3) := by decide +kernel
theorem dX4_heeds_37 : decode cX4_heeds 37 = .ok (.iconst 0, 1) := by decide +kernel
theorem dX4_heeds_38 : decode cX4_heeds 38 = .ok (.ireturn, 1) := by decide +kernel
theorem dX4_findLeaders_0 : decode cX4_findLeaders 0 = .ok (.iconst 0, 1) := by decide +kernel
theorem dX4_findLeaders_1 : decode cX4_findLeaders 1 = .ok (.istore_n 1, 1) := by decide +kernel
theorem dX4_findLeaders_2 : decode cX4_findLeaders 2 = .ok (.iload_n 1, 1) := by decide +kernel
theorem dX4_findLeaders_3 : decode cX4_findLeaders 3 = .ok (.aload_n 0, 1) := by decide +kernel
theorem dX4_findLeaders_4 : decode cX4_findLeaders 4 = .ok (.getfield 19, 3) := by decide +kernel
theorem dX4_findLeaders_7 : decode cX4_findLeaders 7 = .ok (.getfield 88, 3) := by decide +kernel
theorem dX4_findLeaders_10 : decode cX4_findLeaders 10 = .ok (.if_icmp .ge 49, 3) := by decide +kernel
theorem dX4_findLeaders_13 : decode cX4_findLeaders 13 = .ok (.aload_n 0, 1) := by decide +kernel
theorem dX4_findLeaders_14 : decode cX4_findLeaders 14 = .ok (.getfield 29, 3) := by decide +kernel
theorem dX4_findLeaders_17 : decode cX4_findLeaders 17 = .ok (.getfield 148, 3) := by decide +kernel
theorem dX4_findLeaders_20 : decode cX4_findLeaders 20 = .ok (.iconst 1, 1) := by decide +kernel
theorem dX4_findLeaders_21 : decode cX4_findLeaders 21 = .ok (.if_icmp .ne 7, 3) := by decide +kernel
theorem dX4_findLeaders_24 : decode cX4_findLeaders 24 = .ok (.iload_n 1, 1) := by decide +kernel
theorem dX4_findLeaders_25 : decode cX4_findLeaders 25 = .ok (.goto 10, 3) := by decide +kernel
theorem dX4_findLeaders_28 : decode cX4_findLeaders 28 = .ok (.aload_n 0, 1) := by decide +kernel
theorem dX4_findLeaders_29 : decode cX4_findLeaders 29 = .ok (.iload_n 1, 1) := by decide +kernel
theorem dX4_findLeaders_30 : decode cX4_findLeaders 30 = .ok (.bipush (-4), 2) := by decide +kernel
theorem dX4_findLeaders_32 : decode cX4_findLeaders 32 = .ok (.invokevirtual 161, 3) := by decide +kernel
theorem dX4_findLeaders_35 : decode cX4_findLeaders 35 = .ok (.istore_n 2, 1) := by decide +kernel
theorem dX4_findLeaders_36 : decode cX4_findLeaders 36 = .ok (.aload_n 0, 1) := by decide +kernel
theorem dX4_findLeaders_37 : decode cX4_findLeaders 37 = .ok (.getfield 48, 3) := by decide +kernel
theorem dX4_findLeaders_40 : decode cX4_findLeaders 40 = .ok (.iload_n 1, 1) := by decide +kernel
theorem dX4_findLeaders_41 : decode cX4_findLeaders 41 = .ok (.iload_n 2, 1) := by decide +kernel
theorem dX4_findLeaders_42 : decode cX4_findLeaders 42 = .ok (.bipush (-4), 2) := by decide +kernel
theorem dX4_findLeaders_44 : decode cX4_findLeaders 44 = .ok (.if_icmp .ne 7, 3) := by decide +kernel
theorem dX4_findLeaders_47 : decode cX4_findLeaders 47 = .ok (.iload_n 1, 1) := by decide +kernel
theorem dX4_findLeaders_48 : decode cX4_findLeaders 48 = .ok (.goto 4, 3) := by decide +kernel
theorem dX4_findLeaders_51 : decode cX4_findLeaders 51 = .ok (.iload_n 2, 1) := by decide +kernel
theorem dX4_findLeaders_52 : decode cX4_findLeaders 52 = .ok (.iastore, 1) := by decide +kernel
theorem dX4_findLeaders_53 : decode cX4_findLeaders 53 = .ok (.iinc 1 1, 3) := by decide +kernel
theorem dX4_findLeaders_56 : decode cX4_findLeaders 56 = .ok (.goto (-54), 3) := by decide +kernel
theorem dX4_findLeaders_59 : decode cX4_findLeaders 59 = .ok (.return_, 1) := by decide +kernel
theorem dX4_drawOf_0 : decode cX4_drawOf 0 = .ok (.lload_n 0, 1) := by decide +kernel
theorem dX4_drawOf_1 : decode cX4_drawOf 1 = .ok (.lload_n 0, 1) := by decide +kernel
theorem dX4_drawOf_2 : decode cX4_drawOf 2 = .ok (.lmul, 1) := by decide +kernel
theorem dX4_drawOf_3 : decode cX4_drawOf 3 = .ok (.ldc2_w 231, 3) := by decide +kernel
theorem dX4_drawOf_6 : decode cX4_drawOf 6 = .ok (.lrem, 1) := by decide +kernel
theorem dX4_drawOf_7 : decode cX4_drawOf 7 = .ok (.ldc2_w 233, 3) := by decide +kernel
theorem dX4_drawOf_10 : decode cX4_drawOf 10 = .ok (.ldiv, 1) := by decide +kernel
theorem dX4_drawOf_11 : decode cX4_drawOf 11 = .ok (.l2i, 1) := by decide +kernel
theorem dX4_drawOf_12 : decode cX4_drawOf 12 = .ok (.ireturn, 1) := by decide +kernel
theorem dX4_isChancy_0 : decode cX4_isChancy 0 = .ok (.aload_n 0, 1) := by decide +kernel
theorem dX4_isChancy_1 : decode cX4_isChancy 1 = .ok (.getfield 19, 3) := by decide +kernel
theorem dX4_isChancy_4 : decode cX4_isChancy 4 = .ok (.getfield 95, 3) := by decide +kernel
theorem dX4_isChancy_7 : decode cX4_isChancy 7 = .ok (.iload_n 1, 1) := by decide +kernel
theorem dX4_isChancy_8 : decode cX4_isChancy 8 = .ok (.iaload, 1) := by decide +kernel
theorem dX4_isChancy_9 : decode cX4_isChancy 9 = .ok (.iconst 1, 1) := by decide +kernel
theorem dX4_isChancy_10 : decode cX4_isChancy 10 = .ok (.if_icmp .eq 16, 3) := by decide +kernel
theorem dX4_isChancy_13 : decode cX4_isChancy 13 = .ok (.aload_n 0, 1) := by decide +kernel
theorem dX4_isChancy_14 : decode cX4_isChancy 14 = .ok (.getfield 19, 3) := by decide +kernel
theorem dX4_isChancy_17 : decode cX4_isChancy 17 = .ok (.getfield 95, 3) := by decide +kernel
theorem dX4_isChancy_20 : decode cX4_isChancy 20 = .ok (.iload_n 1, 1) := by decide +kernel
theorem dX4_isChancy_21 : decode cX4_isChancy 21 = .ok (.iaload, 1) := by decide +kernel
theorem dX4_isChancy_22 : decode cX4_isChancy 22 = .ok (.iconst 2, 1) := by decide +kernel
theorem dX4_isChancy_23 : decode cX4_isChancy 23 = .ok (.if_icmp .ne 7, 3) := by decide +kernel
theorem dX4_isChancy_26 : decode cX4_isChancy 26 = .ok (.iconst 1, 1) := by decide +kernel
theorem dX4_isChancy_27 : decode cX4_isChancy 27 = .ok (.goto 4, 3) := by decide +kernel
theorem dX4_isChancy_30 : decode cX4_isChancy 30 = .ok (.iconst 0, 1) := by decide +kernel
theorem dX4_isChancy_31 : decode cX4_isChancy 31 = .ok (.ireturn, 1) := by decide +kernel
theorem dX4_mannerOf_0 : decode cX4_mannerOf 0 = .ok (.aload_n 0, 1) := by decide +kernel
theorem dX4_mannerOf_1 : decode cX4_mannerOf 1 = .ok (.getfield 19, 3) := by decide +kernel
theorem dX4_mannerOf_4 : decode cX4_mannerOf 4 = .ok (.getfield 95, 3) := by decide +kernel
theorem dX4_mannerOf_7 : decode cX4_mannerOf 7 = .ok (.iload_n 1, 1) := by decide +kernel
theorem dX4_mannerOf_8 : decode cX4_mannerOf 8 = .ok (.iaload, 1) := by decide +kernel
theorem dX4_mannerOf_9 : decode cX4_mannerOf 9 = .ok (.iconst 3, 1) := by decide +kernel
theorem dX4_mannerOf_10 : decode cX4_mannerOf 10 = .ok (.if_icmp .ne 5, 3) := by decide +kernel
theorem dX4_mannerOf_13 : decode cX4_mannerOf 13 = .ok (.iconst 2, 1) := by decide +kernel
theorem dX4_mannerOf_14 : decode cX4_mannerOf 14 = .ok (.ireturn, 1) := by decide +kernel
theorem dX4_mannerOf_15 : decode cX4_mannerOf 15 = .ok (.aload_n 0, 1) := by decide +kernel
theorem dX4_mannerOf_16 : decode cX4_mannerOf 16 = .ok (.iload_n 1, 1) := by decide +kernel
theorem dX4_mannerOf_17 : decode cX4_mannerOf 17 = .ok (.invokevirtual 235, 3) := by decide +kernel
theorem dX4_mannerOf_20 : decode cX4_mannerOf 20 = .ok (.ifCond .eq 11, 3) := by decide +kernel
theorem dX4_mannerOf_23 : decode cX4_mannerOf 23 = .ok (.iload_n 2, 1) := by decide +kernel
theorem dX4_mannerOf_24 : decode cX4_mannerOf 24 = .ok (.ifCond .eq 7, 3) := by decide +kernel
theorem dX4_mannerOf_27 : decode cX4_mannerOf 27 = .ok (.iconst 1, 1) := by decide +kernel
theorem dX4_mannerOf_28 : decode cX4_mannerOf 28 = .ok (.goto 4, 3) := by decide +kernel
theorem dX4_mannerOf_31 : decode cX4_mannerOf 31 = .ok (.iconst 0, 1) := by decide +kernel
theorem dX4_mannerOf_32 : decode cX4_mannerOf 32 = .ok (.ireturn, 1) := by decide +kernel
theorem dX4_errsByDraw_0 : decode cX4_errsByDraw 0 = .ok (.ldc2_w 213, 3) := by decide +kernel
theorem dX4_errsByDraw_3 : decode cX4_errsByDraw 3 = .ok (.aload_n 0, 1) := by decide +kernel
theorem dX4_errsByDraw_4 : decode cX4_errsByDraw 4 = .ok (.getfield 19, 3) := by decide +kernel
theorem dX4_errsByDraw_7 : decode cX4_errsByDraw 7 = .ok (.getfield 238, 3) := by decide +kernel
theorem dX4_errsByDraw_10 : decode cX4_errsByDraw 10 = .ok (.i2l, 1) := by decide +kernel
theorem dX4_errsByDraw_11 : decode cX4_errsByDraw 11 = .ok (.lmul, 1) := by decide +kernel
theorem dX4_errsByDraw_12 : decode cX4_errsByDraw 12 = .ok (.ldc2_w 215, 3) := by decide +kernel
theorem dX4_errsByDraw_15 : decode cX4_errsByDraw 15 = .ok (.iload_n 2, 1) := by decide +kernel
theorem dX4_errsByDraw_16 : decode cX4_errsByDraw 16 = .ok (.i2l, 1) := by decide +kernel
theorem dX4_errsByDraw_17 : decode cX4_errsByDraw 17 = .ok (.lmul, 1) := by decide +kernel
theorem dX4_errsByDraw_18 : decode cX4_errsByDraw 18 = .ok (.ladd, 1) := by decide +kernel
theorem dX4_errsByDraw_19 : decode cX4_errsByDraw 19 = .ok (.ldc2_w 241, 3) := by decide +kernel
theorem dX4_errsByDraw_22 : decode cX4_errsByDraw 22 = .ok (.iload_n 1, 1) := by decide +kernel
theorem dX4_errsByDraw_23 : decode cX4_errsByDraw 23 = .ok (.i2l, 1) := by decide +kernel
theorem dX4_errsByDraw_24 : decode cX4_errsByDraw 24 = .ok (.lmul, 1) := by decide +kernel
theorem dX4_errsByDraw_25 : decode cX4_errsByDraw 25 = .ok (.ladd, 1) := by decide +kernel
theorem dX4_errsByDraw_26 : decode cX4_errsByDraw 26 = .ok (.lconst 1, 1) := by decide +kernel
theorem dX4_errsByDraw_27 : decode cX4_errsByDraw 27 = .ok (.ladd, 1) := by decide +kernel
theorem dX4_errsByDraw_28 : decode cX4_errsByDraw 28 = .ok (.lstore_n 3, 1) := by decide +kernel
theorem dX4_errsByDraw_29 : decode cX4_errsByDraw 29 = .ok (.lload_n 3, 1) := by decide +kernel
theorem dX4_errsByDraw_30 : decode cX4_errsByDraw 30 = .ok (.invokestatic 217, 3) := by decide +kernel
theorem dX4_errsByDraw_33 : decode cX4_errsByDraw 33 = .ok (.bipush 10, 2) := by decide +kernel
theorem dX4_errsByDraw_35 : decode cX4_errsByDraw 35 = .ok (.irem, 1) := by decide +kernel
theorem dX4_errsByDraw_36 : decode cX4_errsByDraw 36 = .ok (.aload_n 0, 1) := by decide +kernel
theorem dX4_errsByDraw_37 : decode cX4_errsByDraw 37 = .ok (.getfield 19, 3) := by decide +kernel
theorem dX4_errsByDraw_40 : decode cX4_errsByDraw 40 = .ok (.getfield 104, 3) := by decide +kernel
theorem dX4_errsByDraw_43 : decode cX4_errsByDraw 43 = .ok (.iload_n 1, 1) := by decide +kernel
theorem dX4_errsByDraw_44 : decode cX4_errsByDraw 44 = .ok (.iaload, 1) := by decide +kernel
theorem dX4_errsByDraw_45 : decode cX4_errsByDraw 45 = .ok (.if_icmp .ge 7, 3) := by decide +kernel
theorem dX4_errsByDraw_48 : decode cX4_errsByDraw 48 = .ok (.iconst 1, 1) := by decide +kernel
theorem dX4_errsByDraw_49 : decode cX4_errsByDraw 49 = .ok (.goto 4, 3) := by decide +kernel
theorem dX4_errsByDraw_52 : decode cX4_errsByDraw 52 = .ok (.iconst 0, 1) := by decide +kernel
theorem dX4_errsByDraw_53 : decode cX4_errsByDraw 53 = .ok (.ireturn, 1) := by decide +kernel
theorem dX4_turnBy_0 : decode cX4_turnBy 0 = .ok (.iload_n 0, 1) := by decide +kernel
theorem dX4_turnBy_1 : decode cX4_turnBy 1 = .ok (.iconst 2, 1) := by decide +kernel
theorem dX4_turnBy_2 : decode cX4_turnBy 2 = .ok (.if_icmp .ne 5, 3) := by decide +kernel
theorem dX4_turnBy_5 : decode cX4_turnBy 5 = .ok (.iload_n 2, 1) := by decide +kernel
theorem dX4_turnBy_6 : decode cX4_turnBy 6 = .ok (.ireturn, 1) := by decide +kernel
theorem dX4_turnBy_7 : decode cX4_turnBy 7 = .ok (.iload_n 0, 1) := by decide +kernel
theorem dX4_turnBy_8 : decode cX4_turnBy 8 = .ok (.iconst 1, 1) := by decide +kernel
theorem dX4_turnBy_9 : decode cX4_turnBy 9 = .ok (.if_icmp .ne 9, 3) := by decide +kernel
theorem dX4_turnBy_12 : decode cX4_turnBy 12 = .ok (.iconst 4, 1) := by decide +kernel
theorem dX4_turnBy_13 : decode cX4_turnBy 13 = .ok (.iload_n 1, 1) := by decide +kernel
theorem dX4_turnBy_14 : decode cX4_turnBy 14 = .ok (.isub, 1) := by decide +kernel
theorem dX4_turnBy_15 : decode cX4_turnBy 15 = .ok (.goto 4, 3) := by decide +kernel
theorem dX4_turnBy_18 : decode cX4_turnBy 18 = .ok (.iload_n 1, 1) := by decide +kernel
theorem dX4_turnBy_19 : decode cX4_turnBy 19 = .ok (.ireturn, 1) := by decide +kernel
theorem dX4_say_0 : decode cX4_say 0 = .ok (.getstatic 186, 3) := by decide +kernel
theorem dX4_say_3 : decode cX4_say 3 = .ok (.iload_n 2, 1) := by decide +kernel
theorem dX4_say_4 : decode cX4_say 4 = .ok (.iaload, 1) := by decide +kernel
theorem dX4_say_5 : decode cX4_say 5 = .ok (.istore_n 3, 1) := by decide +kernel
theorem dX4_say_6 : decode cX4_say 6 = .ok (.iconst 0, 1) := by decide +kernel
theorem dX4_say_7 : decode cX4_say 7 = .ok (.istore 4, 2) := by decide +kernel
theorem dX4_say_9 : decode cX4_say 9 = .ok (.iload 4, 2) := by decide +kernel
theorem dX4_say_11 : decode cX4_say 11 = .ok (.aload_n 0, 1) := by decide +kernel
theorem dX4_say_12 : decode cX4_say 12 = .ok (.getfield 19, 3) := by decide +kernel
theorem dX4_say_15 : decode cX4_say 15 = .ok (.getfield 88, 3) := by decide +kernel
theorem dX4_say_18 : decode cX4_say 18 = .ok (.if_icmp .ge 87, 3) := by decide +kernel
theorem dX4_say_21 : decode cX4_say 21 = .ok (.aload_n 0, 1) := by decide +kernel
theorem dX4_say_22 : decode cX4_say 22 = .ok (.aload_n 0, 1) := by decide +kernel
theorem dX4_say_23 : decode cX4_say 23 = .ok (.getfield 48, 3) := by decide +kernel
theorem dX4_say_26 : decode cX4_say 26 = .ok (.iload 4, 2) := by decide +kernel
theorem dX4_say_28 : decode cX4_say 28 = .ok (.iaload, 1) := by decide +kernel
theorem dX4_say_29 : decode cX4_say 29 = .ok (.aload_n 1, 1) := by decide +kernel
theorem dX4_say_30 : decode cX4_say 30 = .ok (.getfield 114, 3) := by decide +kernel
theorem dX4_say_33 : decode cX4_say 33 = .ok (.invokevirtual 243, 3) := by decide +kernel
theorem dX4_say_36 : decode cX4_say 36 = .ok (.istore 5, 2) := by decide +kernel
theorem dX4_say_38 : decode cX4_say 38 = .ok (.aload_n 0, 1) := by decide +kernel
theorem dX4_say_39 : decode cX4_say 39 = .ok (.aload_n 0, 1) := by decide +kernel
theorem dX4_say_40 : decode cX4_say 40 = .ok (.getfield 48, 3) := by decide +kernel
theorem dX4_say_43 : decode cX4_say 43 = .ok (.iload 4, 2) := by decide +kernel
theorem dX4_say_45 : decode cX4_say 45 = .ok (.iaload, 1) := by decide +kernel
theorem dX4_say_46 : decode cX4_say 46 = .ok (.iload 5, 2) := by decide +kernel
theorem dX4_say_48 : decode cX4_say 48 = .ok (.invokevirtual 246, 3) := by decide +kernel
theorem dX4_say_51 : decode cX4_say 51 = .ok (.iload_n 3, 1) := by decide +kernel
theorem dX4_say_52 : decode cX4_say 52 = .ok (.aload_n 1, 1) := by decide +kernel
theorem dX4_say_53 : decode cX4_say 53 = .ok (.getfield 250, 3) := by decide +kernel
theorem dX4_say_56 : decode cX4_say 56 = .ok (.invokestatic 253, 3) := by decide +kernel
theorem dX4_say_59 : decode cX4_say 59 = .ok (.istore 6, 2) := by decide +kernel
theorem dX4_say_61 : decode cX4_say 61 = .ok (.aload_n 1, 1) := by decide +kernel
theorem dX4_say_62 : decode cX4_say 62 = .ok (.getfield 98, 3) := by decide +kernel
theorem dX4_say_65 : decode cX4_say 65 = .ok (.iload 4, 2) := by decide +kernel
theorem dX4_say_67 : decode cX4_say 67 = .ok (.aload_n 1, 1) := by decide +kernel
theorem dX4_say_68 : decode cX4_say 68 = .ok (.getfield 98, 3) := by decide +kernel
theorem dX4_say_71 : decode cX4_say 71 = .ok (.iload 4, 2) := by decide +kernel
theorem dX4_say_73 : decode cX4_say 73 = .ok (.iaload, 1) := by decide +kernel
theorem dX4_say_74 : decode cX4_say 74 = .ok (.iload 6, 2) := by decide +kernel
theorem dX4_say_76 : decode cX4_say 76 = .ok (.iadd, 1) := by decide +kernel
theorem dX4_say_77 : decode cX4_say 77 = .ok (.iconst 4, 1) := by decide +kernel
theorem dX4_say_78 : decode cX4_say 78 = .ok (.irem, 1) := by decide +kernel
theorem dX4_say_79 : decode cX4_say 79 = .ok (.iastore, 1) := by decide +kernel
theorem dX4_say_80 : decode cX4_say 80 = .ok (.iload 6, 2) := by decide +kernel
theorem dX4_say_82 : decode cX4_say 82 = .ok (.iload_n 3, 1) := by decide +kernel
theorem dX4_say_83 : decode cX4_say 83 = .ok (.if_icmp .eq 16, 3) := by decide +kernel
theorem dX4_say_86 : decode cX4_say 86 = .ok (.aload_n 1, 1) := by decide +kernel
theorem dX4_say_87 : decode cX4_say 87 = .ok (.dup, 1) := by decide +kernel
theorem dX4_say_88 : decode cX4_say 88 = .ok (.getfield 158, 3) := by decide +kernel
theorem dX4_say_91 : decode cX4_say 91 = .ok (.iconst 1, 1) := by decide +kernel
theorem dX4_say_92 : decode cX4_say 92 = .ok (.iload 4, 2) := by decide +kernel
theorem dX4_say_94 : decode cX4_say 94 = .ok (.ishl, 1) := by decide +kernel
theorem dX4_say_95 : decode cX4_say 95 = .ok (.ior, 1) := by decide +kernel
theorem dX4_say_96 : decode cX4_say 96 = .ok (.putfield 158, 3) := by decide +kernel
theorem dX4_say_99 : decode cX4_say 99 = .ok (.iinc 4 1, 3) := by decide +kernel
theorem dX4_say_102 : decode cX4_say 102 = .ok (.goto (-93), 3) := by decide +kernel
theorem dX4_say_105 : decode cX4_say 105 = .ok (.aload_n 1, 1) := by decide +kernel
theorem dX4_say_106 : decode cX4_say 106 = .ok (.dup, 1) := by decide +kernel
theorem dX4_say_107 : decode cX4_say 107 = .ok (.getfield 114, 3) := by decide +kernel
theorem dX4_say_110 : decode cX4_say 110 = .ok (.iconst 1, 1) := by decide +kernel
theorem dX4_say_111 : decode cX4_say 111 = .ok (.iadd, 1) := by decide +kernel
theorem dX4_say_112 : decode cX4_say 112 = .ok (.putfield 114, 3) := by decide +kernel
theorem dX4_say_115 : decode cX4_say 115 = .ok (.aload_n 1, 1) := by decide +kernel
theorem dX4_say_116 : decode cX4_say 116 = .ok (.iload_n 3, 1) := by decide +kernel
theorem dX4_say_117 : decode cX4_say 117 = .ok (.putfield 250, 3) := by decide +kernel
theorem dX4_say_120 : decode cX4_say 120 = .ok (.aload_n 1, 1) := by decide +kernel
theorem dX4_say_121 : decode cX4_say 121 = .ok (.aload_n 1, 1) := by decide +kernel
theorem dX4_say_122 : decode cX4_say 122 = .ok (.getfield 256, 3) := by decide +kernel
theorem dX4_say_125 : decode cX4_say 125 = .ok (.iload_n 3, 1) := by decide +kernel
theorem dX4_say_126 : decode cX4_say 126 = .ok (.iadd, 1) := by decide +kernel
theorem dX4_say_127 : decode cX4_say 127 = .ok (.iconst 4, 1) := by decide +kernel
theorem dX4_say_128 : decode cX4_say 128 = .ok (.irem, 1) := by decide +kernel
theorem dX4_say_129 : decode cX4_say 129 = .ok (.putfield 256, 3) := by decide +kernel
theorem dX4_say_132 : decode cX4_say 132 = .ok (.return_, 1) := by decide +kernel
theorem dX4_dueFacing_0 : decode cX4_dueFacing 0 = .ok (.aload_n 0, 1) := by decide +kernel
theorem dX4_dueFacing_1 : decode cX4_dueFacing 1 = .ok (.getfield 19, 3) := by decide +kernel
theorem dX4_dueFacing_4 : decode cX4_dueFacing 4 = .ok (.getfield 259, 3) := by decide +kernel
theorem dX4_dueFacing_7 : decode cX4_dueFacing 7 = .ok (.iload_n 2, 1) := by decide +kernel
theorem dX4_dueFacing_8 : decode cX4_dueFacing 8 = .ok (.iaload, 1) := by decide +kernel
theorem dX4_dueFacing_9 : decode cX4_dueFacing 9 = .ok (.aload_n 1, 1) := by decide +kernel
theorem dX4_dueFacing_10 : decode cX4_dueFacing 10 = .ok (.getfield 256, 3) := by decide +kernel
theorem dX4_dueFacing_13 : decode cX4_dueFacing 13 = .ok (.iadd, 1) := by decide +kernel
theorem dX4_dueFacing_14 : decode cX4_dueFacing 14 = .ok (.iconst 4, 1) := by decide +kernel
theorem dX4_dueFacing_15 : decode cX4_dueFacing 15 = .ok (.irem, 1) := by decide +kernel
theorem dX4_dueFacing_16 : decode cX4_dueFacing 16 = .ok (.ireturn, 1) := by decide +kernel
theorem dX4_wrongMen_0 : decode cX4_wrongMen 0 = .ok (.iconst 0, 1) := by decide +kernel
theorem dX4_wrongMen_1 : decode cX4_wrongMen 1 = .ok (.istore_n 2, 1) := by decide +kernel
theorem dX4_wrongMen_2 : decode cX4_wrongMen 2 = .ok (.iconst 0, 1) := by decide +kernel
theorem dX4_wrongMen_3 : decode cX4_wrongMen 3 = .ok (.istore_n 3, 1) := by decide +kernel
theorem dX4_wrongMen_4 : decode cX4_wrongMen 4 = .ok (.iload_n 3, 1) := by decide +kernel
theorem dX4_wrongMen_5 : decode cX4_wrongMen 5 = .ok (.aload_n 0, 1) := by decide +kernel
theorem dX4_wrongMen_6 : decode cX4_wrongMen 6 = .ok (.getfield 19, 3) := by decide +kernel
theorem dX4_wrongMen_9 : decode cX4_wrongMen 9 = .ok (.getfield 88, 3) := by decide +kernel
theorem dX4_wrongMen_12 : decode cX4_wrongMen 12 = .ok (.if_icmp .ge 30, 3) := by decide +kernel
theorem dX4_wrongMen_15 : decode cX4_wrongMen 15 = .ok (.aload_n 1, 1) := by decide +kernel
theorem dX4_wrongMen_16 : decode cX4_wrongMen 16 = .ok (.getfield 98, 3) := by decide +kernel
theorem dX4_wrongMen_19 : decode cX4_wrongMen 19 = .ok (.iload_n 3, 1) := by decide +kernel
theorem dX4_wrongMen_20 : decode cX4_wrongMen 20 = .ok (.iaload, 1) := by decide +kernel
theorem dX4_wrongMen_21 : decode cX4_wrongMen 21 = .ok (.aload_n 0, 1) := by decide +kernel
theorem dX4_wrongMen_22 : decode cX4_wrongMen 22 = .ok (.aload_n 1, 1) := by decide +kernel
theorem dX4_wrongMen_23 : decode cX4_wrongMen 23 = .ok (.iload_n 3, 1) := by decide +kernel
theorem dX4_wrongMen_24 : decode cX4_wrongMen 24 = .ok (.invokevirtual 107, 3) := by decide +kernel
theorem dX4_wrongMen_27 : decode cX4_wrongMen 27 = .ok (.if_icmp .eq 9, 3) := by decide +kernel
theorem dX4_wrongMen_30 : decode cX4_wrongMen 30 = .ok (.iload_n 2, 1) := by decide +kernel
theorem dX4_wrongMen_31 : decode cX4_wrongMen 31 = .ok (.iconst 1, 1) := by decide +kernel
theorem dX4_wrongMen_32 : decode cX4_wrongMen 32 = .ok (.iload_n 3, 1) := by decide +kernel
theorem dX4_wrongMen_33 : decode cX4_wrongMen 33 = .ok (.ishl, 1) := by decide +kernel
theorem dX4_wrongMen_34 : decode cX4_wrongMen 34 = .ok (.ior, 1) := by decide +kernel
theorem dX4_wrongMen_35 : decode cX4_wrongMen 35 = .ok (.istore_n 2, 1) := by decide +kernel
theorem dX4_wrongMen_36 : decode cX4_wrongMen 36 = .ok (.iinc 3 1, 3) := by decide +kernel
theorem dX4_wrongMen_39 : decode cX4_wrongMen 39 = .ok (.goto (-35), 3) := by decide +kernel
theorem dX4_wrongMen_42 : decode cX4_wrongMen 42 = .ok (.iload_n 2, 1) := by decide +kernel
theorem dX4_wrongMen_43 : decode cX4_wrongMen 43 = .ok (.ireturn, 1) := by decide +kernel
theorem dX4_menFacing_0 : decode cX4_menFacing 0 = .ok (.iconst 0, 1) := by decide +kernel
theorem dX4_menFacing_1 : decode cX4_menFacing 1 = .ok (.istore_n 2, 1) := by decide +kernel
theorem dX4_menFacing_2 : decode cX4_menFacing 2 = .ok (.iconst 0, 1) := by decide +kernel
theorem dX4_menFacing_3 : decode cX4_menFacing 3 = .ok (.istore_n 3, 1) := by decide +kernel
theorem dX4_menFacing_4 : decode cX4_menFacing 4 = .ok (.iload_n 3, 1) := by decide +kernel
theorem dX4_menFacing_5 : decode cX4_menFacing 5 = .ok (.aload_n 0, 1) := by decide +kernel
theorem dX4_menFacing_6 : decode cX4_menFacing 6 = .ok (.getfield 19, 3) := by decide +kernel
theorem dX4_menFacing_9 : decode cX4_menFacing 9 = .ok (.getfield 88, 3) := by decide +kernel
theorem dX4_menFacing_12 : decode cX4_menFacing 12 = .ok (.if_icmp .ge 25, 3) := by decide +kernel
theorem dX4_menFacing_15 : decode cX4_menFacing 15 = .ok (.aload_n 0, 1) := by decide +kernel
theorem dX4_menFacing_16 : decode cX4_menFacing 16 = .ok (.getfield 29, 3) := by decide +kernel
theorem dX4_menFacing_19 : decode cX4_menFacing 19 = .ok (.getfield 98, 3) := by decide +kernel
theorem dX4_menFacing_22 : decode cX4_menFacing 22 = .ok (.iload_n 3, 1) := by decide +kernel
theorem dX4_menFacing_23 : decode cX4_menFacing 23 = .ok (.iaload, 1) := by decide +kernel
theorem dX4_menFacing_24 : decode cX4_menFacing 24 = .ok (.iload_n 1, 1) := by decide +kernel
theorem dX4_menFacing_25 : decode cX4_menFacing 25 = .ok (.if_icmp .ne 6, 3) := by decide +kernel
theorem dX4_menFacing_28 : decode cX4_menFacing 28 = .ok (.iinc 2 1, 3) := by decide +kernel
theorem dX4_menFacing_31 : decode cX4_menFacing 31 = .ok (.iinc 3 1, 3) := by decide +kernel
theorem dX4_menFacing_34 : decode cX4_menFacing 34 = .ok (.goto (-30), 3) := by decide +kernel
theorem dX4_menFacing_37 : decode cX4_menFacing 37 = .ok (.iload_n 2, 1) := by decide +kernel
theorem dX4_menFacing_38 : decode cX4_menFacing 38 = .ok (.ireturn, 1) := by decide +kernel
theorem dX4_isAlike_0 : decode cX4_isAlike 0 = .ok (.iconst 1, 1) := by decide +kernel
theorem dX4_isAlike_1 : decode cX4_isAlike 1 = .ok (.istore_n 2, 1) := by decide +kernel
theorem dX4_isAlike_2 : decode cX4_isAlike 2 = .ok (.iload_n 2, 1) := by decide +kernel
theorem dX4_isAlike_3 : decode cX4_isAlike 3 = .ok (.aload_n 0, 1) := by decide +kernel
theorem dX4_isAlike_4 : decode cX4_isAlike 4 = .ok (.getfield 19, 3) := by decide +kernel
theorem dX4_isAlike_7 : decode cX4_isAlike 7 = .ok (.getfield 88, 3) := by decide +kernel
theorem dX4_isAlike_10 : decode cX4_isAlike 10 = .ok (.if_icmp .ge 26, 3) := by decide +kernel
theorem dX4_isAlike_13 : decode cX4_isAlike 13 = .ok (.aload_n 1, 1) := by decide +kernel
theorem dX4_isAlike_14 : decode cX4_isAlike 14 = .ok (.getfield 98, 3) := by decide +kernel
theorem dX4_isAlike_17 : decode cX4_isAlike 17 = .ok (.iload_n 2, 1) := by decide +kernel
theorem dX4_isAlike_18 : decode cX4_isAlike 18 = .ok (.iaload, 1) := by decide +kernel
theorem dX4_isAlike_19 : decode cX4_isAlike 19 = .ok (.aload_n 1, 1) := by decide +kernel
theorem dX4_isAlike_20 : decode cX4_isAlike 20 = .ok (.getfield 98, 3) := by decide +kernel
theorem dX4_isAlike_23 : decode cX4_isAlike 23 = .ok (.iconst 0, 1) := by decide +kernel
theorem dX4_isAlike_24 : decode cX4_isAlike 24 = .ok (.iaload, 1) := by decide +kernel
theorem dX4_isAlike_25 : decode cX4_isAlike 25 = .ok (.if_icmp .eq 5, 3) := by decide +kernel
theorem dX4_isAlike_28 : decode cX4_isAlike 28 = .ok (.iconst 0, 1) := by decide +kernel
theorem dX4_isAlike_29 : decode cX4_isAlike 29 = .ok (.ireturn, 1) := by decide +kernel
theorem dX4_isAlike_30 : decode cX4_isAlike 30 = .ok (.iinc 2 1, 3) := by decide +kernel
theorem dX4_isAlike_33 : decode cX4_isAlike 33 = .ok (.goto (-31), 3) := by decide +kernel
theorem dX4_isAlike_36 : decode cX4_isAlike 36 = .ok (.iconst 1, 1) := by decide +kernel
theorem dX4_isAlike_37 : decode cX4_isAlike 37 = .ok (.ireturn, 1) := by decide +kernel
theorem dX4_findManners_0 : decode cX4_findManners 0 = .ok (.aload_n 0, 1) := by decide +kernel
theorem dX4_findManners_1 : decode cX4_findManners 1 = .ok (.invokevirtual 121, 3) := by decide +kernel
theorem dX4_findManners_4 : decode cX4_findManners 4 = .ok (.iconst 0, 1) := by decide +kernel
theorem dX4_findManners_5 : decode cX4_findManners 5 = .ok (.istore_n 1, 1) := by decide +kernel
theorem dX4_findManners_6 : decode cX4_findManners 6 = .ok (.iload_n 1, 1) := by decide +kernel
theorem dX4_findManners_7 : decode cX4_findManners 7 = .ok (.aload_n 0, 1) := by decide +kernel
theorem dX4_findManners_8 : decode cX4_findManners 8 = .ok (.getfield 19, 3) := by decide +kernel
theorem dX4_findManners_11 : decode cX4_findManners 11 = .ok (.getfield 88, 3) := by decide +kernel
theorem dX4_findManners_14 : decode cX4_findManners 14 = .ok (.if_icmp .ge 48, 3) := by decide +kernel
theorem dX4_findManners_17 : decode cX4_findManners 17 = .ok (.aload_n 0, 1) := by decide +kernel
theorem dX4_findManners_18 : decode cX4_findManners 18 = .ok (.getfield 52, 3) := by decide +kernel
theorem dX4_findManners_21 : decode cX4_findManners 21 = .ok (.iload_n 1, 1) := by decide +kernel
theorem dX4_findManners_22 : decode cX4_findManners 22 = .ok (.aload_n 0, 1) := by decide +kernel
theorem dX4_findManners_23 : decode cX4_findManners 23 = .ok (.aload_n 0, 1) := by decide +kernel
theorem dX4_findManners_24 : decode cX4_findManners 24 = .ok (.getfield 48, 3) := by decide +kernel
theorem dX4_findManners_27 : decode cX4_findManners 27 = .ok (.iload_n 1, 1) := by decide +kernel
theorem dX4_findManners_28 : decode cX4_findManners 28 = .ok (.iaload, 1) := by decide +kernel
theorem dX4_findManners_29 : decode cX4_findManners 29 = .ok (.aload_n 0, 1) := by decide +kernel
theorem dX4_findManners_30 : decode cX4_findManners 30 = .ok (.getfield 19, 3) := by decide +kernel
theorem dX4_findManners_33 : decode cX4_findManners 33 = .ok (.getfield 104, 3) := by decide +kernel
theorem dX4_findManners_36 : decode cX4_findManners 36 = .ok (.aload_n 0, 1) := by decide +kernel
theorem dX4_findManners_37 : decode cX4_findManners 37 = .ok (.getfield 48, 3) := by decide +kernel
theorem dX4_findManners_40 : decode cX4_findManners 40 = .ok (.iload_n 1, 1) := by decide +kernel
theorem dX4_findManners_41 : decode cX4_findManners 41 = .ok (.iaload, 1) := by decide +kernel
theorem dX4_findManners_42 : decode cX4_findManners 42 = .ok (.iaload, 1) := by decide +kernel
theorem dX4_findManners_43 : decode cX4_findManners 43 = .ok (.iconst 5, 1) := by decide +kernel
theorem dX4_findManners_44 : decode cX4_findManners 44 = .ok (.if_icmp .lt 7, 3) := by decide +kernel
theorem dX4_findManners_47 : decode cX4_findManners 47 = .ok (.iconst 1, 1) := by decide +kernel
theorem dX4_findManners_48 : decode cX4_findManners 48 = .ok (.goto 4, 3) := by decide +kernel
theorem dX4_findManners_51 : decode cX4_findManners 51 = .ok (.iconst 0, 1) := by decide +kernel
theorem dX4_findManners_52 : decode cX4_findManners 52 = .ok (.invokevirtual 246, 3) := by decide +kernel
theorem dX4_findManners_55 : decode cX4_findManners 55 = .ok (.iastore, 1) := by decide +kernel
theorem dX4_findManners_56 : decode cX4_findManners 56 = .ok (.iinc 1 1, 3) := by decide +kernel
theorem dX4_findManners_59 : decode cX4_findManners 59 = .ok (.goto (-53), 3) := by decide +kernel
theorem dX4_findManners_62 : decode cX4_findManners 62 = .ok (.return_, 1) := by decide +kernel
theorem dX4_facingBy_0 : decode cX4_facingBy 0 = .ok (.aload_n 0, 1) := by decide +kernel
theorem dX4_facingBy_1 : decode cX4_facingBy 1 = .ok (.getfield 29, 3) := by decide +kernel
theorem dX4_facingBy_4 : decode cX4_facingBy 4 = .ok (.getfield 98, 3) := by decide +kernel
theorem dX4_facingBy_7 : decode cX4_facingBy 7 = .ok (.iload_n 1, 1) := by decide +kernel
theorem dX4_facingBy_8 : decode cX4_facingBy 8 = .ok (.iaload, 1) := by decide +kernel
theorem dX4_facingBy_9 : decode cX4_facingBy 9 = .ok (.iload_n 2, 1) := by decide +kernel
theorem dX4_facingBy_10 : decode cX4_facingBy 10 = .ok (.iload_n 3, 1) := by decide +kernel
theorem dX4_facingBy_11 : decode cX4_facingBy 11 = .ok (.aload_n 0, 1) := by decide +kernel
theorem dX4_facingBy_12 : decode cX4_facingBy 12 = .ok (.getfield 29, 3) := by decide +kernel
theorem dX4_facingBy_15 : decode cX4_facingBy 15 = .ok (.getfield 250, 3) := by decide +kernel
theorem dX4_facingBy_18 : decode cX4_facingBy 18 = .ok (.invokestatic 253, 3) := by decide +kernel
theorem dX4_facingBy_21 : decode cX4_facingBy 21 = .ok (.iadd, 1) := by decide +kernel
theorem dX4_facingBy_22 : decode cX4_facingBy 22 = .ok (.iconst 4, 1) := by decide +kernel
theorem dX4_facingBy_23 : decode cX4_facingBy 23 = .ok (.irem, 1) := by decide +kernel
theorem dX4_facingBy_24 : decode cX4_facingBy 24 = .ok (.ireturn, 1) := by decide +kernel
theorem dX4_facingForeseen_0 : decode cX4_facingForeseen 0 = .ok (.aload_n 0, 1) := by decide +kernel
theorem dX4_facingForeseen_1 : decode cX4_facingForeseen 1 = .ok (.iload_n 1, 1) := by decide +kernel
theorem dX4_facingForeseen_2 : decode cX4_facingForeseen 2 = .ok (.aload_n 0, 1) := by decide +kernel
theorem dX4_facingForeseen_3 : decode cX4_facingForeseen 3 = .ok (.getfield 52, 3) := by decide +kernel
theorem dX4_facingForeseen_6 : decode cX4_facingForeseen 6 = .ok (.iload_n 1, 1) := by decide +kernel
theorem dX4_facingForeseen_7 : decode cX4_facingForeseen 7 = .ok (.iaload, 1) := by decide +kernel
theorem dX4_facingForeseen_8 : decode cX4_facingForeseen 8 = .ok (.getstatic 186, 3) := by decide +kernel
theorem dX4_facingForeseen_11 : decode cX4_facingForeseen 11 = .ok (.iload_n 2, 1) := by decide +kernel
theorem dX4_facingForeseen_12 : decode cX4_facingForeseen 12 = .ok (.iaload, 1) := by decide +kernel
theorem dX4_facingForeseen_13 : decode cX4_facingForeseen 13 = .ok (.invokevirtual 198, 3) := by decide +kernel
theorem dX4_facingForeseen_16 : decode cX4_facingForeseen 16 = .ok (.ireturn, 1) := by decide +kernel
theorem dX4_firstRowAlike_0 : decode cX4_firstRowAlike 0 = .ok (.iconst 0, 1) := by decide +kernel
theorem dX4_firstRowAlike_1 : decode cX4_firstRowAlike 1 = .ok (.istore_n 2, 1) := by decide +kernel
theorem dX4_firstRowAlike_2 : decode cX4_firstRowAlike 2 = .ok (.iload_n 2, 1) := by decide +kernel
theorem dX4_firstRowAlike_3 : decode cX4_firstRowAlike 3 = .ok (.getstatic 204, 3) := by decide +kernel
theorem dX4_firstRowAlike_6 : decode cX4_firstRowAlike 6 = .ok (.iload_n 1, 1) := by decide +kernel
theorem dX4_firstRowAlike_7 : decode cX4_firstRowAlike 7 = .ok (.iaload, 1) := by decide +kernel
theorem dX4_firstRowAlike_8 : decode cX4_firstRowAlike 8 = .ok (.if_icmp .ge 20, 3) := by decide +kernel
theorem dX4_firstRowAlike_11 : decode cX4_firstRowAlike 11 = .ok (.aload_n 0, 1) := by decide +kernel
theorem dX4_firstRowAlike_12 : decode cX4_firstRowAlike 12 = .ok (.iload_n 2, 1) := by decide +kernel
theorem dX4_firstRowAlike_13 : decode cX4_firstRowAlike 13 = .ok (.iload_n 1, 1) := by decide +kernel
theorem dX4_firstRowAlike_14 : decode cX4_firstRowAlike 14 = .ok (.invokevirtual 207, 3) := by decide +kernel
theorem dX4_firstRowAlike_17 : decode cX4_firstRowAlike 17 = .ok (.ifCond .eq 5, 3) := by decide +kernel
theorem dX4_firstRowAlike_20 : decode cX4_firstRowAlike 20 = .ok (.iload_n 2, 1) := by decide +kernel
theorem dX4_firstRowAlike_21 : decode cX4_firstRowAlike 21 = .ok (.ireturn, 1) := by decide +kernel
theorem dX4_firstRowAlike_22 : decode cX4_firstRowAlike 22 = .ok (.iinc 2 1, 3) := by decide +kernel
theorem dX4_firstRowAlike_25 : decode cX4_firstRowAlike 25 = .ok (.goto (-23), 3) := by decide +kernel
theorem dX4_firstRowAlike_28 : decode cX4_firstRowAlike 28 = .ok (.bipush (-4), 2) := by decide +kernel
theorem dX4_firstRowAlike_30 : decode cX4_firstRowAlike 30 = .ok (.ireturn, 1) := by decide +kernel
theorem dX4_wordOfRow_0 : decode cX4_wordOfRow 0 = .ok (.iload_n 2, 1) := by decide +kernel
theorem dX4_wordOfRow_1 : decode cX4_wordOfRow 1 = .ok (.iload_n 1, 1) := by decide +kernel
theorem dX4_wordOfRow_2 : decode cX4_wordOfRow 2 = .ok (.if_icmp .lt 6, 3) := by decide +kernel
theorem dX4_wordOfRow_5 : decode cX4_wordOfRow 5 = .ok (.bipush (-4), 2) := by decide +kernel
theorem dX4_wordOfRow_7 : decode cX4_wordOfRow 7 = .ok (.ireturn, 1) := by decide +kernel
theorem dX4_wordOfRow_8 : decode cX4_wordOfRow 8 = .ok (.iload_n 0, 1) := by decide +kernel
theorem dX4_wordOfRow_9 : decode cX4_wordOfRow 9 = .ok (.istore_n 3, 1) := by decide +kernel
theorem dX4_wordOfRow_10 : decode cX4_wordOfRow 10 = .ok (.iload_n 1, 1) := by decide +kernel
theorem dX4_wordOfRow_11 : decode cX4_wordOfRow 11 = .ok (.iconst 1, 1) := by decide +kernel
theorem dX4_wordOfRow_12 : decode cX4_wordOfRow 12 = .ok (.isub, 1) := by decide +kernel
theorem dX4_wordOfRow_13 : decode cX4_wordOfRow 13 = .ok (.istore 4, 2) := by decide +kernel
theorem dX4_wordOfRow_15 : decode cX4_wordOfRow 15 = .ok (.iload 4, 2) := by decide +kernel
theorem dX4_wordOfRow_17 : decode cX4_wordOfRow 17 = .ok (.iload_n 2, 1) := by decide +kernel
theorem dX4_wordOfRow_18 : decode cX4_wordOfRow 18 = .ok (.if_icmp .le 13, 3) := by decide +kernel
theorem dX4_wordOfRow_21 : decode cX4_wordOfRow 21 = .ok (.iload_n 3, 1) := by decide +kernel
theorem dX4_wordOfRow_22 : decode cX4_wordOfRow 22 = .ok (.iconst 3, 1) := by decide +kernel
theorem dX4_wordOfRow_23 : decode cX4_wordOfRow 23 = .ok (.idiv, 1) := by decide +kernel
theorem dX4_wordOfRow_24 : decode cX4_wordOfRow 24 = .ok (.istore_n 3, 1) := by decide +kernel
theorem dX4_wordOfRow_25 : decode cX4_wordOfRow 25 = .ok (.iinc 4 (-1), 3) := by decide +kernel
theorem dX4_wordOfRow_28 : decode cX4_wordOfRow 28 = .ok (.goto (-13), 3) := by decide +kernel
theorem dX4_wordOfRow_31 : decode cX4_wordOfRow 31 = .ok (.iload_n 3, 1) := by decide +kernel
theorem dX4_wordOfRow_32 : decode cX4_wordOfRow 32 = .ok (.iconst 3, 1) := by decide +kernel
theorem dX4_wordOfRow_33 : decode cX4_wordOfRow 33 = .ok (.irem, 1) := by decide +kernel
theorem dX4_wordOfRow_34 : decode cX4_wordOfRow 34 = .ok (.ireturn, 1) := by decide +kernel
theorem dX4_isRowAlike_0 : decode cX4_isRowAlike 0 = .ok (.aload_n 0, 1) := by decide +kernel
theorem dX4_isRowAlike_1 : decode cX4_isRowAlike 1 = .ok (.iload_n 1, 1) := by decide +kernel
theorem dX4_isRowAlike_2 : decode cX4_isRowAlike 2 = .ok (.iload_n 2, 1) := by decide +kernel
theorem dX4_isRowAlike_3 : decode cX4_isRowAlike 3 = .ok (.invokevirtual 260, 3) := by decide +kernel
theorem dX4_isRowAlike_6 : decode cX4_isRowAlike 6 = .ok (.aload_n 0, 1) := by decide +kernel
theorem dX4_isRowAlike_7 : decode cX4_isRowAlike 7 = .ok (.getfield 29, 3) := by decide +kernel
theorem dX4_isRowAlike_10 : decode cX4_isRowAlike 10 = .ok (.getfield 98, 3) := by decide +kernel
theorem dX4_isRowAlike_13 : decode cX4_isRowAlike 13 = .ok (.iconst 0, 1) := by decide +kernel
theorem dX4_isRowAlike_14 : decode cX4_isRowAlike 14 = .ok (.iaload, 1) := by decide +kernel
theorem dX4_isRowAlike_15 : decode cX4_isRowAlike 15 = .ok (.aload_n 0, 1) := by decide +kernel
theorem dX4_isRowAlike_16 : decode cX4_isRowAlike 16 = .ok (.getfield 55, 3) := by decide +kernel
theorem dX4_isRowAlike_19 : decode cX4_isRowAlike 19 = .ok (.aload_n 0, 1) := by decide +kernel
theorem dX4_isRowAlike_20 : decode cX4_isRowAlike 20 = .ok (.getfield 52, 3) := by decide +kernel
theorem dX4_isRowAlike_23 : decode cX4_isRowAlike 23 = .ok (.iconst 0, 1) := by decide +kernel
theorem dX4_isRowAlike_24 : decode cX4_isRowAlike 24 = .ok (.iaload, 1) := by decide +kernel
theorem dX4_isRowAlike_25 : decode cX4_isRowAlike 25 = .ok (.iaload, 1) := by decide +kernel
theorem dX4_isRowAlike_26 : decode cX4_isRowAlike 26 = .ok (.iadd, 1) := by decide +kernel
theorem dX4_isRowAlike_27 : decode cX4_isRowAlike 27 = .ok (.iconst 4, 1) := by decide +kernel
theorem dX4_isRowAlike_28 : decode cX4_isRowAlike 28 = .ok (.irem, 1) := by decide +kernel
theorem dX4_isRowAlike_29 : decode cX4_isRowAlike 29 = .ok (.istore_n 3, 1) := by decide +kernel
theorem dX4_isRowAlike_30 : decode cX4_isRowAlike 30 = .ok (.iconst 1, 1) := by decide +kernel
theorem dX4_isRowAlike_31 : decode cX4_isRowAlike 31 = .ok (.istore 4, 2) := by decide +kernel
theorem dX4_isRowAlike_33 : decode cX4_isRowAlike 33 = .ok (.iload 4, 2) := by decide +kernel
theorem dX4_isRowAlike_35 : decode cX4_isRowAlike 35 = .ok (.aload_n 0, 1) := by decide +kernel
theorem dX4_isRowAlike_36 : decode cX4_isRowAlike 36 = .ok (.getfield 19, 3) := by decide +kernel
theorem dX4_isRowAlike_39 : decode cX4_isRowAlike 39 = .ok (.getfield 88, 3) := by decide +kernel
theorem dX4_isRowAlike_42 : decode cX4_isRowAlike 42 = .ok (.if_icmp .ge 40, 3) := by decide +kernel
theorem dX4_isRowAlike_45 : decode cX4_isRowAlike 45 = .ok (.aload_n 0, 1) := by decide +kernel
theorem dX4_isRowAlike_46 : decode cX4_isRowAlike 46 = .ok (.getfield 29, 3) := by decide +kernel
theorem dX4_isRowAlike_49 : decode cX4_isRowAlike 49 = .ok (.getfield 98, 3) := by decide +kernel
theorem dX4_isRowAlike_52 : decode cX4_isRowAlike 52 = .ok (.iload 4, 2) := by decide +kernel
theorem dX4_isRowAlike_54 : decode cX4_isRowAlike 54 = .ok (.iaload, 1) := by decide +kernel
theorem dX4_isRowAlike_55 : decode cX4_isRowAlike 55 = .ok (.aload_n 0, 1) := by decide +kernel
theorem dX4_isRowAlike_56 : decode cX4_isRowAlike 56 = .ok (.getfield 55, 3) := by decide +kernel
theorem dX4_isRowAlike_59 : decode cX4_isRowAlike 59 = .ok (.aload_n 0, 1) := by decide +kernel
theorem dX4_isRowAlike_60 : decode cX4_isRowAlike 60 = .ok (.getfield 52, 3) := by decide +kernel
theorem dX4_isRowAlike_63 : decode cX4_isRowAlike 63 = .ok (.iload 4, 2) := by decide +kernel
theorem dX4_isRowAlike_65 : decode cX4_isRowAlike 65 = .ok (.iaload, 1) := by decide +kernel
theorem dX4_isRowAlike_66 : decode cX4_isRowAlike 66 = .ok (.iaload, 1) := by decide +kernel
theorem dX4_isRowAlike_67 : decode cX4_isRowAlike 67 = .ok (.iadd, 1) := by decide +kernel
theorem dX4_isRowAlike_68 : decode cX4_isRowAlike 68 = .ok (.iconst 4, 1) := by decide +kernel
theorem dX4_isRowAlike_69 : decode cX4_isRowAlike 69 = .ok (.irem, 1) := by decide +kernel
theorem dX4_isRowAlike_70 : decode cX4_isRowAlike 70 = .ok (.iload_n 3, 1) := by decide +kernel
theorem dX4_isRowAlike_71 : decode cX4_isRowAlike 71 = .ok (.if_icmp .eq 5, 3) := by decide +kernel
theorem dX4_isRowAlike_74 : decode cX4_isRowAlike 74 = .ok (.iconst 0, 1) := by decide +kernel
theorem dX4_isRowAlike_75 : decode cX4_isRowAlike 75 = .ok (.ireturn, 1) := by decide +kernel
theorem dX4_isRowAlike_76 : decode cX4_isRowAlike 76 = .ok (.iinc 4 1, 3) := by decide +kernel
theorem dX4_isRowAlike_79 : decode cX4_isRowAlike 79 = .ok (.goto (-46), 3) := by decide +kernel
theorem dX4_isRowAlike_82 : decode cX4_isRowAlike 82 = .ok (.iconst 1, 1) := by decide +kernel
theorem dX4_isRowAlike_83 : decode cX4_isRowAlike 83 = .ok (.ireturn, 1) := by decide +kernel
theorem dX4_addUpRow_0 : decode cX4_addUpRow 0 = .ok (.iconst 0, 1) := by decide +kernel
theorem dX4_addUpRow_1 : decode cX4_addUpRow 1 = .ok (.istore_n 3, 1) := by decide +kernel
theorem dX4_addUpRow_2 : decode cX4_addUpRow 2 = .ok (.iconst 0, 1) := by decide +kernel
theorem dX4_addUpRow_3 : decode cX4_addUpRow 3 = .ok (.istore 4, 2) := by decide +kernel
theorem dX4_addUpRow_5 : decode cX4_addUpRow 5 = .ok (.iconst 0, 1) := by decide +kernel
theorem dX4_addUpRow_6 : decode cX4_addUpRow 6 = .ok (.istore 5, 2) := by decide +kernel
theorem dX4_addUpRow_8 : decode cX4_addUpRow 8 = .ok (.iload_n 1, 1) := by decide +kernel
theorem dX4_addUpRow_9 : decode cX4_addUpRow 9 = .ok (.istore 6, 2) := by decide +kernel
theorem dX4_addUpRow_11 : decode cX4_addUpRow 11 = .ok (.iload_n 2, 1) := by decide +kernel
theorem dX4_addUpRow_12 : decode cX4_addUpRow 12 = .ok (.iconst 1, 1) := by decide +kernel
theorem dX4_addUpRow_13 : decode cX4_addUpRow 13 = .ok (.isub, 1) := by decide +kernel
theorem dX4_addUpRow_14 : decode cX4_addUpRow 14 = .ok (.istore 7, 2) := by decide +kernel
theorem dX4_addUpRow_16 : decode cX4_addUpRow 16 = .ok (.iload 7, 2) := by decide +kernel
theorem dX4_addUpRow_18 : decode cX4_addUpRow 18 = .ok (.ifCond .lt 87, 3) := by decide +kernel
theorem dX4_addUpRow_21 : decode cX4_addUpRow 21 = .ok (.getstatic 186, 3) := by decide +kernel
theorem dX4_addUpRow_24 : decode cX4_addUpRow 24 = .ok (.iload 6, 2) := by decide +kernel
theorem dX4_addUpRow_26 : decode cX4_addUpRow 26 = .ok (.iconst 3, 1) := by decide +kernel
theorem dX4_addUpRow_27 : decode cX4_addUpRow 27 = .ok (.irem, 1) := by decide +kernel
theorem dX4_addUpRow_28 : decode cX4_addUpRow 28 = .ok (.iaload, 1) := by decide +kernel
theorem dX4_addUpRow_29 : decode cX4_addUpRow 29 = .ok (.istore 8, 2) := by decide +kernel
theorem dX4_addUpRow_31 : decode cX4_addUpRow 31 = .ok (.iload 6, 2) := by decide +kernel
theorem dX4_addUpRow_33 : decode cX4_addUpRow 33 = .ok (.iconst 3, 1) := by decide +kernel
theorem dX4_addUpRow_34 : decode cX4_addUpRow 34 = .ok (.idiv, 1) := by decide +kernel
theorem dX4_addUpRow_35 : decode cX4_addUpRow 35 = .ok (.istore 6, 2) := by decide +kernel
theorem dX4_addUpRow_37 : decode cX4_addUpRow 37 = .ok (.iload 7, 2) := by decide +kernel
theorem dX4_addUpRow_39 : decode cX4_addUpRow 39 = .ok (.ifCond .ne 13, 3) := by decide +kernel
theorem dX4_addUpRow_42 : decode cX4_addUpRow 42 = .ok (.aload_n 0, 1) := by decide +kernel
theorem dX4_addUpRow_43 : decode cX4_addUpRow 43 = .ok (.getfield 29, 3) := by decide +kernel
theorem dX4_addUpRow_46 : decode cX4_addUpRow 46 = .ok (.getfield 250, 3) := by decide +kernel
theorem dX4_addUpRow_49 : decode cX4_addUpRow 49 = .ok (.goto 11, 3) := by decide +kernel
theorem dX4_addUpRow_52 : decode cX4_addUpRow 52 = .ok (.getstatic 186, 3) := by decide +kernel
theorem dX4_addUpRow_55 : decode cX4_addUpRow 55 = .ok (.iload 6, 2) := by decide +kernel
theorem dX4_addUpRow_57 : decode cX4_addUpRow 57 = .ok (.iconst 3, 1) := by decide +kernel
theorem dX4_addUpRow_58 : decode cX4_addUpRow 58 = .ok (.irem, 1) := by decide +kernel
theorem dX4_addUpRow_59 : decode cX4_addUpRow 59 = .ok (.iaload, 1) := by decide +kernel
theorem dX4_addUpRow_60 : decode cX4_addUpRow 60 = .ok (.istore 9, 2) := by decide +kernel
theorem dX4_addUpRow_62 : decode cX4_addUpRow 62 = .ok (.iload_n 3, 1) := by decide +kernel
theorem dX4_addUpRow_63 : decode cX4_addUpRow 63 = .ok (.iconst 0, 1) := by decide +kernel
theorem dX4_addUpRow_64 : decode cX4_addUpRow 64 = .ok (.iload 8, 2) := by decide +kernel
theorem dX4_addUpRow_66 : decode cX4_addUpRow 66 = .ok (.iload 9, 2) := by decide +kernel
theorem dX4_addUpRow_68 : decode cX4_addUpRow 68 = .ok (.invokestatic 253, 3) := by decide +kernel
theorem dX4_addUpRow_71 : decode cX4_addUpRow 71 = .ok (.iadd, 1) := by decide +kernel
theorem dX4_addUpRow_72 : decode cX4_addUpRow 72 = .ok (.istore_n 3, 1) := by decide +kernel
theorem dX4_addUpRow_73 : decode cX4_addUpRow 73 = .ok (.iload 4, 2) := by decide +kernel
theorem dX4_addUpRow_75 : decode cX4_addUpRow 75 = .ok (.iconst 1, 1) := by decide +kernel
theorem dX4_addUpRow_76 : decode cX4_addUpRow 76 = .ok (.iload 8, 2) := by decide +kernel
theorem dX4_addUpRow_78 : decode cX4_addUpRow 78 = .ok (.iload 9, 2) := by decide +kernel
theorem dX4_addUpRow_80 : decode cX4_addUpRow 80 = .ok (.invokestatic 253, 3) := by decide +kernel
theorem dX4_addUpRow_83 : decode cX4_addUpRow 83 = .ok (.iadd, 1) := by decide +kernel
theorem dX4_addUpRow_84 : decode cX4_addUpRow 84 = .ok (.istore 4, 2) := by decide +kernel
theorem dX4_addUpRow_86 : decode cX4_addUpRow 86 = .ok (.iload 5, 2) := by decide +kernel
theorem dX4_addUpRow_88 : decode cX4_addUpRow 88 = .ok (.iconst 2, 1) := by decide +kernel
theorem dX4_addUpRow_89 : decode cX4_addUpRow 89 = .ok (.iload 8, 2) := by decide +kernel
theorem dX4_addUpRow_91 : decode cX4_addUpRow 91 = .ok (.iload 9, 2) := by decide +kernel
theorem dX4_addUpRow_93 : decode cX4_addUpRow 93 = .ok (.invokestatic 253, 3) := by decide +kernel
theorem dX4_addUpRow_96 : decode cX4_addUpRow 96 = .ok (.iadd, 1) := by decide +kernel
theorem dX4_addUpRow_97 : decode cX4_addUpRow 97 = .ok (.istore 5, 2) := by decide +kernel
theorem dX4_addUpRow_99 : decode cX4_addUpRow 99 = .ok (.iinc 7 (-1), 3) := by decide +kernel
theorem dX4_addUpRow_102 : decode cX4_addUpRow 102 = .ok (.goto (-86), 3) := by decide +kernel
theorem dX4_addUpRow_105 : decode cX4_addUpRow 105 = .ok (.aload_n 0, 1) := by decide +kernel
theorem dX4_addUpRow_106 : decode cX4_addUpRow 106 = .ok (.getfield 55, 3) := by decide +kernel
theorem dX4_addUpRow_109 : decode cX4_addUpRow 109 = .ok (.iconst 0, 1) := by decide +kernel
theorem dX4_addUpRow_110 : decode cX4_addUpRow 110 = .ok (.iload_n 3, 1) := by decide +kernel
theorem dX4_addUpRow_111 : decode cX4_addUpRow 111 = .ok (.iastore, 1) := by decide +kernel
theorem dX4_addUpRow_112 : decode cX4_addUpRow 112 = .ok (.aload_n 0, 1) := by decide +kernel
theorem dX4_addUpRow_113 : decode cX4_addUpRow 113 = .ok (.getfield 55, 3) := by decide +kernel
theorem dX4_addUpRow_116 : decode cX4_addUpRow 116 = .ok (.iconst 1, 1) := by decide +kernel
theorem dX4_addUpRow_117 : decode cX4_addUpRow 117 = .ok (.iload 4, 2) := by decide +kernel
theorem dX4_addUpRow_119 : decode cX4_addUpRow 119 = .ok (.iastore, 1) := by decide +kernel
theorem dX4_addUpRow_120 : decode cX4_addUpRow 120 = .ok (.aload_n 0, 1) := by decide +kernel
theorem dX4_addUpRow_121 : decode cX4_addUpRow 121 = .ok (.getfield 55, 3) := by decide +kernel
theorem dX4_addUpRow_124 : decode cX4_addUpRow 124 = .ok (.iconst 2, 1) := by decide +kernel
theorem dX4_addUpRow_125 : decode cX4_addUpRow 125 = .ok (.iload 5, 2) := by decide +kernel
theorem dX4_addUpRow_127 : decode cX4_addUpRow 127 = .ok (.iastore, 1) := by decide +kernel
theorem dX4_addUpRow_128 : decode cX4_addUpRow 128 = .ok (.return_, 1) := by decide +kernel
theorem dX4_waysToTurn_0 : decode cX4_waysToTurn 0 = .ok (.aload_n 0, 1) := by decide +kernel
theorem dX4_waysToTurn_1 : decode cX4_waysToTurn 1 = .ok (.iload_n 1, 1) := by decide +kernel
theorem dX4_waysToTurn_2 : decode cX4_waysToTurn 2 = .ok (.invokevirtual 235, 3) := by decide +kernel
theorem dX4_waysToTurn_5 : decode cX4_waysToTurn 5 = .ok (.ifCond .eq 8, 3) := by decide +kernel
theorem dX4_waysToTurn_8 : decode cX4_waysToTurn 8 = .ok (.bipush 10, 2) := by decide +kernel
theorem dX4_waysToTurn_10 : decode cX4_waysToTurn 10 = .ok (.goto 4, 3) := by decide +kernel
theorem dX4_waysToTurn_13 : decode cX4_waysToTurn 13 = .ok (.iconst 1, 1) := by decide +kernel
theorem dX4_waysToTurn_14 : decode cX4_waysToTurn 14 = .ok (.ireturn, 1) := by decide +kernel
theorem dX4_waysOfManner_0 : decode cX4_waysOfManner 0 = .ok (.aload_n 0, 1) := by decide +kernel
theorem dX4_waysOfManner_1 : decode cX4_waysOfManner 1 = .ok (.iload_n 1, 1) := by decide +kernel
theorem dX4_waysOfManner_2 : decode cX4_waysOfManner 2 = .ok (.invokevirtual 235, 3) := by decide +kernel
theorem dX4_waysOfManner_5 : decode cX4_waysOfManner 5 = .ok (.ifCond .ne 19, 3) := by decide +kernel
theorem dX4_waysOfManner_8 : decode cX4_waysOfManner 8 = .ok (.iload_n 2, 1) := by decide +kernel
theorem dX4_waysOfManner_9 : decode cX4_waysOfManner 9 = .ok (.aload_n 0, 1) := by decide +kernel
theorem dX4_waysOfManner_10 : decode cX4_waysOfManner 10 = .ok (.iload_n 1, 1) := by decide +kernel
theorem dX4_waysOfManner_11 : decode cX4_waysOfManner 11 = .ok (.iconst 0, 1) := by decide +kernel
theorem dX4_waysOfManner_12 : decode cX4_waysOfManner 12 = .ok (.invokevirtual 246, 3) := by decide +kernel
theorem dX4_waysOfManner_15 : decode cX4_waysOfManner 15 = .ok (.if_icmp .ne 7, 3) := by decide +kernel
theorem dX4_waysOfManner_18 : decode cX4_waysOfManner 18 = .ok (.iconst 1, 1) := by decide +kernel
theorem dX4_waysOfManner_19 : decode cX4_waysOfManner 19 = .ok (.goto 4, 3) := by decide +kernel
theorem dX4_waysOfManner_22 : decode cX4_waysOfManner 22 = .ok (.iconst 0, 1) := by decide +kernel
theorem dX4_waysOfManner_23 : decode cX4_waysOfManner 23 = .ok (.ireturn, 1) := by decide +kernel
theorem dX4_waysOfManner_24 : decode cX4_waysOfManner 24 = .ok (.iload_n 2, 1) := by decide +kernel
theorem dX4_waysOfManner_25 : decode cX4_waysOfManner 25 = .ok (.iconst 1, 1) := by decide +kernel
theorem dX4_waysOfManner_26 : decode cX4_waysOfManner 26 = .ok (.if_icmp .ne 13, 3) := by decide +kernel
theorem dX4_waysOfManner_29 : decode cX4_waysOfManner 29 = .ok (.aload_n 0, 1) := by decide +kernel
theorem dX4_waysOfManner_30 : decode cX4_waysOfManner 30 = .ok (.getfield 19, 3) := by decide +kernel
theorem dX4_waysOfManner_33 : decode cX4_waysOfManner 33 = .ok (.getfield 104, 3) := by decide +kernel
theorem dX4_waysOfManner_36 : decode cX4_waysOfManner 36 = .ok (.iload_n 1, 1) := by decide +kernel
theorem dX4_waysOfManner_37 : decode cX4_waysOfManner 37 = .ok (.iaload, 1) := by decide +kernel
theorem dX4_waysOfManner_38 : decode cX4_waysOfManner 38 = .ok (.ireturn, 1) := by decide +kernel
theorem dX4_waysOfManner_39 : decode cX4_waysOfManner 39 = .ok (.iload_n 2, 1) := by decide +kernel
theorem dX4_waysOfManner_40 : decode cX4_waysOfManner 40 = .ok (.ifCond .ne 18, 3) := by decide +kernel
theorem dX4_waysOfManner_43 : decode cX4_waysOfManner 43 = .ok (.bipush 10, 2) := by decide +kernel
theorem dX4_waysOfManner_45 : decode cX4_waysOfManner 45 = .ok (.aload_n 0, 1) := by decide +kernel
theorem dX4_waysOfManner_46 : decode cX4_waysOfManner 46 = .ok (.getfield 19, 3) := by decide +kernel
theorem dX4_waysOfManner_49 : decode cX4_waysOfManner 49 = .ok (.getfield 104, 3) := by decide +kernel
theorem dX4_waysOfManner_52 : decode cX4_waysOfManner 52 = .ok (.iload_n 1, 1) := by decide +kernel
theorem dX4_waysOfManner_53 : decode cX4_waysOfManner 53 = .ok (.iaload, 1) := by decide +kernel
theorem dX4_waysOfManner_54 : decode cX4_waysOfManner 54 = .ok (.isub, 1) := by decide +kernel
theorem dX4_waysOfManner_55 : decode cX4_waysOfManner 55 = .ok (.goto 4, 3) := by decide +kernel
theorem dX4_waysOfManner_58 : decode cX4_waysOfManner 58 = .ok (.iconst 0, 1) := by decide +kernel
theorem dX4_waysOfManner_59 : decode cX4_waysOfManner 59 = .ok (.ireturn, 1) := by decide +kernel
theorem dX4_waysAllFace_0 : decode cX4_waysAllFace 0 = .ok (.iconst 1, 1) := by decide +kernel
theorem dX4_waysAllFace_1 : decode cX4_waysAllFace 1 = .ok (.istore_n 3, 1) := by decide +kernel
theorem dX4_waysAllFace_2 : decode cX4_waysAllFace 2 = .ok (.iconst 0, 1) := by decide +kernel
theorem dX4_waysAllFace_3 : decode cX4_waysAllFace 3 = .ok (.istore 4, 2) := by decide +kernel
theorem dX4_waysAllFace_5 : decode cX4_waysAllFace 5 = .ok (.iload 4, 2) := by decide +kernel
theorem dX4_waysAllFace_7 : decode cX4_waysAllFace 7 = .ok (.aload_n 0, 1) := by decide +kernel
theorem dX4_waysAllFace_8 : decode cX4_waysAllFace 8 = .ok (.getfield 19, 3) := by decide +kernel
theorem dX4_waysAllFace_11 : decode cX4_waysAllFace 11 = .ok (.getfield 88, 3) := by decide +kernel
theorem dX4_waysAllFace_14 : decode cX4_waysAllFace 14 = .ok (.if_icmp .ge 32, 3) := by decide +kernel
theorem dX4_waysAllFace_17 : decode cX4_waysAllFace 17 = .ok (.aload_n 0, 1) := by decide +kernel
theorem dX4_waysAllFace_18 : decode cX4_waysAllFace 18 = .ok (.getfield 48, 3) := by decide +kernel
theorem dX4_waysAllFace_21 : decode cX4_waysAllFace 21 = .ok (.iload 4, 2) := by decide +kernel
theorem dX4_waysAllFace_23 : decode cX4_waysAllFace 23 = .ok (.iaload, 1) := by decide +kernel
theorem dX4_waysAllFace_24 : decode cX4_waysAllFace 24 = .ok (.iload 4, 2) := by decide +kernel
theorem dX4_waysAllFace_26 : decode cX4_waysAllFace 26 = .ok (.if_icmp .ne 14, 3) := by decide +kernel
theorem dX4_waysAllFace_29 : decode cX4_waysAllFace 29 = .ok (.iload_n 3, 1) := by decide +kernel
theorem dX4_waysAllFace_30 : decode cX4_waysAllFace 30 = .ok (.aload_n 0, 1) := by decide +kernel
theorem dX4_waysAllFace_31 : decode cX4_waysAllFace 31 = .ok (.iload 4, 2) := by decide +kernel
theorem dX4_waysAllFace_33 : decode cX4_waysAllFace 33 = .ok (.iload_n 1, 1) := by decide +kernel
theorem dX4_waysAllFace_34 : decode cX4_waysAllFace 34 = .ok (.iload_n 2, 1) := by decide +kernel
theorem dX4_waysAllFace_35 : decode cX4_waysAllFace 35 = .ok (.invokevirtual 264, 3) := by decide +kernel
theorem dX4_waysAllFace_38 : decode cX4_waysAllFace 38 = .ok (.imul, 1) := by decide +kernel
theorem dX4_waysAllFace_39 : decode cX4_waysAllFace 39 = .ok (.istore_n 3, 1) := by decide +kernel
theorem dX4_waysAllFace_40 : decode cX4_waysAllFace 40 = .ok (.iinc 4 1, 3) := by decide +kernel
theorem dX4_waysAllFace_43 : decode cX4_waysAllFace 43 = .ok (.goto (-38), 3) := by decide +kernel
theorem dX4_waysAllFace_46 : decode cX4_waysAllFace 46 = .ok (.iload_n 3, 1) := by decide +kernel
theorem dX4_waysAllFace_47 : decode cX4_waysAllFace 47 = .ok (.ireturn, 1) := by decide +kernel
theorem dX4_waysLedFace_0 : decode cX4_waysLedFace 0 = .ok (.iconst 0, 1) := by decide +kernel
theorem dX4_waysLedFace_1 : decode cX4_waysLedFace 1 = .ok (.istore 4, 2) := by decide +kernel
theorem dX4_waysLedFace_3 : decode cX4_waysLedFace 3 = .ok (.iconst 0, 1) := by decide +kernel
theorem dX4_waysLedFace_4 : decode cX4_waysLedFace 4 = .ok (.istore 5, 2) := by decide +kernel
theorem dX4_waysLedFace_6 : decode cX4_waysLedFace 6 = .ok (.iload 5, 2) := by decide +kernel
theorem dX4_waysLedFace_8 : decode cX4_waysLedFace 8 = .ok (.iconst 3, 1) := by decide +kernel
theorem dX4_waysLedFace_9 : decode cX4_waysLedFace 9 = .ok (.if_icmp .ge 33, 3) := by decide +kernel
theorem dX4_waysLedFace_12 : decode cX4_waysLedFace 12 = .ok (.aload_n 0, 1) := by decide +kernel
theorem dX4_waysLedFace_13 : decode cX4_waysLedFace 13 = .ok (.iload_n 1, 1) := by decide +kernel
theorem dX4_waysLedFace_14 : decode cX4_waysLedFace 14 = .ok (.iload 5, 2) := by decide +kernel
theorem dX4_waysLedFace_16 : decode cX4_waysLedFace 16 = .ok (.iload_n 2, 1) := by decide +kernel
theorem dX4_waysLedFace_17 : decode cX4_waysLedFace 17 = .ok (.iload_n 3, 1) := by decide +kernel
theorem dX4_waysLedFace_18 : decode cX4_waysLedFace 18 = .ok (.invokevirtual 267, 3) := by decide +kernel
theorem dX4_waysLedFace_21 : decode cX4_waysLedFace 21 = .ok (.ifCond .eq 15, 3) := by decide +kernel
theorem dX4_waysLedFace_24 : decode cX4_waysLedFace 24 = .ok (.iload 4, 2) := by decide +kernel
theorem dX4_waysLedFace_26 : decode cX4_waysLedFace 26 = .ok (.aload_n 0, 1) := by decide +kernel
theorem dX4_waysLedFace_27 : decode cX4_waysLedFace 27 = .ok (.iload_n 1, 1) := by decide +kernel
theorem dX4_waysLedFace_28 : decode cX4_waysLedFace 28 = .ok (.iload 5, 2) := by decide +kernel
theorem dX4_waysLedFace_30 : decode cX4_waysLedFace 30 = .ok (.invokevirtual 201, 3) := by decide +kernel
theorem dX4_waysLedFace_33 : decode cX4_waysLedFace 33 = .ok (.iadd, 1) := by decide +kernel
theorem dX4_waysLedFace_34 : decode cX4_waysLedFace 34 = .ok (.istore 4, 2) := by decide +kernel
theorem dX4_waysLedFace_36 : decode cX4_waysLedFace 36 = .ok (.iinc 5 1, 3) := by decide +kernel
theorem dX4_waysLedFace_39 : decode cX4_waysLedFace 39 = .ok (.goto (-33), 3) := by decide +kernel
theorem dX4_waysLedFace_42 : decode cX4_waysLedFace 42 = .ok (.iload 4, 2) := by decide +kernel
theorem dX4_waysLedFace_44 : decode cX4_waysLedFace 44 = .ok (.ireturn, 1) := by decide +kernel
theorem dX4_wouldLedFace_0 : decode cX4_wouldLedFace 0 = .ok (.iconst 0, 1) := by decide +kernel
theorem dX4_wouldLedFace_1 : decode cX4_wouldLedFace 1 = .ok (.istore 5, 2) := by decide +kernel
theorem dX4_wouldLedFace_3 : decode cX4_wouldLedFace 3 = .ok (.iload 5, 2) := by decide +kernel
theorem dX4_wouldLedFace_5 : decode cX4_wouldLedFace 5 = .ok (.aload_n 0, 1) := by decide +kernel
theorem dX4_wouldLedFace_6 : decode cX4_wouldLedFace 6 = .ok (.getfield 19, 3) := by decide +kernel
theorem dX4_wouldLedFace_9 : decode cX4_wouldLedFace 9 = .ok (.getfield 88, 3) := by decide +kernel
theorem dX4_wouldLedFace_12 : decode cX4_wouldLedFace 12 = .ok (.if_icmp .ge 35, 3) := by decide +kernel
theorem dX4_wouldLedFace_15 : decode cX4_wouldLedFace 15 = .ok (.aload_n 0, 1) := by decide +kernel
theorem dX4_wouldLedFace_16 : decode cX4_wouldLedFace 16 = .ok (.getfield 48, 3) := by decide +kernel
theorem dX4_wouldLedFace_19 : decode cX4_wouldLedFace 19 = .ok (.iload 5, 2) := by decide +kernel
theorem dX4_wouldLedFace_21 : decode cX4_wouldLedFace 21 = .ok (.iaload, 1) := by decide +kernel
theorem dX4_wouldLedFace_22 : decode cX4_wouldLedFace 22 = .ok (.iload_n 1, 1) := by decide +kernel
theorem dX4_wouldLedFace_23 : decode cX4_wouldLedFace 23 = .ok (.if_icmp .ne 18, 3) := by decide +kernel
theorem dX4_wouldLedFace_26 : decode cX4_wouldLedFace 26 = .ok (.aload_n 0, 1) := by decide +kernel
theorem dX4_wouldLedFace_27 : decode cX4_wouldLedFace 27 = .ok (.iload 5, 2) := by decide +kernel
theorem dX4_wouldLedFace_29 : decode cX4_wouldLedFace 29 = .ok (.iload_n 2, 1) := by decide +kernel
theorem dX4_wouldLedFace_30 : decode cX4_wouldLedFace 30 = .ok (.iload 4, 2) := by decide +kernel
theorem dX4_wouldLedFace_32 : decode cX4_wouldLedFace 32 = .ok (.invokevirtual 198, 3) := by decide +kernel
theorem dX4_wouldLedFace_35 : decode cX4_wouldLedFace 35 = .ok (.iload_n 3, 1) := by decide +kernel
theorem dX4_wouldLedFace_36 : decode cX4_wouldLedFace 36 = .ok (.if_icmp .eq 5, 3) := by decide +kernel
theorem dX4_wouldLedFace_39 : decode cX4_wouldLedFace 39 = .ok (.iconst 0, 1) := by decide +kernel
theorem dX4_wouldLedFace_40 : decode cX4_wouldLedFace 40 = .ok (.ireturn, 1) := by decide +kernel
theorem dX4_wouldLedFace_41 : decode cX4_wouldLedFace 41 = .ok (.iinc 5 1, 3) := by decide +kernel
theorem dX4_wouldLedFace_44 : decode cX4_wouldLedFace 44 = .ok (.goto (-41), 3) := by decide +kernel
theorem dX4_wouldLedFace_47 : decode cX4_wouldLedFace 47 = .ok (.iconst 1, 1) := by decide +kernel
theorem dX4_wouldLedFace_48 : decode cX4_wouldLedFace 48 = .ok (.ireturn, 1) := by decide +kernel
theorem dX4_partInLowestTerms_0 : decode cX4_partInLowestTerms 0 = .ok (.iload_n 0, 1) := by decide +kernel
theorem dX4_partInLowestTerms_1 : decode cX4_partInLowestTerms 1 = .ok (.iload_n 1, 1) := by decide +kernel
theorem dX4_partInLowestTerms_2 : decode cX4_partInLowestTerms 2 = .ok (.invokestatic 271, 3) := by decide +kernel
theorem dX4_partInLowestTerms_5 : decode cX4_partInLowestTerms 5 = .ok (.istore_n 3, 1) := by decide +kernel
theorem dX4_partInLowestTerms_6 : decode cX4_partInLowestTerms 6 = .ok (.iload_n 2, 1) := by decide +kernel
theorem dX4_partInLowestTerms_7 : decode cX4_partInLowestTerms 7 = .ok (.ifCond .ne 7, 3) := by decide +kernel
theorem dX4_partInLowestTerms_10 : decode cX4_partInLowestTerms 10 = .ok (.iload_n 0, 1) := by decide +kernel
theorem dX4_partInLowestTerms_11 : decode cX4_partInLowestTerms 11 = .ok (.goto 4, 3) := by decide +kernel
theorem dX4_partInLowestTerms_14 : decode cX4_partInLowestTerms 14 = .ok (.iload_n 1, 1) := by decide +kernel
theorem dX4_partInLowestTerms_15 : decode cX4_partInLowestTerms 15 = .ok (.istore 4, 2) := by decide +kernel
theorem dX4_partInLowestTerms_17 : decode cX4_partInLowestTerms 17 = .ok (.iload_n 3, 1) := by decide +kernel
theorem dX4_partInLowestTerms_18 : decode cX4_partInLowestTerms 18 = .ok (.ifCond .le 10, 3) := by decide +kernel
theorem dX4_partInLowestTerms_21 : decode cX4_partInLowestTerms 21 = .ok (.iload 4, 2) := by decide +kernel
theorem dX4_partInLowestTerms_23 : decode cX4_partInLowestTerms 23 = .ok (.iload_n 3, 1) := by decide +kernel
theorem dX4_partInLowestTerms_24 : decode cX4_partInLowestTerms 24 = .ok (.idiv, 1) := by decide +kernel
theorem dX4_partInLowestTerms_25 : decode cX4_partInLowestTerms 25 = .ok (.goto 5, 3) := by decide +kernel
theorem dX4_partInLowestTerms_28 : decode cX4_partInLowestTerms 28 = .ok (.iload 4, 2) := by decide +kernel
theorem dX4_partInLowestTerms_30 : decode cX4_partInLowestTerms 30 = .ok (.ireturn, 1) := by decide +kernel
theorem dX4_commonDivisor_0 : decode cX4_commonDivisor 0 = .ok (.iload_n 0, 1) := by decide +kernel
theorem dX4_commonDivisor_1 : decode cX4_commonDivisor 1 = .ok (.istore_n 2, 1) := by decide +kernel
theorem dX4_commonDivisor_2 : decode cX4_commonDivisor 2 = .ok (.iload_n 1, 1) := by decide +kernel
theorem dX4_commonDivisor_3 : decode cX4_commonDivisor 3 = .ok (.istore_n 3, 1) := by decide +kernel
theorem dX4_commonDivisor_4 : decode cX4_commonDivisor 4 = .ok (.iconst 0, 1) := by decide +kernel
theorem dX4_commonDivisor_5 : decode cX4_commonDivisor 5 = .ok (.istore 4, 2) := by decide +kernel
theorem dX4_commonDivisor_7 : decode cX4_commonDivisor 7 = .ok (.iload 4, 2) := by decide +kernel
theorem dX4_commonDivisor_9 : decode cX4_commonDivisor 9 = .ok (.bipush 64, 2) := by decide +kernel
theorem dX4_commonDivisor_11 : decode cX4_commonDivisor 11 = .ok (.if_icmp .ge 23, 3) := by decide +kernel
theorem dX4_commonDivisor_14 : decode cX4_commonDivisor 14 = .ok (.iload_n 3, 1) := by decide +kernel
theorem dX4_commonDivisor_15 : decode cX4_commonDivisor 15 = .ok (.ifCond .eq 19, 3) := by decide +kernel
theorem dX4_commonDivisor_18 : decode cX4_commonDivisor 18 = .ok (.iload_n 2, 1) := by decide +kernel
theorem dX4_commonDivisor_19 : decode cX4_commonDivisor 19 = .ok (.iload_n 3, 1) := by decide +kernel
theorem dX4_commonDivisor_20 : decode cX4_commonDivisor 20 = .ok (.irem, 1) := by decide +kernel
theorem dX4_commonDivisor_21 : decode cX4_commonDivisor 21 = .ok (.istore 5, 2) := by decide +kernel
theorem dX4_commonDivisor_23 : decode cX4_commonDivisor 23 = .ok (.iload_n 3, 1) := by decide +kernel
theorem dX4_commonDivisor_24 : decode cX4_commonDivisor 24 = .ok (.istore_n 2, 1) := by decide +kernel
theorem dX4_commonDivisor_25 : decode cX4_commonDivisor 25 = .ok (.iload 5, 2) := by decide +kernel
theorem dX4_commonDivisor_27 : decode cX4_commonDivisor 27 = .ok (.istore_n 3, 1) := by decide +kernel
theorem dX4_commonDivisor_28 : decode cX4_commonDivisor 28 = .ok (.iinc 4 1, 3) := by decide +kernel
theorem dX4_commonDivisor_31 : decode cX4_commonDivisor 31 = .ok (.goto (-24), 3) := by decide +kernel
theorem dX4_commonDivisor_34 : decode cX4_commonDivisor 34 = .ok (.iload_n 2, 1) := by decide +kernel
theorem dX4_commonDivisor_35 : decode cX4_commonDivisor 35 = .ok (.ireturn, 1) := by decide +kernel
end
section
theorem dX5_init_0 : decode cX5_init 0 = .ok (.aload_n 0, 1) := by decide +kernel
theorem dX5_init_1 : decode cX5_init 1 = .ok (.invokespecial 1, 3) := by decide +kernel
theorem dX5_init_4 : decode cX5_init 4 = .ok (.aload_n 0, 1) := by decide +kernel
theorem dX5_init_5 : decode cX5_init 5 = .ok (.sipush 200, 3) := by decide +kernel
theorem dX5_init_8 : decode cX5_init 8 = .ok (.newarray .int, 2) := by decide +kernel
theorem dX5_init_10 : decode cX5_init 10 = .ok (.putfield 7, 3) := by decide +kernel
theorem dX5_init_13 : decode cX5_init 13 = .ok (.aload_n 0, 1) := by decide +kernel
theorem dX5_init_14 : decode cX5_init 14 = .ok (.bipush 35, 2) := by decide +kernel
theorem dX5_init_16 : decode cX5_init 16 = .ok (.newarray .int, 2) := by decide +kernel
theorem dX5_init_18 : decode cX5_init 18 = .ok (.putfield 13, 3) := by decide +kernel
theorem dX5_init_21 : decode cX5_init 21 = .ok (.aload_n 0, 1) := by decide +kernel
theorem dX5_init_22 : decode cX5_init 22 = .ok (.bipush 35, 2) := by decide +kernel
theorem dX5_init_24 : decode cX5_init 24 = .ok (.newarray .int, 2) := by decide +kernel
theorem dX5_init_26 : decode cX5_init 26 = .ok (.putfield 16, 3) := by decide +kernel
theorem dX5_init_29 : decode cX5_init 29 = .ok (.aload_n 0, 1) := by decide +kernel
theorem dX5_init_30 : decode cX5_init 30 = .ok (.bipush 22, 2) := by decide +kernel
theorem dX5_init_32 : decode cX5_init 32 = .ok (.newarray .int, 2) := by decide +kernel
theorem dX5_init_34 : decode cX5_init 34 = .ok (.putfield 19, 3) := by decide +kernel
theorem dX5_init_37 : decode cX5_init 37 = .ok (.aload_n 0, 1) := by decide +kernel
theorem dX5_init_38 : decode cX5_init 38 = .ok (.sipush 176, 3) := by decide +kernel
theorem dX5_init_41 : decode cX5_init 41 = .ok (.newarray .int, 2) := by decide +kernel
theorem dX5_init_43 : decode cX5_init 43 = .ok (.putfield 22, 3) := by decide +kernel
theorem dX5_init_46 : decode cX5_init 46 = .ok (.aload_n 0, 1) := by decide +kernel
theorem dX5_init_47 : decode cX5_init 47 = .ok (.bipush 44, 2) := by decide +kernel
theorem dX5_init_49 : decode cX5_init 49 = .ok (.newarray .int, 2) := by decide +kernel
theorem dX5_init_51 : decode cX5_init 51 = .ok (.putfield 25, 3) := by decide +kernel
theorem dX5_init_54 : decode cX5_init 54 = .ok (.aload_n 0, 1) := by decide +kernel
theorem dX5_init_55 : decode cX5_init 55 = .ok (.iconst (-1), 1) := by decide +kernel
theorem dX5_init_56 : decode cX5_init 56 = .ok (.putfield 28, 3) := by decide +kernel
theorem dX5_init_59 : decode cX5_init 59 = .ok (.aload_n 0, 1) := by decide +kernel
theorem dX5_init_60 : decode cX5_init 60 = .ok (.bipush 22, 2) := by decide +kernel
theorem dX5_init_62 : decode cX5_init 62 = .ok (.newarray .int, 2) := by decide +kernel
theorem dX5_init_64 : decode cX5_init 64 = .ok (.putfield 32, 3) := by decide +kernel
theorem dX5_init_67 : decode cX5_init 67 = .ok (.aload_n 0, 1) := by decide +kernel
theorem dX5_init_68 : decode cX5_init 68 = .ok (.invokevirtual 35, 3) := by decide +kernel
theorem dX5_init_71 : decode cX5_init 71 = .ok (.aload_n 0, 1) := by decide +kernel
theorem dX5_init_72 : decode cX5_init 72 = .ok (.iconst 0, 1) := by decide +kernel
theorem dX5_init_73 : decode cX5_init 73 = .ok (.iconst 0, 1) := by decide +kernel
theorem dX5_init_74 : decode cX5_init 74 = .ok (.iconst 0, 1) := by decide +kernel
theorem dX5_init_75 : decode cX5_init 75 = .ok (.iconst 0, 1) := by decide +kernel
theorem dX5_init_76 : decode cX5_init 76 = .ok (.invokevirtual 38, 3) := by decide +kernel
theorem dX5_init_79 : decode cX5_init 79 = .ok (.aload_n 0, 1) := by decide +kernel
theorem dX5_init_80 : decode cX5_init 80 = .ok (.iconst 1, 1) := by decide +kernel
theorem dX5_init_81 : decode cX5_init 81 = .ok (.iconst 0, 1) := by decide +kernel
theorem dX5_init_82 : decode cX5_init 82 = .ok (.iconst 0, 1) := by decide +kernel
theorem dX5_init_83 : decode cX5_init 83 = .ok (.bipush 10, 2) := by decide +kernel
theorem dX5_init_85 : decode cX5_init 85 = .ok (.invokevirtual 38, 3) := by decide +kernel
theorem dX5_init_88 : decode cX5_init 88 = .ok (.aload_n 0, 1) := by decide +kernel
theorem dX5_init_89 : decode cX5_init 89 = .ok (.iconst 2, 1) := by decide +kernel
theorem dX5_init_90 : decode cX5_init 90 = .ok (.iconst 0, 1) := by decide +kernel
theorem dX5_init_91 : decode cX5_init 91 = .ok (.iconst 1, 1) := by decide +kernel
theorem dX5_init_92 : decode cX5_init 92 = .ok (.iconst 0, 1) := by decide +kernel
theorem dX5_init_93 : decode cX5_init 93 = .ok (.invokevirtual 38, 3) := by decide +kernel
theorem dX5_init_96 : decode cX5_init 96 = .ok (.aload_n 0, 1) := by decide +kernel
theorem dX5_init_97 : decode cX5_init 97 = .ok (.iconst 2, 1) := by decide +kernel
theorem dX5_init_98 : decode cX5_init 98 = .ok (.iconst 0, 1) := by decide +kernel
theorem dX5_init_99 : decode cX5_init 99 = .ok (.iconst 2, 1) := by decide +kernel
theorem dX5_init_100 : decode cX5_init 100 = .ok (.iconst 3, 1) := by decide +kernel
theorem dX5_init_101 : decode cX5_init 101 = .ok (.invokevirtual 38, 3) := by decide +kernel
theorem dX5_init_104 : decode cX5_init 104 = .ok (.aload_n 0, 1) := by decide +kernel
theorem dX5_init_105 : decode cX5_init 105 = .ok (.iconst 3, 1) := by decide +kernel
theorem dX5_init_106 : decode cX5_init 106 = .ok (.iconst 0, 1) := by decide +kernel
theorem dX5_init_107 : decode cX5_init 107 = .ok (.iconst 0, 1) := by decide +kernel
theorem dX5_init_108 : decode cX5_init 108 = .ok (.iconst 0, 1) := by decide +kernel
theorem dX5_init_109 : decode cX5_init 109 = .ok (.invokevirtual 38, 3) := by decide +kernel
theorem dX5_init_112 : decode cX5_init 112 = .ok (.aload_n 0, 1) := by decide +kernel
theorem dX5_init_113 : decode cX5_init 113 = .ok (.iconst 1, 1) := by decide +kernel
theorem dX5_init_114 : decode cX5_init 114 = .ok (.iconst 0, 1) := by decide +kernel
theorem dX5_init_115 : decode cX5_init 115 = .ok (.iconst 5, 1) := by decide +kernel
theorem dX5_init_116 : decode cX5_init 116 = .ok (.iconst 5, 1) := by decide +kernel
theorem dX5_init_117 : decode cX5_init 117 = .ok (.invokevirtual 38, 3) := by decide +kernel
theorem dX5_init_120 : decode cX5_init 120 = .ok (.aload_n 0, 1) := by decide +kernel
theorem dX5_init_121 : decode cX5_init 121 = .ok (.iconst 2, 1) := by decide +kernel
theorem dX5_init_122 : decode cX5_init 122 = .ok (.iconst 0, 1) := by decide +kernel
theorem dX5_init_123 : decode cX5_init 123 = .ok (.iconst 3, 1) := by decide +kernel
theorem dX5_init_124 : decode cX5_init 124 = .ok (.bipush 6, 2) := by decide +kernel
theorem dX5_init_126 : decode cX5_init 126 = .ok (.invokevirtual 38, 3) := by decide +kernel
theorem dX5_init_129 : decode cX5_init 129 = .ok (.aload_n 0, 1) := by decide +kernel
theorem dX5_init_130 : decode cX5_init 130 = .ok (.getfield 16, 3) := by decide +kernel
theorem dX5_init_133 : decode cX5_init 133 = .ok (.iconst 1, 1) := by decide +kernel
theorem dX5_init_134 : decode cX5_init 134 = .ok (.iconst 4, 1) := by decide +kernel
theorem dX5_init_135 : decode cX5_init 135 = .ok (.iastore, 1) := by decide +kernel
theorem dX5_init_136 : decode cX5_init 136 = .ok (.aload_n 0, 1) := by decide +kernel
theorem dX5_init_137 : decode cX5_init 137 = .ok (.invokevirtual 42, 3) := by decide +kernel
theorem dX5_init_140 : decode cX5_init 140 = .ok (.return_, 1) := by decide +kernel
theorem dX5_in_0 : decode cX5_in 0 = .ok (.iload_n 0, 1) := by decide +kernel
theorem dX5_in_1 : decode cX5_in 1 = .ok (.iload_n 1, 1) := by decide +kernel
theorem dX5_in_2 : decode cX5_in 2 = .ok (.if_icmp .lt 12, 3) := by decide +kernel
theorem dX5_in_5 : decode cX5_in 5 = .ok (.iload_n 0, 1) := by decide +kernel
theorem dX5_in_6 : decode cX5_in 6 = .ok (.iload_n 2, 1) := by decide +kernel
theorem dX5_in_7 : decode cX5_in 7 = .ok (.if_icmp .gt 7, 3) := by decide +kernel
theorem dX5_in_10 : decode cX5_in 10 = .ok (.iconst 1, 1) := by decide +kernel
theorem dX5_in_11 : decode cX5_in 11 = .ok (.goto 4, 3) := by decide +kernel
theorem dX5_in_14 : decode cX5_in 14 = .ok (.iconst 0, 1) := by decide +kernel
theorem dX5_in_15 : decode cX5_in 15 = .ok (.ireturn, 1) := by decide +kernel
theorem dX5_isMan_0 : decode cX5_isMan 0 = .ok (.iload_n 1, 1) := by decide +kernel
theorem dX5_isMan_1 : decode cX5_isMan 1 = .ok (.iconst 0, 1) := by decide +kernel
theorem dX5_isMan_2 : decode cX5_isMan 2 = .ok (.aload_n 0, 1) := by decide +kernel
theorem dX5_isMan_3 : decode cX5_isMan 3 = .ok (.getfield 13, 3) := by decide +kernel
theorem dX5_isMan_6 : decode cX5_isMan 6 = .ok (.iconst 0, 1) := by decide +kernel
theorem dX5_isMan_7 : decode cX5_isMan 7 = .ok (.iaload, 1) := by decide +kernel
theorem dX5_isMan_8 : decode cX5_isMan 8 = .ok (.iconst 1, 1) := by decide +kernel
theorem dX5_isMan_9 : decode cX5_isMan 9 = .ok (.isub, 1) := by decide +kernel
theorem dX5_isMan_10 : decode cX5_isMan 10 = .ok (.invokestatic 45, 3) := by decide +kernel
theorem dX5_isMan_13 : decode cX5_isMan 13 = .ok (.ireturn, 1) := by decide +kernel
theorem dX5_isWord_0 : decode cX5_isWord 0 = .ok (.iload_n 0, 1) := by decide +kernel
theorem dX5_isWord_1 : decode cX5_isWord 1 = .ok (.iconst 0, 1) := by decide +kernel
theorem dX5_isWord_2 : decode cX5_isWord 2 = .ok (.iconst 2, 1) := by decide +kernel
theorem dX5_isWord_3 : decode cX5_isWord 3 = .ok (.invokestatic 45, 3) := by decide +kernel
theorem dX5_isWord_6 : decode cX5_isWord 6 = .ok (.ireturn, 1) := by decide +kernel
theorem dX5_ones_0 : decode cX5_ones 0 = .ok (.iconst 0, 1) := by decide +kernel
theorem dX5_ones_1 : decode cX5_ones 1 = .ok (.istore_n 1, 1) := by decide +kernel
theorem dX5_ones_2 : decode cX5_ones 2 = .ok (.iconst 0, 1) := by decide +kernel
theorem dX5_ones_3 : decode cX5_ones 3 = .ok (.istore_n 2, 1) := by decide +kernel
theorem dX5_ones_4 : decode cX5_ones 4 = .ok (.iload_n 2, 1) := by decide +kernel
theorem dX5_ones_5 : decode cX5_ones 5 = .ok (.bipush 8, 2) := by decide +kernel
theorem dX5_ones_7 : decode cX5_ones 7 = .ok (.if_icmp .ge 17, 3) := by decide +kernel
theorem dX5_ones_10 : decode cX5_ones 10 = .ok (.iload_n 1, 1) := by decide +kernel
theorem dX5_ones_11 : decode cX5_ones 11 = .ok (.iload_n 0, 1) := by decide +kernel
theorem dX5_ones_12 : decode cX5_ones 12 = .ok (.iload_n 2, 1) := by decide +kernel
theorem dX5_ones_13 : decode cX5_ones 13 = .ok (.ishr, 1) := by decide +kernel
theorem dX5_ones_14 : decode cX5_ones 14 = .ok (.iconst 1, 1) := by decide +kernel
theorem dX5_ones_15 : decode cX5_ones 15 = .ok (.iand, 1) := by decide +kernel
theorem dX5_ones_16 : decode cX5_ones 16 = .ok (.iadd, 1) := by decide +kernel
theorem dX5_ones_17 : decode cX5_ones 17 = .ok (.istore_n 1, 1) := by decide +kernel
theorem dX5_ones_18 : decode cX5_ones 18 = .ok (.iinc 2 1, 3) := by decide +kernel
theorem dX5_ones_21 : decode cX5_ones 21 = .ok (.goto (-17), 3) := by decide +kernel
theorem dX5_ones_24 : decode cX5_ones 24 = .ok (.iload_n 1, 1) := by decide +kernel
theorem dX5_ones_25 : decode cX5_ones 25 = .ok (.ireturn, 1) := by decide +kernel
theorem dX5_write_0 : decode cX5_write 0 = .ok (.iload_n 1, 1) := by decide +kernel
theorem dX5_write_1 : decode cX5_write 1 = .ok (.bipush 32, 2) := by decide +kernel
theorem dX5_write_3 : decode cX5_write 3 = .ok (.bipush 126, 2) := by decide +kernel
theorem dX5_write_5 : decode cX5_write 5 = .ok (.invokestatic 45, 3) := by decide +kernel
theorem dX5_write_8 : decode cX5_write 8 = .ok (.ifCond .ne 5, 3) := by decide +kernel
theorem dX5_write_11 : decode cX5_write 11 = .ok (.iconst (-1), 1) := by decide +kernel
theorem dX5_write_12 : decode cX5_write 12 = .ok (.ireturn, 1) := by decide +kernel
theorem dX5_write_13 : decode cX5_write 13 = .ok (.aload_n 0, 1) := by decide +kernel
theorem dX5_write_14 : decode cX5_write 14 = .ok (.getfield 49, 3) := by decide +kernel
theorem dX5_write_17 : decode cX5_write 17 = .ok (.sipush 200, 3) := by decide +kernel
theorem dX5_write_20 : decode cX5_write 20 = .ok (.if_icmp .ne 6, 3) := by decide +kernel
theorem dX5_write_23 : decode cX5_write 23 = .ok (.bipush (-3), 2) := by decide +kernel
theorem dX5_write_25 : decode cX5_write 25 = .ok (.ireturn, 1) := by decide +kernel
theorem dX5_write_26 : decode cX5_write 26 = .ok (.aload_n 0, 1) := by decide +kernel
theorem dX5_write_27 : decode cX5_write 27 = .ok (.getfield 7, 3) := by decide +kernel
theorem dX5_write_30 : decode cX5_write 30 = .ok (.aload_n 0, 1) := by decide +kernel
theorem dX5_write_31 : decode cX5_write 31 = .ok (.getfield 49, 3) := by decide +kernel
theorem dX5_write_34 : decode cX5_write 34 = .ok (.iload_n 1, 1) := by decide +kernel
theorem dX5_write_35 : decode cX5_write 35 = .ok (.iastore, 1) := by decide +kernel
theorem dX5_write_36 : decode cX5_write 36 = .ok (.aload_n 0, 1) := by decide +kernel
theorem dX5_write_37 : decode cX5_write 37 = .ok (.dup, 1) := by decide +kernel
theorem dX5_write_38 : decode cX5_write 38 = .ok (.getfield 49, 3) := by decide +kernel
theorem dX5_write_41 : decode cX5_write 41 = .ok (.iconst 1, 1) := by decide +kernel
theorem dX5_write_42 : decode cX5_write 42 = .ok (.iadd, 1) := by decide +kernel
theorem dX5_write_43 : decode cX5_write 43 = .ok (.putfield 49, 3) := by decide +kernel
theorem dX5_write_46 : decode cX5_write 46 = .ok (.aload_n 0, 1) := by decide +kernel
theorem dX5_write_47 : decode cX5_write 47 = .ok (.getfield 49, 3) := by decide +kernel
theorem dX5_write_50 : decode cX5_write 50 = .ok (.ireturn, 1) := by decide +kernel
theorem dX5_wipe_0 : decode cX5_wipe 0 = .ok (.aload_n 0, 1) := by decide +kernel
theorem dX5_wipe_1 : decode cX5_wipe 1 = .ok (.getfield 49, 3) := by decide +kernel
theorem dX5_wipe_4 : decode cX5_wipe 4 = .ok (.istore_n 1, 1) := by decide +kernel
theorem dX5_wipe_5 : decode cX5_wipe 5 = .ok (.aload_n 0, 1) := by decide +kernel
theorem dX5_wipe_6 : decode cX5_wipe 6 = .ok (.iconst 0, 1) := by decide +kernel
theorem dX5_wipe_7 : decode cX5_wipe 7 = .ok (.putfield 49, 3) := by decide +kernel
theorem dX5_wipe_10 : decode cX5_wipe 10 = .ok (.iload_n 1, 1) := by decide +kernel
theorem dX5_wipe_11 : decode cX5_wipe 11 = .ok (.ireturn, 1) := by decide +kernel
theorem dX5_letterAt_0 : decode cX5_letterAt 0 = .ok (.iload_n 1, 1) := by decide +kernel
theorem dX5_letterAt_1 : decode cX5_letterAt 1 = .ok (.aload_n 0, 1) := by decide +kernel
theorem dX5_letterAt_2 : decode cX5_letterAt 2 = .ok (.getfield 49, 3) := by decide +kernel
theorem dX5_letterAt_5 : decode cX5_letterAt 5 = .ok (.if_icmp .ge 12, 3) := by decide +kernel
theorem dX5_letterAt_8 : decode cX5_letterAt 8 = .ok (.aload_n 0, 1) := by decide +kernel
theorem dX5_letterAt_9 : decode cX5_letterAt 9 = .ok (.getfield 7, 3) := by decide +kernel
theorem dX5_letterAt_12 : decode cX5_letterAt 12 = .ok (.iload_n 1, 1) := by decide +kernel
theorem dX5_letterAt_13 : decode cX5_letterAt 13 = .ok (.iaload, 1) := by decide +kernel
theorem dX5_letterAt_14 : decode cX5_letterAt 14 = .ok (.goto 4, 3) := by decide +kernel
theorem dX5_letterAt_17 : decode cX5_letterAt 17 = .ok (.iconst (-1), 1) := by decide +kernel
theorem dX5_letterAt_18 : decode cX5_letterAt 18 = .ok (.ireturn, 1) := by decide +kernel
theorem dX5_isFigure_0 : decode cX5_isFigure 0 = .ok (.iload_n 0, 1) := by decide +kernel
theorem dX5_isFigure_1 : decode cX5_isFigure 1 = .ok (.bipush 48, 2) := by decide +kernel
theorem dX5_isFigure_3 : decode cX5_isFigure 3 = .ok (.bipush 57, 2) := by decide +kernel
theorem dX5_isFigure_5 : decode cX5_isFigure 5 = .ok (.invokestatic 45, 3) := by decide +kernel
theorem dX5_isFigure_8 : decode cX5_isFigure 8 = .ok (.ireturn, 1) := by decide +kernel
theorem dX5_number_0 : decode cX5_number 0 = .ok (.aload_n 0, 1) := by decide +kernel
theorem dX5_number_1 : decode cX5_number 1 = .ok (.aload_n 0, 1) := by decide +kernel
theorem dX5_number_2 : decode cX5_number 2 = .ok (.getfield 52, 3) := by decide +kernel
theorem dX5_number_5 : decode cX5_number 5 = .ok (.invokevirtual 55, 3) := by decide +kernel
theorem dX5_number_8 : decode cX5_number 8 = .ok (.invokestatic 59, 3) := by decide +kernel
theorem dX5_number_11 : decode cX5_number 11 = .ok (.ifCond .ne 5, 3) := by decide +kernel
theorem dX5_number_14 : decode cX5_number 14 = .ok (.iconst (-1), 1) := by decide +kernel
theorem dX5_number_15 : decode cX5_number 15 = .ok (.ireturn, 1) := by decide +kernel
theorem dX5_number_16 : decode cX5_number 16 = .ok (.aload_n 0, 1) := by decide +kernel
theorem dX5_number_17 : decode cX5_number 17 = .ok (.aload_n 0, 1) := by decide +kernel
theorem dX5_number_18 : decode cX5_number 18 = .ok (.getfield 52, 3) := by decide +kernel
theorem dX5_number_21 : decode cX5_number 21 = .ok (.invokevirtual 55, 3) := by decide +kernel
theorem dX5_number_24 : decode cX5_number 24 = .ok (.bipush 48, 2) := by decide +kernel
theorem dX5_number_26 : decode cX5_number 26 = .ok (.isub, 1) := by decide +kernel
theorem dX5_number_27 : decode cX5_number 27 = .ok (.istore_n 1, 1) := by decide +kernel
theorem dX5_number_28 : decode cX5_number 28 = .ok (.aload_n 0, 1) := by decide +kernel
theorem dX5_number_29 : decode cX5_number 29 = .ok (.dup, 1) := by decide +kernel
theorem dX5_number_30 : decode cX5_number 30 = .ok (.getfield 52, 3) := by decide +kernel
theorem dX5_number_33 : decode cX5_number 33 = .ok (.iconst 1, 1) := by decide +kernel
theorem dX5_number_34 : decode cX5_number 34 = .ok (.iadd, 1) := by decide +kernel
theorem dX5_number_35 : decode cX5_number 35 = .ok (.putfield 52, 3) := by decide +kernel
theorem dX5_number_38 : decode cX5_number 38 = .ok (.aload_n 0, 1) := by decide +kernel
theorem dX5_number_39 : decode cX5_number 39 = .ok (.aload_n 0, 1) := by decide +kernel
theorem dX5_number_40 : decode cX5_number 40 = .ok (.getfield 52, 3) := by decide +kernel
theorem dX5_number_43 : decode cX5_number 43 = .ok (.invokevirtual 55, 3) := by decide +kernel
theorem dX5_number_46 : decode cX5_number 46 = .ok (.invokestatic 59, 3) := by decide +kernel
theorem dX5_number_49 : decode cX5_number 49 = .ok (.ifCond .eq 30, 3) := by decide +kernel
theorem dX5_number_52 : decode cX5_number 52 = .ok (.bipush 10, 2) := by decide +kernel
theorem dX5_number_54 : decode cX5_number 54 = .ok (.iload_n 1, 1) := by decide +kernel
theorem dX5_number_55 : decode cX5_number 55 = .ok (.imul, 1) := by decide +kernel
theorem dX5_number_56 : decode cX5_number 56 = .ok (.aload_n 0, 1) := by decide +kernel
theorem dX5_number_57 : decode cX5_number 57 = .ok (.aload_n 0, 1) := by decide +kernel
theorem dX5_number_58 : decode cX5_number 58 = .ok (.getfield 52, 3) := by decide +kernel
theorem dX5_number_61 : decode cX5_number 61 = .ok (.invokevirtual 55, 3) := by decide +kernel
theorem dX5_number_64 : decode cX5_number 64 = .ok (.iadd, 1) := by decide +kernel
theorem dX5_number_65 : decode cX5_number 65 = .ok (.bipush 48, 2) := by decide +kernel
theorem dX5_number_67 : decode cX5_number 67 = .ok (.isub, 1) := by decide +kernel
theorem dX5_number_68 : decode cX5_number 68 = .ok (.istore_n 1, 1) := by decide +kernel
theorem dX5_number_69 : decode cX5_number 69 = .ok (.aload_n 0, 1) := by decide +kernel
theorem dX5_number_70 : decode cX5_number 70 = .ok (.dup, 1) := by decide +kernel
theorem dX5_number_71 : decode cX5_number 71 = .ok (.getfield 52, 3) := by decide +kernel
theorem dX5_number_74 : decode cX5_number 74 = .ok (.iconst 1, 1) := by decide +kernel
theorem dX5_number_75 : decode cX5_number 75 = .ok (.iadd, 1) := by decide +kernel
theorem dX5_number_76 : decode cX5_number 76 = .ok (.putfield 52, 3) := by decide +kernel
theorem dX5_number_79 : decode cX5_number 79 = .ok (.iload_n 1, 1) := by decide +kernel
theorem dX5_number_80 : decode cX5_number 80 = .ok (.ireturn, 1) := by decide +kernel
theorem dX5_sign_0 : decode cX5_sign 0 = .ok (.aload_n 0, 1) := by decide +kernel
theorem dX5_sign_1 : decode cX5_sign 1 = .ok (.aload_n 0, 1) := by decide +kernel
theorem dX5_sign_2 : decode cX5_sign 2 = .ok (.getfield 52, 3) := by decide +kernel
theorem dX5_sign_5 : decode cX5_sign 5 = .ok (.invokevirtual 55, 3) := by decide +kernel
theorem dX5_sign_8 : decode cX5_sign 8 = .ok (.iload_n 1, 1) := by decide +kernel
theorem dX5_sign_9 : decode cX5_sign 9 = .ok (.if_icmp .ne 7, 3) := by decide +kernel
theorem dX5_sign_12 : decode cX5_sign 12 = .ok (.iconst 1, 1) := by decide +kernel
theorem dX5_sign_13 : decode cX5_sign 13 = .ok (.goto 4, 3) := by decide +kernel
theorem dX5_sign_16 : decode cX5_sign 16 = .ok (.iconst 0, 1) := by decide +kernel
theorem dX5_sign_17 : decode cX5_sign 17 = .ok (.istore_n 2, 1) := by decide +kernel
theorem dX5_sign_18 : decode cX5_sign 18 = .ok (.aload_n 0, 1) := by decide +kernel
theorem dX5_sign_19 : decode cX5_sign 19 = .ok (.dup, 1) := by decide +kernel
theorem dX5_sign_20 : decode cX5_sign 20 = .ok (.getfield 52, 3) := by decide +kernel
theorem dX5_sign_23 : decode cX5_sign 23 = .ok (.iload_n 2, 1) := by decide +kernel
theorem dX5_sign_24 : decode cX5_sign 24 = .ok (.ifCond .eq 7, 3) := by decide +kernel
theorem dX5_sign_27 : decode cX5_sign 27 = .ok (.iconst 1, 1) := by decide +kernel
theorem dX5_sign_28 : decode cX5_sign 28 = .ok (.goto 4, 3) := by decide +kernel
theorem dX5_sign_31 : decode cX5_sign 31 = .ok (.iconst 0, 1) := by decide +kernel
theorem dX5_sign_32 : decode cX5_sign 32 = .ok (.iadd, 1) := by decide +kernel
theorem dX5_sign_33 : decode cX5_sign 33 = .ok (.putfield 52, 3) := by decide +kernel
theorem dX5_sign_36 : decode cX5_sign 36 = .ok (.iload_n 2, 1) := by decide +kernel
theorem dX5_sign_37 : decode cX5_sign 37 = .ok (.ireturn, 1) := by decide +kernel
theorem dX5_begins_0 : decode cX5_begins 0 = .ok (.iconst 0, 1) := by decide +kernel
theorem dX5_begins_1 : decode cX5_begins 1 = .ok (.istore_n 1, 1) := by decide +kernel
theorem dX5_begins_2 : decode cX5_begins 2 = .ok (.iload_n 1, 1) := by decide +kernel
theorem dX5_begins_3 : decode cX5_begins 3 = .ok (.bipush 35, 2) := by decide +kernel
theorem dX5_begins_5 : decode cX5_begins 5 = .ok (.if_icmp .ge 16, 3) := by decide +kernel
theorem dX5_begins_8 : decode cX5_begins 8 = .ok (.aload_n 0, 1) := by decide +kernel
theorem dX5_begins_9 : decode cX5_begins 9 = .ok (.getfield 16, 3) := by decide +kernel
theorem dX5_begins_12 : decode cX5_begins 12 = .ok (.iload_n 1, 1) := by decide +kernel
theorem dX5_begins_13 : decode cX5_begins 13 = .ok (.iconst 0, 1) := by decide +kernel
theorem dX5_begins_14 : decode cX5_begins 14 = .ok (.iastore, 1) := by decide +kernel
theorem dX5_begins_15 : decode cX5_begins 15 = .ok (.iinc 1 1, 3) := by decide +kernel
theorem dX5_begins_18 : decode cX5_begins 18 = .ok (.goto (-16), 3) := by decide +kernel
theorem dX5_begins_21 : decode cX5_begins 21 = .ok (.return_, 1) := by decide +kernel
theorem dX5_adds_0 : decode cX5_adds 0 = .ok (.aload_n 0, 1) := by decide +kernel
theorem dX5_adds_1 : decode cX5_adds 1 = .ok (.getfield 16, 3) := by decide +kernel
theorem dX5_adds_4 : decode cX5_adds 4 = .ok (.iconst 0, 1) := by decide +kernel
theorem dX5_adds_5 : decode cX5_adds 5 = .ok (.iaload, 1) := by decide +kernel
theorem dX5_adds_6 : decode cX5_adds 6 = .ok (.istore 5, 2) := by decide +kernel
theorem dX5_adds_8 : decode cX5_adds 8 = .ok (.aload_n 0, 1) := by decide +kernel
theorem dX5_adds_9 : decode cX5_adds 9 = .ok (.getfield 16, 3) := by decide +kernel
theorem dX5_adds_12 : decode cX5_adds 12 = .ok (.iconst 3, 1) := by decide +kernel
theorem dX5_adds_13 : decode cX5_adds 13 = .ok (.iload 5, 2) := by decide +kernel
theorem dX5_adds_15 : decode cX5_adds 15 = .ok (.iadd, 1) := by decide +kernel
theorem dX5_adds_16 : decode cX5_adds 16 = .ok (.iload_n 1, 1) := by decide +kernel
theorem dX5_adds_17 : decode cX5_adds 17 = .ok (.iastore, 1) := by decide +kernel
theorem dX5_adds_18 : decode cX5_adds 18 = .ok (.aload_n 0, 1) := by decide +kernel
theorem dX5_adds_19 : decode cX5_adds 19 = .ok (.getfield 16, 3) := by decide +kernel
theorem dX5_adds_22 : decode cX5_adds 22 = .ok (.bipush 11, 2) := by decide +kernel
theorem dX5_adds_24 : decode cX5_adds 24 = .ok (.iload 5, 2) := by decide +kernel
theorem dX5_adds_26 : decode cX5_adds 26 = .ok (.iadd, 1) := by decide +kernel
theorem dX5_adds_27 : decode cX5_adds 27 = .ok (.iload_n 2, 1) := by decide +kernel
theorem dX5_adds_28 : decode cX5_adds 28 = .ok (.iastore, 1) := by decide +kernel
theorem dX5_adds_29 : decode cX5_adds 29 = .ok (.aload_n 0, 1) := by decide +kernel
theorem dX5_adds_30 : decode cX5_adds 30 = .ok (.getfield 16, 3) := by decide +kernel
theorem dX5_adds_33 : decode cX5_adds 33 = .ok (.bipush 19, 2) := by decide +kernel
theorem dX5_adds_35 : decode cX5_adds 35 = .ok (.iload 5, 2) := by decide +kernel
theorem dX5_adds_37 : decode cX5_adds 37 = .ok (.iadd, 1) := by decide +kernel
theorem dX5_adds_38 : decode cX5_adds 38 = .ok (.iload_n 3, 1) := by decide +kernel
theorem dX5_adds_39 : decode cX5_adds 39 = .ok (.iastore, 1) := by decide +kernel
theorem dX5_adds_40 : decode cX5_adds 40 = .ok (.aload_n 0, 1) := by decide +kernel
theorem dX5_adds_41 : decode cX5_adds 41 = .ok (.getfield 16, 3) := by decide +kernel
theorem dX5_adds_44 : decode cX5_adds 44 = .ok (.bipush 27, 2) := by decide +kernel
theorem dX5_adds_46 : decode cX5_adds 46 = .ok (.iload 5, 2) := by decide +kernel
theorem dX5_adds_48 : decode cX5_adds 48 = .ok (.iadd, 1) := by decide +kernel
theorem dX5_adds_49 : decode cX5_adds 49 = .ok (.iload 4, 2) := by decide +kernel
theorem dX5_adds_51 : decode cX5_adds 51 = .ok (.iastore, 1) := by decide +kernel
theorem dX5_adds_52 : decode cX5_adds 52 = .ok (.aload_n 0, 1) := by decide +kernel
theorem dX5_adds_53 : decode cX5_adds 53 = .ok (.getfield 16, 3) := by decide +kernel
theorem dX5_adds_56 : decode cX5_adds 56 = .ok (.iconst 0, 1) := by decide +kernel
theorem dX5_adds_57 : decode cX5_adds 57 = .ok (.dup2, 1) := by decide +kernel
theorem dX5_adds_58 : decode cX5_adds 58 = .ok (.iaload, 1) := by decide +kernel
theorem dX5_adds_59 : decode cX5_adds 59 = .ok (.iconst 1, 1) := by decide +kernel
theorem dX5_adds_60 : decode cX5_adds 60 = .ok (.iadd, 1) := by decide +kernel
theorem dX5_adds_61 : decode cX5_adds 61 = .ok (.iastore, 1) := by decide +kernel
theorem dX5_adds_62 : decode cX5_adds 62 = .ok (.return_, 1) := by decide +kernel
theorem dX5_readsMan_0 : decode cX5_readsMan 0 = .ok (.aload_n 0, 1) := by decide +kernel
theorem dX5_readsMan_1 : decode cX5_readsMan 1 = .ok (.invokevirtual 63, 3) := by decide +kernel
theorem dX5_readsMan_4 : decode cX5_readsMan 4 = .ok (.istore_n 1, 1) := by decide +kernel
theorem dX5_readsMan_5 : decode cX5_readsMan 5 = .ok (.iload_n 1, 1) := by decide +kernel
theorem dX5_readsMan_6 : decode cX5_readsMan 6 = .ok (.iconst 0, 1) := by decide +kernel
theorem dX5_readsMan_7 : decode cX5_readsMan 7 = .ok (.iconst 3, 1) := by decide +kernel
theorem dX5_readsMan_8 : decode cX5_readsMan 8 = .ok (.invokestatic 45, 3) := by decide +kernel
theorem dX5_readsMan_11 : decode cX5_readsMan 11 = .ok (.ifCond .eq 12, 3) := by decide +kernel
theorem dX5_readsMan_14 : decode cX5_readsMan 14 = .ok (.aload_n 0, 1) := by decide +kernel
theorem dX5_readsMan_15 : decode cX5_readsMan 15 = .ok (.bipush 44, 2) := by decide +kernel
theorem dX5_readsMan_17 : decode cX5_readsMan 17 = .ok (.invokevirtual 67, 3) := by decide +kernel
theorem dX5_readsMan_20 : decode cX5_readsMan 20 = .ok (.ifCond .ne 5, 3) := by decide +kernel
theorem dX5_readsMan_23 : decode cX5_readsMan 23 = .ok (.iconst 0, 1) := by decide +kernel
theorem dX5_readsMan_24 : decode cX5_readsMan 24 = .ok (.ireturn, 1) := by decide +kernel
theorem dX5_readsMan_25 : decode cX5_readsMan 25 = .ok (.aload_n 0, 1) := by decide +kernel
theorem dX5_readsMan_26 : decode cX5_readsMan 26 = .ok (.invokevirtual 63, 3) := by decide +kernel
theorem dX5_readsMan_29 : decode cX5_readsMan 29 = .ok (.istore_n 2, 1) := by decide +kernel
theorem dX5_readsMan_30 : decode cX5_readsMan 30 = .ok (.iload_n 2, 1) := by decide +kernel
theorem dX5_readsMan_31 : decode cX5_readsMan 31 = .ok (.iconst 0, 1) := by decide +kernel
theorem dX5_readsMan_32 : decode cX5_readsMan 32 = .ok (.iconst 3, 1) := by decide +kernel
theorem dX5_readsMan_33 : decode cX5_readsMan 33 = .ok (.invokestatic 45, 3) := by decide +kernel
theorem dX5_readsMan_36 : decode cX5_readsMan 36 = .ok (.ifCond .eq 12, 3) := by decide +kernel
theorem dX5_readsMan_39 : decode cX5_readsMan 39 = .ok (.aload_n 0, 1) := by decide +kernel
theorem dX5_readsMan_40 : decode cX5_readsMan 40 = .ok (.bipush 44, 2) := by decide +kernel
theorem dX5_readsMan_42 : decode cX5_readsMan 42 = .ok (.invokevirtual 67, 3) := by decide +kernel
theorem dX5_readsMan_45 : decode cX5_readsMan 45 = .ok (.ifCond .ne 5, 3) := by decide +kernel
theorem dX5_readsMan_48 : decode cX5_readsMan 48 = .ok (.iconst 0, 1) := by decide +kernel
theorem dX5_readsMan_49 : decode cX5_readsMan 49 = .ok (.ireturn, 1) := by decide +kernel
theorem dX5_readsMan_50 : decode cX5_readsMan 50 = .ok (.aload_n 0, 1) := by decide +kernel
theorem dX5_readsMan_51 : decode cX5_readsMan 51 = .ok (.invokevirtual 63, 3) := by decide +kernel
theorem dX5_readsMan_54 : decode cX5_readsMan 54 = .ok (.istore_n 3, 1) := by decide +kernel
theorem dX5_readsMan_55 : decode cX5_readsMan 55 = .ok (.iload_n 3, 1) := by decide +kernel
theorem dX5_readsMan_56 : decode cX5_readsMan 56 = .ok (.iconst 0, 1) := by decide +kernel
theorem dX5_readsMan_57 : decode cX5_readsMan 57 = .ok (.bipush 7, 2) := by decide +kernel
theorem dX5_readsMan_59 : decode cX5_readsMan 59 = .ok (.invokestatic 45, 3) := by decide +kernel
theorem dX5_readsMan_62 : decode cX5_readsMan 62 = .ok (.ifCond .eq 12, 3) := by decide +kernel
theorem dX5_readsMan_65 : decode cX5_readsMan 65 = .ok (.aload_n 0, 1) := by decide +kernel
theorem dX5_readsMan_66 : decode cX5_readsMan 66 = .ok (.bipush 44, 2) := by decide +kernel
theorem dX5_readsMan_68 : decode cX5_readsMan 68 = .ok (.invokevirtual 67, 3) := by decide +kernel
theorem dX5_readsMan_71 : decode cX5_readsMan 71 = .ok (.ifCond .ne 5, 3) := by decide +kernel
theorem dX5_readsMan_74 : decode cX5_readsMan 74 = .ok (.iconst 0, 1) := by decide +kernel
theorem dX5_readsMan_75 : decode cX5_readsMan 75 = .ok (.ireturn, 1) := by decide +kernel
theorem dX5_readsMan_76 : decode cX5_readsMan 76 = .ok (.aload_n 0, 1) := by decide +kernel
theorem dX5_readsMan_77 : decode cX5_readsMan 77 = .ok (.invokevirtual 63, 3) := by decide +kernel
theorem dX5_readsMan_80 : decode cX5_readsMan 80 = .ok (.istore 4, 2) := by decide +kernel
theorem dX5_readsMan_82 : decode cX5_readsMan 82 = .ok (.iload 4, 2) := by decide +kernel
theorem dX5_readsMan_84 : decode cX5_readsMan 84 = .ok (.iconst 0, 1) := by decide +kernel
theorem dX5_readsMan_85 : decode cX5_readsMan 85 = .ok (.bipush 10, 2) := by decide +kernel
theorem dX5_readsMan_87 : decode cX5_readsMan 87 = .ok (.invokestatic 45, 3) := by decide +kernel
theorem dX5_readsMan_90 : decode cX5_readsMan 90 = .ok (.ifCond .eq 23, 3) := by decide +kernel
theorem dX5_readsMan_93 : decode cX5_readsMan 93 = .ok (.aload_n 0, 1) := by decide +kernel
theorem dX5_readsMan_94 : decode cX5_readsMan 94 = .ok (.bipush 59, 2) := by decide +kernel
theorem dX5_readsMan_96 : decode cX5_readsMan 96 = .ok (.invokevirtual 67, 3) := by decide +kernel
theorem dX5_readsMan_99 : decode cX5_readsMan 99 = .ok (.ifCond .eq 14, 3) := by decide +kernel
theorem dX5_readsMan_102 : decode cX5_readsMan 102 = .ok (.aload_n 0, 1) := by decide +kernel
theorem dX5_readsMan_103 : decode cX5_readsMan 103 = .ok (.getfield 16, 3) := by decide +kernel
theorem dX5_readsMan_106 : decode cX5_readsMan 106 = .ok (.iconst 0, 1) := by decide +kernel
theorem dX5_readsMan_107 : decode cX5_readsMan 107 = .ok (.iaload, 1) := by decide +kernel
theorem dX5_readsMan_108 : decode cX5_readsMan 108 = .ok (.bipush 8, 2) := by decide +kernel
theorem dX5_readsMan_110 : decode cX5_readsMan 110 = .ok (.if_icmp .ne 5, 3) := by decide +kernel
theorem dX5_readsMan_113 : decode cX5_readsMan 113 = .ok (.iconst 0, 1) := by decide +kernel
theorem dX5_readsMan_114 : decode cX5_readsMan 114 = .ok (.ireturn, 1) := by decide +kernel
theorem dX5_readsMan_115 : decode cX5_readsMan 115 = .ok (.aload_n 0, 1) := by decide +kernel
theorem dX5_readsMan_116 : decode cX5_readsMan 116 = .ok (.iload_n 1, 1) := by decide +kernel
theorem dX5_readsMan_117 : decode cX5_readsMan 117 = .ok (.iload_n 2, 1) := by decide +kernel
theorem dX5_readsMan_118 : decode cX5_readsMan 118 = .ok (.iload_n 3, 1) := by decide +kernel
theorem dX5_readsMan_119 : decode cX5_readsMan 119 = .ok (.iload 4, 2) := by decide +kernel
theorem dX5_readsMan_121 : decode cX5_readsMan 121 = .ok (.invokevirtual 38, 3) := by decide +kernel
theorem dX5_readsMan_124 : decode cX5_readsMan 124 = .ok (.iconst 1, 1) := by decide +kernel
theorem dX5_readsMan_125 : decode cX5_readsMan 125 = .ok (.ireturn, 1) := by decide +kernel
theorem dX5_readsOne_0 : decode cX5_readsOne 0 = .ok (.aload_n 0, 1) := by decide +kernel
theorem dX5_readsOne_1 : decode cX5_readsOne 1 = .ok (.getfield 16, 3) := by decide +kernel
theorem dX5_readsOne_4 : decode cX5_readsOne 4 = .ok (.iload_n 1, 1) := by decide +kernel
theorem dX5_readsOne_5 : decode cX5_readsOne 5 = .ok (.aload_n 0, 1) := by decide +kernel
theorem dX5_readsOne_6 : decode cX5_readsOne 6 = .ok (.invokevirtual 63, 3) := by decide +kernel
theorem dX5_readsOne_9 : decode cX5_readsOne 9 = .ok (.iastore, 1) := by decide +kernel
theorem dX5_readsOne_10 : decode cX5_readsOne 10 = .ok (.aload_n 0, 1) := by decide +kernel
theorem dX5_readsOne_11 : decode cX5_readsOne 11 = .ok (.getfield 16, 3) := by decide +kernel
theorem dX5_readsOne_14 : decode cX5_readsOne 14 = .ok (.iload_n 1, 1) := by decide +kernel
theorem dX5_readsOne_15 : decode cX5_readsOne 15 = .ok (.iaload, 1) := by decide +kernel
theorem dX5_readsOne_16 : decode cX5_readsOne 16 = .ok (.iconst 0, 1) := by decide +kernel
theorem dX5_readsOne_17 : decode cX5_readsOne 17 = .ok (.iload_n 2, 1) := by decide +kernel
theorem dX5_readsOne_18 : decode cX5_readsOne 18 = .ok (.invokestatic 45, 3) := by decide +kernel
theorem dX5_readsOne_21 : decode cX5_readsOne 21 = .ok (.ifCond .eq 16, 3) := by decide +kernel
theorem dX5_readsOne_24 : decode cX5_readsOne 24 = .ok (.aload_n 0, 1) := by decide +kernel
theorem dX5_readsOne_25 : decode cX5_readsOne 25 = .ok (.bipush 59, 2) := by decide +kernel
theorem dX5_readsOne_27 : decode cX5_readsOne 27 = .ok (.invokevirtual 67, 3) := by decide +kernel
theorem dX5_readsOne_30 : decode cX5_readsOne 30 = .ok (.ifCond .eq 7, 3) := by decide +kernel
theorem dX5_readsOne_33 : decode cX5_readsOne 33 = .ok (.iconst 1, 1) := by decide +kernel
theorem dX5_readsOne_34 : decode cX5_readsOne 34 = .ok (.goto 4, 3) := by decide +kernel
theorem dX5_readsOne_37 : decode cX5_readsOne 37 = .ok (.iconst 0, 1) := by decide +kernel
theorem dX5_readsOne_38 : decode cX5_readsOne 38 = .ok (.ireturn, 1) := by decide +kernel
theorem dX5_reads_0 : decode cX5_reads 0 = .ok (.aload_n 0, 1) := by decide +kernel
theorem dX5_reads_1 : decode cX5_reads 1 = .ok (.invokevirtual 35, 3) := by decide +kernel
theorem dX5_reads_4 : decode cX5_reads 4 = .ok (.aload_n 0, 1) := by decide +kernel
theorem dX5_reads_5 : decode cX5_reads 5 = .ok (.iconst 0, 1) := by decide +kernel
theorem dX5_reads_6 : decode cX5_reads 6 = .ok (.putfield 52, 3) := by decide +kernel
theorem dX5_reads_9 : decode cX5_reads 9 = .ok (.aload_n 0, 1) := by decide +kernel
theorem dX5_reads_10 : decode cX5_reads 10 = .ok (.getfield 52, 3) := by decide +kernel
theorem dX5_reads_13 : decode cX5_reads 13 = .ok (.aload_n 0, 1) := by decide +kernel
theorem dX5_reads_14 : decode cX5_reads 14 = .ok (.getfield 49, 3) := by decide +kernel
theorem dX5_reads_17 : decode cX5_reads 17 = .ok (.if_icmp .ge 87, 3) := by decide +kernel
theorem dX5_reads_20 : decode cX5_reads 20 = .ok (.aload_n 0, 1) := by decide +kernel
theorem dX5_reads_21 : decode cX5_reads 21 = .ok (.getfield 52, 3) := by decide +kernel
theorem dX5_reads_24 : decode cX5_reads 24 = .ok (.istore_n 1, 1) := by decide +kernel
theorem dX5_reads_25 : decode cX5_reads 25 = .ok (.aload_n 0, 1) := by decide +kernel
theorem dX5_reads_26 : decode cX5_reads 26 = .ok (.getfield 7, 3) := by decide +kernel
theorem dX5_reads_29 : decode cX5_reads 29 = .ok (.aload_n 0, 1) := by decide +kernel
theorem dX5_reads_30 : decode cX5_reads 30 = .ok (.getfield 52, 3) := by decide +kernel
theorem dX5_reads_33 : decode cX5_reads 33 = .ok (.iaload, 1) := by decide +kernel
theorem dX5_reads_34 : decode cX5_reads 34 = .ok (.istore_n 2, 1) := by decide +kernel
theorem dX5_reads_35 : decode cX5_reads 35 = .ok (.aload_n 0, 1) := by decide +kernel
theorem dX5_reads_36 : decode cX5_reads 36 = .ok (.dup, 1) := by decide +kernel
theorem dX5_reads_37 : decode cX5_reads 37 = .ok (.getfield 52, 3) := by decide +kernel
theorem dX5_reads_40 : decode cX5_reads 40 = .ok (.iconst 1, 1) := by decide +kernel
theorem dX5_reads_41 : decode cX5_reads 41 = .ok (.iadd, 1) := by decide +kernel
theorem dX5_reads_42 : decode cX5_reads 42 = .ok (.putfield 52, 3) := by decide +kernel
theorem dX5_reads_45 : decode cX5_reads 45 = .ok (.iload_n 2, 1) := by decide +kernel
theorem dX5_reads_46 : decode cX5_reads 46 = .ok (.bipush 109, 2) := by decide +kernel
theorem dX5_reads_48 : decode cX5_reads 48 = .ok (.if_icmp .ne 10, 3) := by decide +kernel
theorem dX5_reads_51 : decode cX5_reads 51 = .ok (.aload_n 0, 1) := by decide +kernel
theorem dX5_reads_52 : decode cX5_reads 52 = .ok (.invokevirtual 70, 3) := by decide +kernel
theorem dX5_reads_55 : decode cX5_reads 55 = .ok (.goto 39, 3) := by decide +kernel
theorem dX5_reads_58 : decode cX5_reads 58 = .ok (.iload_n 2, 1) := by decide +kernel
theorem dX5_reads_59 : decode cX5_reads 59 = .ok (.bipush 122, 2) := by decide +kernel
theorem dX5_reads_61 : decode cX5_reads 61 = .ok (.if_icmp .ne 13, 3) := by decide +kernel
theorem dX5_reads_64 : decode cX5_reads 64 = .ok (.aload_n 0, 1) := by decide +kernel
theorem dX5_reads_65 : decode cX5_reads 65 = .ok (.iconst 1, 1) := by decide +kernel
theorem dX5_reads_66 : decode cX5_reads 66 = .ok (.bipush 99, 2) := by decide +kernel
theorem dX5_reads_68 : decode cX5_reads 68 = .ok (.invokevirtual 74, 3) := by decide +kernel
theorem dX5_reads_71 : decode cX5_reads 71 = .ok (.goto 23, 3) := by decide +kernel
theorem dX5_reads_74 : decode cX5_reads 74 = .ok (.iload_n 2, 1) := by decide +kernel
theorem dX5_reads_75 : decode cX5_reads 75 = .ok (.bipush 101, 2) := by decide +kernel
theorem dX5_reads_77 : decode cX5_reads 77 = .ok (.if_icmp .ne 16, 3) := by decide +kernel
theorem dX5_reads_80 : decode cX5_reads 80 = .ok (.aload_n 0, 1) := by decide +kernel
theorem dX5_reads_81 : decode cX5_reads 81 = .ok (.iconst 2, 1) := by decide +kernel
theorem dX5_reads_82 : decode cX5_reads 82 = .ok (.iconst 1, 1) := by decide +kernel
theorem dX5_reads_83 : decode cX5_reads 83 = .ok (.invokevirtual 74, 3) := by decide +kernel
theorem dX5_reads_86 : decode cX5_reads 86 = .ok (.ifCond .eq 7, 3) := by decide +kernel
theorem dX5_reads_89 : decode cX5_reads 89 = .ok (.iconst 1, 1) := by decide +kernel
theorem dX5_reads_90 : decode cX5_reads 90 = .ok (.goto 4, 3) := by decide +kernel
theorem dX5_reads_93 : decode cX5_reads 93 = .ok (.iconst 0, 1) := by decide +kernel
theorem dX5_reads_94 : decode cX5_reads 94 = .ok (.istore_n 3, 1) := by decide +kernel
theorem dX5_reads_95 : decode cX5_reads 95 = .ok (.iload_n 3, 1) := by decide +kernel
theorem dX5_reads_96 : decode cX5_reads 96 = .ok (.ifCond .ne 5, 3) := by decide +kernel
theorem dX5_reads_99 : decode cX5_reads 99 = .ok (.iload_n 1, 1) := by decide +kernel
theorem dX5_reads_100 : decode cX5_reads 100 = .ok (.ireturn, 1) := by decide +kernel
theorem dX5_reads_101 : decode cX5_reads 101 = .ok (.goto (-92), 3) := by decide +kernel
theorem dX5_reads_104 : decode cX5_reads 104 = .ok (.bipush (-4), 2) := by decide +kernel
theorem dX5_reads_106 : decode cX5_reads 106 = .ok (.ireturn, 1) := by decide +kernel
theorem dX5_fault_0 : decode cX5_fault 0 = .ok (.aload_n 0, 1) := by decide +kernel
theorem dX5_fault_1 : decode cX5_fault 1 = .ok (.invokevirtual 78, 3) := by decide +kernel
theorem dX5_fault_4 : decode cX5_fault 4 = .ok (.ireturn, 1) := by decide +kernel
theorem dX5_lays_0 : decode cX5_lays 0 = .ok (.iconst 0, 1) := by decide +kernel
theorem dX5_lays_1 : decode cX5_lays 1 = .ok (.istore_n 1, 1) := by decide +kernel
theorem dX5_lays_2 : decode cX5_lays 2 = .ok (.iload_n 1, 1) := by decide +kernel
theorem dX5_lays_3 : decode cX5_lays 3 = .ok (.bipush 35, 2) := by decide +kernel
theorem dX5_lays_5 : decode cX5_lays 5 = .ok (.if_icmp .ge 21, 3) := by decide +kernel
theorem dX5_lays_8 : decode cX5_lays 8 = .ok (.aload_n 0, 1) := by decide +kernel
theorem dX5_lays_9 : decode cX5_lays 9 = .ok (.getfield 13, 3) := by decide +kernel
theorem dX5_lays_12 : decode cX5_lays 12 = .ok (.iload_n 1, 1) := by decide +kernel
theorem dX5_lays_13 : decode cX5_lays 13 = .ok (.aload_n 0, 1) := by decide +kernel
theorem dX5_lays_14 : decode cX5_lays 14 = .ok (.getfield 16, 3) := by decide +kernel
theorem dX5_lays_17 : decode cX5_lays 17 = .ok (.iload_n 1, 1) := by decide +kernel
theorem dX5_lays_18 : decode cX5_lays 18 = .ok (.iaload, 1) := by decide +kernel
theorem dX5_lays_19 : decode cX5_lays 19 = .ok (.iastore, 1) := by decide +kernel
theorem dX5_lays_20 : decode cX5_lays 20 = .ok (.iinc 1 1, 3) := by decide +kernel
theorem dX5_lays_23 : decode cX5_lays 23 = .ok (.goto (-21), 3) := by decide +kernel
theorem dX5_lays_26 : decode cX5_lays 26 = .ok (.iconst 0, 1) := by decide +kernel
theorem dX5_lays_27 : decode cX5_lays 27 = .ok (.istore_n 1, 1) := by decide +kernel
theorem dX5_lays_28 : decode cX5_lays 28 = .ok (.iload_n 1, 1) := by decide +kernel
theorem dX5_lays_29 : decode cX5_lays 29 = .ok (.bipush 22, 2) := by decide +kernel
theorem dX5_lays_31 : decode cX5_lays 31 = .ok (.if_icmp .ge 55, 3) := by decide +kernel
theorem dX5_lays_34 : decode cX5_lays 34 = .ok (.aload_n 0, 1) := by decide +kernel
theorem dX5_lays_35 : decode cX5_lays 35 = .ok (.getfield 19, 3) := by decide +kernel
theorem dX5_lays_38 : decode cX5_lays 38 = .ok (.iload_n 1, 1) := by decide +kernel
theorem dX5_lays_39 : decode cX5_lays 39 = .ok (.iload_n 1, 1) := by decide +kernel
theorem dX5_lays_40 : decode cX5_lays 40 = .ok (.bipush 8, 2) := by decide +kernel
theorem dX5_lays_42 : decode cX5_lays 42 = .ok (.if_icmp .ge 15, 3) := by decide +kernel
theorem dX5_lays_45 : decode cX5_lays 45 = .ok (.aload_n 0, 1) := by decide +kernel
theorem dX5_lays_46 : decode cX5_lays 46 = .ok (.getfield 13, 3) := by decide +kernel
theorem dX5_lays_49 : decode cX5_lays 49 = .ok (.bipush 11, 2) := by decide +kernel
theorem dX5_lays_51 : decode cX5_lays 51 = .ok (.iload_n 1, 1) := by decide +kernel
theorem dX5_lays_52 : decode cX5_lays 52 = .ok (.iadd, 1) := by decide +kernel
theorem dX5_lays_53 : decode cX5_lays 53 = .ok (.iaload, 1) := by decide +kernel
theorem dX5_lays_54 : decode cX5_lays 54 = .ok (.goto 25, 3) := by decide +kernel
theorem dX5_lays_57 : decode cX5_lays 57 = .ok (.iload_n 1, 1) := by decide +kernel
theorem dX5_lays_58 : decode cX5_lays 58 = .ok (.bipush 16, 2) := by decide +kernel
theorem dX5_lays_60 : decode cX5_lays 60 = .ok (.if_icmp .ge 18, 3) := by decide +kernel
theorem dX5_lays_63 : decode cX5_lays 63 = .ok (.aload_n 0, 1) := by decide +kernel
theorem dX5_lays_64 : decode cX5_lays 64 = .ok (.getfield 13, 3) := by decide +kernel
theorem dX5_lays_67 : decode cX5_lays 67 = .ok (.bipush 19, 2) := by decide +kernel
theorem dX5_lays_69 : decode cX5_lays 69 = .ok (.iload_n 1, 1) := by decide +kernel
theorem dX5_lays_70 : decode cX5_lays 70 = .ok (.iadd, 1) := by decide +kernel
theorem dX5_lays_71 : decode cX5_lays 71 = .ok (.bipush 8, 2) := by decide +kernel
theorem dX5_lays_73 : decode cX5_lays 73 = .ok (.isub, 1) := by decide +kernel
theorem dX5_lays_74 : decode cX5_lays 74 = .ok (.iaload, 1) := by decide +kernel
theorem dX5_lays_75 : decode cX5_lays 75 = .ok (.goto 4, 3) := by decide +kernel
theorem dX5_lays_78 : decode cX5_lays 78 = .ok (.iconst 0, 1) := by decide +kernel
theorem dX5_lays_79 : decode cX5_lays 79 = .ok (.iastore, 1) := by decide +kernel
theorem dX5_lays_80 : decode cX5_lays 80 = .ok (.iinc 1 1, 3) := by decide +kernel
theorem dX5_lays_83 : decode cX5_lays 83 = .ok (.goto (-55), 3) := by decide +kernel
theorem dX5_lays_86 : decode cX5_lays 86 = .ok (.aload_n 0, 1) := by decide +kernel
theorem dX5_lays_87 : decode cX5_lays 87 = .ok (.getfield 19, 3) := by decide +kernel
theorem dX5_lays_90 : decode cX5_lays 90 = .ok (.bipush 16, 2) := by decide +kernel
theorem dX5_lays_92 : decode cX5_lays 92 = .ok (.aload_n 0, 1) := by decide +kernel
theorem dX5_lays_93 : decode cX5_lays 93 = .ok (.getfield 13, 3) := by decide +kernel
theorem dX5_lays_96 : decode cX5_lays 96 = .ok (.iconst 2, 1) := by decide +kernel
theorem dX5_lays_97 : decode cX5_lays 97 = .ok (.iaload, 1) := by decide +kernel
theorem dX5_lays_98 : decode cX5_lays 98 = .ok (.iastore, 1) := by decide +kernel
theorem dX5_lays_99 : decode cX5_lays 99 = .ok (.aload_n 0, 1) := by decide +kernel
theorem dX5_lays_100 : decode cX5_lays 100 = .ok (.getfield 19, 3) := by decide +kernel
theorem dX5_lays_103 : decode cX5_lays 103 = .ok (.bipush 18, 2) := by decide +kernel
theorem dX5_lays_105 : decode cX5_lays 105 = .ok (.iconst (-1), 1) := by decide +kernel
theorem dX5_lays_106 : decode cX5_lays 106 = .ok (.iastore, 1) := by decide +kernel
theorem dX5_lays_107 : decode cX5_lays 107 = .ok (.aload_n 0, 1) := by decide +kernel
theorem dX5_lays_108 : decode cX5_lays 108 = .ok (.iconst 0, 1) := by decide +kernel
theorem dX5_lays_109 : decode cX5_lays 109 = .ok (.putfield 81, 3) := by decide +kernel
theorem dX5_lays_112 : decode cX5_lays 112 = .ok (.aload_n 0, 1) := by decide +kernel
theorem dX5_lays_113 : decode cX5_lays 113 = .ok (.iconst 0, 1) := by decide +kernel
theorem dX5_lays_114 : decode cX5_lays 114 = .ok (.putfield 84, 3) := by decide +kernel
theorem dX5_lays_117 : decode cX5_lays 117 = .ok (.return_, 1) := by decide +kernel
theorem dX5_lay_0 : decode cX5_lay 0 = .ok (.aload_n 0, 1) := by decide +kernel
theorem dX5_lay_1 : decode cX5_lay 1 = .ok (.invokevirtual 78, 3) := by decide +kernel
theorem dX5_lay_4 : decode cX5_lay 4 = .ok (.bipush (-4), 2) := by decide +kernel
theorem dX5_lay_6 : decode cX5_lay 6 = .ok (.if_icmp .ne 16, 3) := by decide +kernel
theorem dX5_lay_9 : decode cX5_lay 9 = .ok (.aload_n 0, 1) := by decide +kernel
theorem dX5_lay_10 : decode cX5_lay 10 = .ok (.getfield 16, 3) := by decide +kernel
theorem dX5_lay_13 : decode cX5_lay 13 = .ok (.iconst 0, 1) := by decide +kernel
theorem dX5_lay_14 : decode cX5_lay 14 = .ok (.iaload, 1) := by decide +kernel
theorem dX5_lay_15 : decode cX5_lay 15 = .ok (.ifCond .le 7, 3) := by decide +kernel
theorem dX5_lay_18 : decode cX5_lay 18 = .ok (.iconst 1, 1) := by decide +kernel
theorem dX5_lay_19 : decode cX5_lay 19 = .ok (.goto 4, 3) := by decide +kernel
theorem dX5_lay_22 : decode cX5_lay 22 = .ok (.iconst 0, 1) := by decide +kernel
theorem dX5_lay_23 : decode cX5_lay 23 = .ok (.istore_n 1, 1) := by decide +kernel
theorem dX5_lay_24 : decode cX5_lay 24 = .ok (.iconst 0, 1) := by decide +kernel
theorem dX5_lay_25 : decode cX5_lay 25 = .ok (.istore_n 2, 1) := by decide +kernel
theorem dX5_lay_26 : decode cX5_lay 26 = .ok (.iload_n 2, 1) := by decide +kernel
theorem dX5_lay_27 : decode cX5_lay 27 = .ok (.aload_n 0, 1) := by decide +kernel
theorem dX5_lay_28 : decode cX5_lay 28 = .ok (.getfield 16, 3) := by decide +kernel
theorem dX5_lay_31 : decode cX5_lay 31 = .ok (.iconst 0, 1) := by decide +kernel
theorem dX5_lay_32 : decode cX5_lay 32 = .ok (.iaload, 1) := by decide +kernel
theorem dX5_lay_33 : decode cX5_lay 33 = .ok (.if_icmp .ge 37, 3) := by decide +kernel
theorem dX5_lay_36 : decode cX5_lay 36 = .ok (.iload_n 1, 1) := by decide +kernel
theorem dX5_lay_37 : decode cX5_lay 37 = .ok (.ifCond .eq 33, 3) := by decide +kernel
theorem dX5_lay_40 : decode cX5_lay 40 = .ok (.aload_n 0, 1) := by decide +kernel
theorem dX5_lay_41 : decode cX5_lay 41 = .ok (.getfield 16, 3) := by decide +kernel
theorem dX5_lay_44 : decode cX5_lay 44 = .ok (.bipush 19, 2) := by decide +kernel
theorem dX5_lay_46 : decode cX5_lay 46 = .ok (.iload_n 2, 1) := by decide +kernel
theorem dX5_lay_47 : decode cX5_lay 47 = .ok (.iadd, 1) := by decide +kernel
theorem dX5_lay_48 : decode cX5_lay 48 = .ok (.iaload, 1) := by decide +kernel
theorem dX5_lay_49 : decode cX5_lay 49 = .ok (.aload_n 0, 1) := by decide +kernel
theorem dX5_lay_50 : decode cX5_lay 50 = .ok (.getfield 16, 3) := by decide +kernel
theorem dX5_lay_53 : decode cX5_lay 53 = .ok (.iconst 0, 1) := by decide +kernel
theorem dX5_lay_54 : decode cX5_lay 54 = .ok (.iaload, 1) := by decide +kernel
theorem dX5_lay_55 : decode cX5_lay 55 = .ok (.if_icmp .ge 7, 3) := by decide +kernel
theorem dX5_lay_58 : decode cX5_lay 58 = .ok (.iconst 1, 1) := by decide +kernel
theorem dX5_lay_59 : decode cX5_lay 59 = .ok (.goto 4, 3) := by decide +kernel
theorem dX5_lay_62 : decode cX5_lay 62 = .ok (.iconst 0, 1) := by decide +kernel
theorem dX5_lay_63 : decode cX5_lay 63 = .ok (.istore_n 1, 1) := by decide +kernel
theorem dX5_lay_64 : decode cX5_lay 64 = .ok (.iinc 2 1, 3) := by decide +kernel
theorem dX5_lay_67 : decode cX5_lay 67 = .ok (.goto (-41), 3) := by decide +kernel
theorem dX5_lay_70 : decode cX5_lay 70 = .ok (.iload_n 1, 1) := by decide +kernel
theorem dX5_lay_71 : decode cX5_lay 71 = .ok (.ifCond .ne 6, 3) := by decide +kernel
theorem dX5_lay_74 : decode cX5_lay 74 = .ok (.bipush (-2), 2) := by decide +kernel
theorem dX5_lay_76 : decode cX5_lay 76 = .ok (.ireturn, 1) := by decide +kernel
theorem dX5_lay_77 : decode cX5_lay 77 = .ok (.aload_n 0, 1) := by decide +kernel
theorem dX5_lay_78 : decode cX5_lay 78 = .ok (.invokevirtual 42, 3) := by decide +kernel
theorem dX5_lay_81 : decode cX5_lay 81 = .ok (.aload_n 0, 1) := by decide +kernel
theorem dX5_lay_82 : decode cX5_lay 82 = .ok (.getfield 13, 3) := by decide +kernel
theorem dX5_lay_85 : decode cX5_lay 85 = .ok (.iconst 0, 1) := by decide +kernel
theorem dX5_lay_86 : decode cX5_lay 86 = .ok (.iaload, 1) := by decide +kernel
theorem dX5_lay_87 : decode cX5_lay 87 = .ok (.ireturn, 1) := by decide +kernel
theorem dX5_turnOf_0 : decode cX5_turnOf 0 = .ok (.iload_n 0, 1) := by decide +kernel
theorem dX5_turnOf_1 : decode cX5_turnOf 1 = .ok (.ifCond .ge 7, 3) := by decide +kernel
theorem dX5_turnOf_4 : decode cX5_turnOf 4 = .ok (.iconst 0, 1) := by decide +kernel
theorem dX5_turnOf_5 : decode cX5_turnOf 5 = .ok (.goto 12, 3) := by decide +kernel
theorem dX5_turnOf_8 : decode cX5_turnOf 8 = .ok (.iload_n 0, 1) := by decide +kernel
theorem dX5_turnOf_9 : decode cX5_turnOf 9 = .ok (.ifCond .ne 7, 3) := by decide +kernel
theorem dX5_turnOf_12 : decode cX5_turnOf 12 = .ok (.iconst 3, 1) := by decide +kernel
theorem dX5_turnOf_13 : decode cX5_turnOf 13 = .ok (.goto 4, 3) := by decide +kernel
theorem dX5_turnOf_16 : decode cX5_turnOf 16 = .ok (.iload_n 0, 1) := by decide +kernel
theorem dX5_turnOf_17 : decode cX5_turnOf 17 = .ok (.ireturn, 1) := by decide +kernel
theorem dX5_dueOf_0 : decode cX5_dueOf 0 = .ok (.aload_n 0, 1) := by decide +kernel
theorem dX5_dueOf_1 : decode cX5_dueOf 1 = .ok (.getfield 13, 3) := by decide +kernel
theorem dX5_dueOf_4 : decode cX5_dueOf 4 = .ok (.bipush 11, 2) := by decide +kernel
theorem dX5_dueOf_6 : decode cX5_dueOf 6 = .ok (.iload_n 1, 1) := by decide +kernel
theorem dX5_dueOf_7 : decode cX5_dueOf 7 = .ok (.iadd, 1) := by decide +kernel
theorem dX5_dueOf_8 : decode cX5_dueOf 8 = .ok (.iaload, 1) := by decide +kernel
theorem dX5_dueOf_9 : decode cX5_dueOf 9 = .ok (.aload_n 0, 1) := by decide +kernel
theorem dX5_dueOf_10 : decode cX5_dueOf 10 = .ok (.getfield 19, 3) := by decide +kernel
theorem dX5_dueOf_13 : decode cX5_dueOf 13 = .ok (.bipush 19, 2) := by decide +kernel
theorem dX5_dueOf_15 : decode cX5_dueOf 15 = .ok (.iaload, 1) := by decide +kernel
theorem dX5_dueOf_16 : decode cX5_dueOf 16 = .ok (.iadd, 1) := by decide +kernel
theorem dX5_dueOf_17 : decode cX5_dueOf 17 = .ok (.iconst 4, 1) := by decide +kernel
theorem dX5_dueOf_18 : decode cX5_dueOf 18 = .ok (.irem, 1) := by decide +kernel
theorem dX5_dueOf_19 : decode cX5_dueOf 19 = .ok (.ireturn, 1) := by decide +kernel
theorem dX5_man_0 : decode cX5_man 0 = .ok (.aload_n 0, 1) := by decide +kernel
theorem dX5_man_1 : decode cX5_man 1 = .ok (.iload_n 1, 1) := by decide +kernel
theorem dX5_man_2 : decode cX5_man 2 = .ok (.invokevirtual 87, 3) := by decide +kernel
theorem dX5_man_5 : decode cX5_man 5 = .ok (.ifCond .ne 5, 3) := by decide +kernel
theorem dX5_man_8 : decode cX5_man 8 = .ok (.iconst (-1), 1) := by decide +kernel
theorem dX5_man_9 : decode cX5_man 9 = .ok (.ireturn, 1) := by decide +kernel
theorem dX5_man_10 : decode cX5_man 10 = .ok (.iload_n 2, 1) := by decide +kernel
theorem dX5_man_11 : decode cX5_man 11 = .ok (.tableswitch 75 0 4 #[33, 42, 49, 59, 69], 33) := by decide +kernel
theorem dX5_man_44 : decode cX5_man 44 = .ok (.aload_n 0, 1) := by decide +kernel
theorem dX5_man_45 : decode cX5_man 45 = .ok (.getfield 13, 3) := by decide +kernel
theorem dX5_man_48 : decode cX5_man 48 = .ok (.iconst 3, 1) := by decide +kernel
theorem dX5_man_49 : decode cX5_man 49 = .ok (.iload_n 1, 1) := by decide +kernel
theorem dX5_man_50 : decode cX5_man 50 = .ok (.iadd, 1) := by decide +kernel
theorem dX5_man_51 : decode cX5_man 51 = .ok (.iaload, 1) := by decide +kernel
theorem dX5_man_52 : decode cX5_man 52 = .ok (.ireturn, 1) := by decide +kernel
theorem dX5_man_53 : decode cX5_man 53 = .ok (.aload_n 0, 1) := by decide +kernel
theorem dX5_man_54 : decode cX5_man 54 = .ok (.getfield 19, 3) := by decide +kernel
theorem dX5_man_57 : decode cX5_man 57 = .ok (.iload_n 1, 1) := by decide +kernel
theorem dX5_man_58 : decode cX5_man 58 = .ok (.iaload, 1) := by decide +kernel
theorem dX5_man_59 : decode cX5_man 59 = .ok (.ireturn, 1) := by decide +kernel
theorem dX5_man_60 : decode cX5_man 60 = .ok (.aload_n 0, 1) := by decide +kernel
theorem dX5_man_61 : decode cX5_man 61 = .ok (.getfield 19, 3) := by decide +kernel
theorem dX5_man_64 : decode cX5_man 64 = .ok (.bipush 8, 2) := by decide +kernel
theorem dX5_man_66 : decode cX5_man 66 = .ok (.iload_n 1, 1) := by decide +kernel
theorem dX5_man_67 : decode cX5_man 67 = .ok (.iadd, 1) := by decide +kernel
theorem dX5_man_68 : decode cX5_man 68 = .ok (.iaload, 1) := by decide +kernel
theorem dX5_man_69 : decode cX5_man 69 = .ok (.ireturn, 1) := by decide +kernel
theorem dX5_man_70 : decode cX5_man 70 = .ok (.aload_n 0, 1) := by decide +kernel
theorem dX5_man_71 : decode cX5_man 71 = .ok (.getfield 13, 3) := by decide +kernel
theorem dX5_man_74 : decode cX5_man 74 = .ok (.bipush 27, 2) := by decide +kernel
theorem dX5_man_76 : decode cX5_man 76 = .ok (.iload_n 1, 1) := by decide +kernel
theorem dX5_man_77 : decode cX5_man 77 = .ok (.iadd, 1) := by decide +kernel
theorem dX5_man_78 : decode cX5_man 78 = .ok (.iaload, 1) := by decide +kernel
theorem dX5_man_79 : decode cX5_man 79 = .ok (.ireturn, 1) := by decide +kernel
theorem dX5_man_80 : decode cX5_man 80 = .ok (.aload_n 0, 1) := by decide +kernel
theorem dX5_man_81 : decode cX5_man 81 = .ok (.iload_n 1, 1) := by decide +kernel
theorem dX5_man_82 : decode cX5_man 82 = .ok (.invokevirtual 90, 3) := by decide +kernel
theorem dX5_man_85 : decode cX5_man 85 = .ok (.ireturn, 1) := by decide +kernel
theorem dX5_man_86 : decode cX5_man 86 = .ok (.iconst (-1), 1) := by decide +kernel
theorem dX5_man_87 : decode cX5_man 87 = .ok (.ireturn, 1) := by decide +kernel
theorem dX5_isLooking_0 : decode cX5_isLooking 0 = .ok (.iload_n 1, 1) := by decide +kernel
theorem dX5_isLooking_1 : decode cX5_isLooking 1 = .ok (.aload_n 0, 1) := by decide +kernel
theorem dX5_isLooking_2 : decode cX5_isLooking 2 = .ok (.getfield 28, 3) := by decide +kernel
theorem dX5_isLooking_5 : decode cX5_isLooking 5 = .ok (.if_icmp .eq 15, 3) := by decide +kernel
theorem dX5_isLooking_8 : decode cX5_isLooking 8 = .ok (.aload_n 0, 1) := by decide +kernel
theorem dX5_isLooking_9 : decode cX5_isLooking 9 = .ok (.getfield 13, 3) := by decide +kernel
theorem dX5_isLooking_12 : decode cX5_isLooking 12 = .ok (.iconst 3, 1) := by decide +kernel
theorem dX5_isLooking_13 : decode cX5_isLooking 13 = .ok (.iload_n 1, 1) := by decide +kernel
theorem dX5_isLooking_14 : decode cX5_isLooking 14 = .ok (.iadd, 1) := by decide +kernel
theorem dX5_isLooking_15 : decode cX5_isLooking 15 = .ok (.iaload, 1) := by decide +kernel
theorem dX5_isLooking_16 : decode cX5_isLooking 16 = .ok (.iconst 2, 1) := by decide +kernel
theorem dX5_isLooking_17 : decode cX5_isLooking 17 = .ok (.if_icmp .ne 7, 3) := by decide +kernel
theorem dX5_isLooking_20 : decode cX5_isLooking 20 = .ok (.iconst 1, 1) := by decide +kernel
theorem dX5_isLooking_21 : decode cX5_isLooking 21 = .ok (.goto 4, 3) := by decide +kernel
theorem dX5_isLooking_24 : decode cX5_isLooking 24 = .ok (.iconst 0, 1) := by decide +kernel
theorem dX5_isLooking_25 : decode cX5_isLooking 25 = .ok (.ireturn, 1) := by decide +kernel
theorem dX5_leader_0 : decode cX5_leader 0 = .ok (.iload_n 1, 1) := by decide +kernel
theorem dX5_leader_1 : decode cX5_leader 1 = .ok (.istore_n 2, 1) := by decide +kernel
theorem dX5_leader_2 : decode cX5_leader 2 = .ok (.iconst 0, 1) := by decide +kernel
theorem dX5_leader_3 : decode cX5_leader 3 = .ok (.istore_n 3, 1) := by decide +kernel
theorem dX5_leader_4 : decode cX5_leader 4 = .ok (.iload_n 3, 1) := by decide +kernel
theorem dX5_leader_5 : decode cX5_leader 5 = .ok (.bipush 8, 2) := by decide +kernel
theorem dX5_leader_7 : decode cX5_leader 7 = .ok (.if_icmp .gt 44, 3) := by decide +kernel
theorem dX5_leader_10 : decode cX5_leader 10 = .ok (.aload_n 0, 1) := by decide +kernel
theorem dX5_leader_11 : decode cX5_leader 11 = .ok (.iload_n 2, 1) := by decide +kernel
theorem dX5_leader_12 : decode cX5_leader 12 = .ok (.invokevirtual 93, 3) := by decide +kernel
theorem dX5_leader_15 : decode cX5_leader 15 = .ok (.ifCond .ne 5, 3) := by decide +kernel
theorem dX5_leader_18 : decode cX5_leader 18 = .ok (.iload_n 2, 1) := by decide +kernel
theorem dX5_leader_19 : decode cX5_leader 19 = .ok (.ireturn, 1) := by decide +kernel
theorem dX5_leader_20 : decode cX5_leader 20 = .ok (.iload_n 2, 1) := by decide +kernel
theorem dX5_leader_21 : decode cX5_leader 21 = .ok (.aload_n 0, 1) := by decide +kernel
theorem dX5_leader_22 : decode cX5_leader 22 = .ok (.getfield 28, 3) := by decide +kernel
theorem dX5_leader_25 : decode cX5_leader 25 = .ok (.if_icmp .ne 10, 3) := by decide +kernel
theorem dX5_leader_28 : decode cX5_leader 28 = .ok (.aload_n 0, 1) := by decide +kernel
theorem dX5_leader_29 : decode cX5_leader 29 = .ok (.getfield 96, 3) := by decide +kernel
theorem dX5_leader_32 : decode cX5_leader 32 = .ok (.goto 12, 3) := by decide +kernel
theorem dX5_leader_35 : decode cX5_leader 35 = .ok (.aload_n 0, 1) := by decide +kernel
theorem dX5_leader_36 : decode cX5_leader 36 = .ok (.getfield 19, 3) := by decide +kernel
theorem dX5_leader_39 : decode cX5_leader 39 = .ok (.bipush 8, 2) := by decide +kernel
theorem dX5_leader_41 : decode cX5_leader 41 = .ok (.iload_n 2, 1) := by decide +kernel
theorem dX5_leader_42 : decode cX5_leader 42 = .ok (.iadd, 1) := by decide +kernel
theorem dX5_leader_43 : decode cX5_leader 43 = .ok (.iaload, 1) := by decide +kernel
theorem dX5_leader_44 : decode cX5_leader 44 = .ok (.istore_n 2, 1) := by decide +kernel
theorem dX5_leader_45 : decode cX5_leader 45 = .ok (.iinc 3 1, 3) := by decide +kernel
theorem dX5_leader_48 : decode cX5_leader 48 = .ok (.goto (-44), 3) := by decide +kernel
theorem dX5_leader_51 : decode cX5_leader 51 = .ok (.bipush (-4), 2) := by decide +kernel
theorem dX5_leader_53 : decode cX5_leader 53 = .ok (.ireturn, 1) := by decide +kernel
theorem dX5_turnsAs_0 : decode cX5_turnsAs 0 = .ok (.aload_n 0, 1) := by decide +kernel
theorem dX5_turnsAs_1 : decode cX5_turnsAs 1 = .ok (.getfield 19, 3) := by decide +kernel
theorem dX5_turnsAs_4 : decode cX5_turnsAs 4 = .ok (.bipush 16, 2) := by decide +kernel
theorem dX5_turnsAs_6 : decode cX5_turnsAs 6 = .ok (.iaload, 1) := by decide +kernel
theorem dX5_turnsAs_7 : decode cX5_turnsAs 7 = .ok (.iconst 1, 1) := by decide +kernel
theorem dX5_turnsAs_8 : decode cX5_turnsAs 8 = .ok (.if_icmp .ne 7, 3) := by decide +kernel
theorem dX5_turnsAs_11 : decode cX5_turnsAs 11 = .ok (.iload_n 1, 1) := by decide +kernel
theorem dX5_turnsAs_12 : decode cX5_turnsAs 12 = .ok (.goto 8, 3) := by decide +kernel
theorem dX5_turnsAs_15 : decode cX5_turnsAs 15 = .ok (.aload_n 0, 1) := by decide +kernel
theorem dX5_turnsAs_16 : decode cX5_turnsAs 16 = .ok (.iload_n 1, 1) := by decide +kernel
theorem dX5_turnsAs_17 : decode cX5_turnsAs 17 = .ok (.invokevirtual 99, 3) := by decide +kernel
theorem dX5_turnsAs_20 : decode cX5_turnsAs 20 = .ok (.istore_n 2, 1) := by decide +kernel
theorem dX5_turnsAs_21 : decode cX5_turnsAs 21 = .ok (.iload_n 2, 1) := by decide +kernel
theorem dX5_turnsAs_22 : decode cX5_turnsAs 22 = .ok (.bipush (-4), 2) := by decide +kernel
theorem dX5_turnsAs_24 : decode cX5_turnsAs 24 = .ok (.if_icmp .ne 7, 3) := by decide +kernel
theorem dX5_turnsAs_27 : decode cX5_turnsAs 27 = .ok (.iload_n 1, 1) := by decide +kernel
theorem dX5_turnsAs_28 : decode cX5_turnsAs 28 = .ok (.goto 4, 3) := by decide +kernel
theorem dX5_turnsAs_31 : decode cX5_turnsAs 31 = .ok (.iload_n 2, 1) := by decide +kernel
theorem dX5_turnsAs_32 : decode cX5_turnsAs 32 = .ok (.ireturn, 1) := by decide +kernel
theorem dX5_mayErr_0 : decode cX5_mayErr 0 = .ok (.aload_n 0, 1) := by decide +kernel
theorem dX5_mayErr_1 : decode cX5_mayErr 1 = .ok (.getfield 13, 3) := by decide +kernel
theorem dX5_mayErr_4 : decode cX5_mayErr 4 = .ok (.iconst 3, 1) := by decide +kernel
theorem dX5_mayErr_5 : decode cX5_mayErr 5 = .ok (.iload_n 1, 1) := by decide +kernel
theorem dX5_mayErr_6 : decode cX5_mayErr 6 = .ok (.iadd, 1) := by decide +kernel
theorem dX5_mayErr_7 : decode cX5_mayErr 7 = .ok (.iaload, 1) := by decide +kernel
theorem dX5_mayErr_8 : decode cX5_mayErr 8 = .ok (.ifCond .eq 19, 3) := by decide +kernel
theorem dX5_mayErr_11 : decode cX5_mayErr 11 = .ok (.aload_n 0, 1) := by decide +kernel
theorem dX5_mayErr_12 : decode cX5_mayErr 12 = .ok (.getfield 13, 3) := by decide +kernel
theorem dX5_mayErr_15 : decode cX5_mayErr 15 = .ok (.iconst 3, 1) := by decide +kernel
theorem dX5_mayErr_16 : decode cX5_mayErr 16 = .ok (.iload_n 1, 1) := by decide +kernel
theorem dX5_mayErr_17 : decode cX5_mayErr 17 = .ok (.iadd, 1) := by decide +kernel
theorem dX5_mayErr_18 : decode cX5_mayErr 18 = .ok (.iaload, 1) := by decide +kernel
theorem dX5_mayErr_19 : decode cX5_mayErr 19 = .ok (.iconst 3, 1) := by decide +kernel
theorem dX5_mayErr_20 : decode cX5_mayErr 20 = .ok (.if_icmp .eq 7, 3) := by decide +kernel
theorem dX5_mayErr_23 : decode cX5_mayErr 23 = .ok (.iconst 1, 1) := by decide +kernel
theorem dX5_mayErr_24 : decode cX5_mayErr 24 = .ok (.goto 4, 3) := by decide +kernel
theorem dX5_mayErr_27 : decode cX5_mayErr 27 = .ok (.iconst 0, 1) := by decide +kernel
theorem dX5_mayErr_28 : decode cX5_mayErr 28 = .ok (.ireturn, 1) := by decide +kernel
theorem dX5_drawOf_0 : decode cX5_drawOf 0 = .ok (.lload_n 0, 1) := by decide +kernel
theorem dX5_drawOf_1 : decode cX5_drawOf 1 = .ok (.lload_n 0, 1) := by decide +kernel
theorem dX5_drawOf_2 : decode cX5_drawOf 2 = .ok (.lmul, 1) := by decide +kernel
theorem dX5_drawOf_3 : decode cX5_drawOf 3 = .ok (.ldc2_w 102, 3) := by decide +kernel
theorem dX5_drawOf_6 : decode cX5_drawOf 6 = .ok (.lrem, 1) := by decide +kernel
theorem dX5_drawOf_7 : decode cX5_drawOf 7 = .ok (.l2i, 1) := by decide +kernel
theorem dX5_drawOf_8 : decode cX5_drawOf 8 = .ok (.bipush 8, 2) := by decide +kernel
theorem dX5_drawOf_10 : decode cX5_drawOf 10 = .ok (.idiv, 1) := by decide +kernel
theorem dX5_drawOf_11 : decode cX5_drawOf 11 = .ok (.ireturn, 1) := by decide +kernel
theorem dX5_wrongly_0 : decode cX5_wrongly 0 = .ok (.iload_n 0, 1) := by decide +kernel
theorem dX5_wrongly_1 : decode cX5_wrongly 1 = .ok (.iconst 2, 1) := by decide +kernel
theorem dX5_wrongly_2 : decode cX5_wrongly 2 = .ok (.if_icmp .ne 7, 3) := by decide +kernel
theorem dX5_wrongly_5 : decode cX5_wrongly 5 = .ok (.iconst 2, 1) := by decide +kernel
theorem dX5_wrongly_6 : decode cX5_wrongly 6 = .ok (.goto 6, 3) := by decide +kernel
theorem dX5_wrongly_9 : decode cX5_wrongly 9 = .ok (.iconst 1, 1) := by decide +kernel
theorem dX5_wrongly_10 : decode cX5_wrongly 10 = .ok (.iload_n 0, 1) := by decide +kernel
theorem dX5_wrongly_11 : decode cX5_wrongly 11 = .ok (.isub, 1) := by decide +kernel
theorem dX5_wrongly_12 : decode cX5_wrongly 12 = .ok (.ireturn, 1) := by decide +kernel
theorem dX5_errors_0 : decode cX5_errors 0 = .ok (.iconst 0, 1) := by decide +kernel
theorem dX5_errors_1 : decode cX5_errors 1 = .ok (.istore_n 2, 1) := by decide +kernel
theorem dX5_errors_2 : decode cX5_errors 2 = .ok (.iconst 0, 1) := by decide +kernel
theorem dX5_errors_3 : decode cX5_errors 3 = .ok (.istore_n 3, 1) := by decide +kernel
theorem dX5_errors_4 : decode cX5_errors 4 = .ok (.iload_n 3, 1) := by decide +kernel
theorem dX5_errors_5 : decode cX5_errors 5 = .ok (.aload_n 0, 1) := by decide +kernel
theorem dX5_errors_6 : decode cX5_errors 6 = .ok (.getfield 13, 3) := by decide +kernel
theorem dX5_errors_9 : decode cX5_errors 9 = .ok (.iconst 0, 1) := by decide +kernel
theorem dX5_errors_10 : decode cX5_errors 10 = .ok (.iaload, 1) := by decide +kernel
theorem dX5_errors_11 : decode cX5_errors 11 = .ok (.if_icmp .ge 95, 3) := by decide +kernel
theorem dX5_errors_14 : decode cX5_errors 14 = .ok (.ldc2_w 104, 3) := by decide +kernel
theorem dX5_errors_17 : decode cX5_errors 17 = .ok (.aload_n 0, 1) := by decide +kernel
theorem dX5_errors_18 : decode cX5_errors 18 = .ok (.getfield 13, 3) := by decide +kernel
theorem dX5_errors_21 : decode cX5_errors 21 = .ok (.iconst 1, 1) := by decide +kernel
theorem dX5_errors_22 : decode cX5_errors 22 = .ok (.iaload, 1) := by decide +kernel
theorem dX5_errors_23 : decode cX5_errors 23 = .ok (.i2l, 1) := by decide +kernel
theorem dX5_errors_24 : decode cX5_errors 24 = .ok (.lmul, 1) := by decide +kernel
theorem dX5_errors_25 : decode cX5_errors 25 = .ok (.ldc2_w 106, 3) := by decide +kernel
theorem dX5_errors_28 : decode cX5_errors 28 = .ok (.aload_n 0, 1) := by decide +kernel
theorem dX5_errors_29 : decode cX5_errors 29 = .ok (.getfield 19, 3) := by decide +kernel
theorem dX5_errors_32 : decode cX5_errors 32 = .ok (.bipush 17, 2) := by decide +kernel
theorem dX5_errors_34 : decode cX5_errors 34 = .ok (.iaload, 1) := by decide +kernel
theorem dX5_errors_35 : decode cX5_errors 35 = .ok (.i2l, 1) := by decide +kernel
theorem dX5_errors_36 : decode cX5_errors 36 = .ok (.lmul, 1) := by decide +kernel
theorem dX5_errors_37 : decode cX5_errors 37 = .ok (.ladd, 1) := by decide +kernel
theorem dX5_errors_38 : decode cX5_errors 38 = .ok (.ldc2_w 108, 3) := by decide +kernel
theorem dX5_errors_41 : decode cX5_errors 41 = .ok (.iload_n 3, 1) := by decide +kernel
theorem dX5_errors_42 : decode cX5_errors 42 = .ok (.i2l, 1) := by decide +kernel
theorem dX5_errors_43 : decode cX5_errors 43 = .ok (.lmul, 1) := by decide +kernel
theorem dX5_errors_44 : decode cX5_errors 44 = .ok (.ladd, 1) := by decide +kernel
theorem dX5_errors_45 : decode cX5_errors 45 = .ok (.lconst 1, 1) := by decide +kernel
theorem dX5_errors_46 : decode cX5_errors 46 = .ok (.ladd, 1) := by decide +kernel
theorem dX5_errors_47 : decode cX5_errors 47 = .ok (.invokestatic 110, 3) := by decide +kernel
theorem dX5_errors_50 : decode cX5_errors 50 = .ok (.bipush 10, 2) := by decide +kernel
theorem dX5_errors_52 : decode cX5_errors 52 = .ok (.irem, 1) := by decide +kernel
theorem dX5_errors_53 : decode cX5_errors 53 = .ok (.istore 4, 2) := by decide +kernel
theorem dX5_errors_55 : decode cX5_errors 55 = .ok (.iload_n 2, 1) := by decide +kernel
theorem dX5_errors_56 : decode cX5_errors 56 = .ok (.iload_n 1, 1) := by decide +kernel
theorem dX5_errors_57 : decode cX5_errors 57 = .ok (.ifCond .eq 16, 3) := by decide +kernel
theorem dX5_errors_60 : decode cX5_errors 60 = .ok (.aload_n 0, 1) := by decide +kernel
theorem dX5_errors_61 : decode cX5_errors 61 = .ok (.getfield 13, 3) := by decide +kernel
theorem dX5_errors_64 : decode cX5_errors 64 = .ok (.bipush 27, 2) := by decide +kernel
theorem dX5_errors_66 : decode cX5_errors 66 = .ok (.iload_n 3, 1) := by decide +kernel
theorem dX5_errors_67 : decode cX5_errors 67 = .ok (.iadd, 1) := by decide +kernel
theorem dX5_errors_68 : decode cX5_errors 68 = .ok (.iaload, 1) := by decide +kernel
theorem dX5_errors_69 : decode cX5_errors 69 = .ok (.iconst 5, 1) := by decide +kernel
theorem dX5_errors_70 : decode cX5_errors 70 = .ok (.if_icmp .ge 21, 3) := by decide +kernel
theorem dX5_errors_73 : decode cX5_errors 73 = .ok (.iload_n 1, 1) := by decide +kernel
theorem dX5_errors_74 : decode cX5_errors 74 = .ok (.ifCond .ne 23, 3) := by decide +kernel
theorem dX5_errors_77 : decode cX5_errors 77 = .ok (.iload 4, 2) := by decide +kernel
theorem dX5_errors_79 : decode cX5_errors 79 = .ok (.aload_n 0, 1) := by decide +kernel
theorem dX5_errors_80 : decode cX5_errors 80 = .ok (.getfield 13, 3) := by decide +kernel
theorem dX5_errors_83 : decode cX5_errors 83 = .ok (.bipush 27, 2) := by decide +kernel
theorem dX5_errors_85 : decode cX5_errors 85 = .ok (.iload_n 3, 1) := by decide +kernel
theorem dX5_errors_86 : decode cX5_errors 86 = .ok (.iadd, 1) := by decide +kernel
theorem dX5_errors_87 : decode cX5_errors 87 = .ok (.iaload, 1) := by decide +kernel
theorem dX5_errors_88 : decode cX5_errors 88 = .ok (.if_icmp .ge 9, 3) := by decide +kernel
theorem dX5_errors_91 : decode cX5_errors 91 = .ok (.iconst 1, 1) := by decide +kernel
theorem dX5_errors_92 : decode cX5_errors 92 = .ok (.iload_n 3, 1) := by decide +kernel
theorem dX5_errors_93 : decode cX5_errors 93 = .ok (.ishl, 1) := by decide +kernel
theorem dX5_errors_94 : decode cX5_errors 94 = .ok (.goto 4, 3) := by decide +kernel
theorem dX5_errors_97 : decode cX5_errors 97 = .ok (.iconst 0, 1) := by decide +kernel
theorem dX5_errors_98 : decode cX5_errors 98 = .ok (.ior, 1) := by decide +kernel
theorem dX5_errors_99 : decode cX5_errors 99 = .ok (.istore_n 2, 1) := by decide +kernel
theorem dX5_errors_100 : decode cX5_errors 100 = .ok (.iinc 3 1, 3) := by decide +kernel
theorem dX5_errors_103 : decode cX5_errors 103 = .ok (.goto (-99), 3) := by decide +kernel
theorem dX5_errors_106 : decode cX5_errors 106 = .ok (.iload_n 2, 1) := by decide +kernel
theorem dX5_errors_107 : decode cX5_errors 107 = .ok (.ireturn, 1) := by decide +kernel
theorem dX5_turnBy_0 : decode cX5_turnBy 0 = .ok (.aload_n 0, 1) := by decide +kernel
theorem dX5_turnBy_1 : decode cX5_turnBy 1 = .ok (.iload_n 1, 1) := by decide +kernel
theorem dX5_turnBy_2 : decode cX5_turnBy 2 = .ok (.invokevirtual 114, 3) := by decide +kernel
theorem dX5_turnBy_5 : decode cX5_turnBy 5 = .ok (.istore 4, 2) := by decide +kernel
theorem dX5_turnBy_7 : decode cX5_turnBy 7 = .ok (.aload_n 0, 1) := by decide +kernel
theorem dX5_turnBy_8 : decode cX5_turnBy 8 = .ok (.getfield 13, 3) := by decide +kernel
theorem dX5_turnBy_11 : decode cX5_turnBy 11 = .ok (.iconst 3, 1) := by decide +kernel
theorem dX5_turnBy_12 : decode cX5_turnBy 12 = .ok (.iload 4, 2) := by decide +kernel
theorem dX5_turnBy_14 : decode cX5_turnBy 14 = .ok (.iadd, 1) := by decide +kernel
theorem dX5_turnBy_15 : decode cX5_turnBy 15 = .ok (.iaload, 1) := by decide +kernel
theorem dX5_turnBy_16 : decode cX5_turnBy 16 = .ok (.iconst 3, 1) := by decide +kernel
theorem dX5_turnBy_17 : decode cX5_turnBy 17 = .ok (.if_icmp .ne 14, 3) := by decide +kernel
theorem dX5_turnBy_20 : decode cX5_turnBy 20 = .ok (.aload_n 0, 1) := by decide +kernel
theorem dX5_turnBy_21 : decode cX5_turnBy 21 = .ok (.getfield 19, 3) := by decide +kernel
theorem dX5_turnBy_24 : decode cX5_turnBy 24 = .ok (.bipush 18, 2) := by decide +kernel
theorem dX5_turnBy_26 : decode cX5_turnBy 26 = .ok (.iaload, 1) := by decide +kernel
theorem dX5_turnBy_27 : decode cX5_turnBy 27 = .ok (.invokestatic 117, 3) := by decide +kernel
theorem dX5_turnBy_30 : decode cX5_turnBy 30 = .ok (.ireturn, 1) := by decide +kernel
theorem dX5_turnBy_31 : decode cX5_turnBy 31 = .ok (.aload_n 0, 1) := by decide +kernel
theorem dX5_turnBy_32 : decode cX5_turnBy 32 = .ok (.iload 4, 2) := by decide +kernel
theorem dX5_turnBy_34 : decode cX5_turnBy 34 = .ok (.invokevirtual 120, 3) := by decide +kernel
theorem dX5_turnBy_37 : decode cX5_turnBy 37 = .ok (.ifCond .eq 17, 3) := by decide +kernel
theorem dX5_turnBy_40 : decode cX5_turnBy 40 = .ok (.iload_n 3, 1) := by decide +kernel
theorem dX5_turnBy_41 : decode cX5_turnBy 41 = .ok (.iload 4, 2) := by decide +kernel
theorem dX5_turnBy_43 : decode cX5_turnBy 43 = .ok (.ishr, 1) := by decide +kernel
theorem dX5_turnBy_44 : decode cX5_turnBy 44 = .ok (.iconst 1, 1) := by decide +kernel
theorem dX5_turnBy_45 : decode cX5_turnBy 45 = .ok (.iand, 1) := by decide +kernel
theorem dX5_turnBy_46 : decode cX5_turnBy 46 = .ok (.iconst 1, 1) := by decide +kernel
theorem dX5_turnBy_47 : decode cX5_turnBy 47 = .ok (.if_icmp .ne 7, 3) := by decide +kernel
theorem dX5_turnBy_50 : decode cX5_turnBy 50 = .ok (.iconst 1, 1) := by decide +kernel
theorem dX5_turnBy_51 : decode cX5_turnBy 51 = .ok (.goto 4, 3) := by decide +kernel
theorem dX5_turnBy_54 : decode cX5_turnBy 54 = .ok (.iconst 0, 1) := by decide +kernel
theorem dX5_turnBy_55 : decode cX5_turnBy 55 = .ok (.istore 5, 2) := by decide +kernel
theorem dX5_turnBy_57 : decode cX5_turnBy 57 = .ok (.iload 5, 2) := by decide +kernel
theorem dX5_turnBy_59 : decode cX5_turnBy 59 = .ok (.ifCond .eq 10, 3) := by decide +kernel
theorem dX5_turnBy_62 : decode cX5_turnBy 62 = .ok (.iload_n 2, 1) := by decide +kernel
theorem dX5_turnBy_63 : decode cX5_turnBy 63 = .ok (.invokestatic 123, 3) := by decide +kernel
theorem dX5_turnBy_66 : decode cX5_turnBy 66 = .ok (.goto 4, 3) := by decide +kernel
theorem dX5_turnBy_69 : decode cX5_turnBy 69 = .ok (.iload_n 2, 1) := by decide +kernel
theorem dX5_turnBy_70 : decode cX5_turnBy 70 = .ok (.invokestatic 117, 3) := by decide +kernel
theorem dX5_turnBy_73 : decode cX5_turnBy 73 = .ok (.ireturn, 1) := by decide +kernel
theorem dX5_says_0 : decode cX5_says 0 = .ok (.iconst 0, 1) := by decide +kernel
theorem dX5_says_1 : decode cX5_says 1 = .ok (.istore_n 3, 1) := by decide +kernel
theorem dX5_says_2 : decode cX5_says 2 = .ok (.iload_n 3, 1) := by decide +kernel
theorem dX5_says_3 : decode cX5_says 3 = .ok (.aload_n 0, 1) := by decide +kernel
theorem dX5_says_4 : decode cX5_says 4 = .ok (.getfield 13, 3) := by decide +kernel
theorem dX5_says_7 : decode cX5_says 7 = .ok (.iconst 0, 1) := by decide +kernel
theorem dX5_says_8 : decode cX5_says 8 = .ok (.iaload, 1) := by decide +kernel
theorem dX5_says_9 : decode cX5_says 9 = .ok (.if_icmp .ge 61, 3) := by decide +kernel
theorem dX5_says_12 : decode cX5_says 12 = .ok (.aload_n 0, 1) := by decide +kernel
theorem dX5_says_13 : decode cX5_says 13 = .ok (.iload_n 3, 1) := by decide +kernel
theorem dX5_says_14 : decode cX5_says 14 = .ok (.iload_n 1, 1) := by decide +kernel
theorem dX5_says_15 : decode cX5_says 15 = .ok (.iload_n 2, 1) := by decide +kernel
theorem dX5_says_16 : decode cX5_says 16 = .ok (.invokevirtual 126, 3) := by decide +kernel
theorem dX5_says_19 : decode cX5_says 19 = .ok (.istore 4, 2) := by decide +kernel
theorem dX5_says_21 : decode cX5_says 21 = .ok (.aload_n 0, 1) := by decide +kernel
theorem dX5_says_22 : decode cX5_says 22 = .ok (.getfield 19, 3) := by decide +kernel
theorem dX5_says_25 : decode cX5_says 25 = .ok (.bipush 20, 2) := by decide +kernel
theorem dX5_says_27 : decode cX5_says 27 = .ok (.dup2, 1) := by decide +kernel
theorem dX5_says_28 : decode cX5_says 28 = .ok (.iaload, 1) := by decide +kernel
theorem dX5_says_29 : decode cX5_says 29 = .ok (.iload 4, 2) := by decide +kernel
theorem dX5_says_31 : decode cX5_says 31 = .ok (.iload_n 1, 1) := by decide +kernel
theorem dX5_says_32 : decode cX5_says 32 = .ok (.invokestatic 117, 3) := by decide +kernel
theorem dX5_says_35 : decode cX5_says 35 = .ok (.if_icmp .ne 7, 3) := by decide +kernel
theorem dX5_says_38 : decode cX5_says 38 = .ok (.iconst 0, 1) := by decide +kernel
theorem dX5_says_39 : decode cX5_says 39 = .ok (.goto 6, 3) := by decide +kernel
theorem dX5_says_42 : decode cX5_says 42 = .ok (.iconst 1, 1) := by decide +kernel
theorem dX5_says_43 : decode cX5_says 43 = .ok (.iload_n 3, 1) := by decide +kernel
theorem dX5_says_44 : decode cX5_says 44 = .ok (.ishl, 1) := by decide +kernel
theorem dX5_says_45 : decode cX5_says 45 = .ok (.ior, 1) := by decide +kernel
theorem dX5_says_46 : decode cX5_says 46 = .ok (.iastore, 1) := by decide +kernel
theorem dX5_says_47 : decode cX5_says 47 = .ok (.aload_n 0, 1) := by decide +kernel
theorem dX5_says_48 : decode cX5_says 48 = .ok (.getfield 19, 3) := by decide +kernel
theorem dX5_says_51 : decode cX5_says 51 = .ok (.iload_n 3, 1) := by decide +kernel
theorem dX5_says_52 : decode cX5_says 52 = .ok (.aload_n 0, 1) := by decide +kernel
theorem dX5_says_53 : decode cX5_says 53 = .ok (.getfield 19, 3) := by decide +kernel
theorem dX5_says_56 : decode cX5_says 56 = .ok (.iload_n 3, 1) := by decide +kernel
theorem dX5_says_57 : decode cX5_says 57 = .ok (.iaload, 1) := by decide +kernel
theorem dX5_says_58 : decode cX5_says 58 = .ok (.iload 4, 2) := by decide +kernel
theorem dX5_says_60 : decode cX5_says 60 = .ok (.iadd, 1) := by decide +kernel
theorem dX5_says_61 : decode cX5_says 61 = .ok (.iconst 4, 1) := by decide +kernel
theorem dX5_says_62 : decode cX5_says 62 = .ok (.irem, 1) := by decide +kernel
theorem dX5_says_63 : decode cX5_says 63 = .ok (.iastore, 1) := by decide +kernel
theorem dX5_says_64 : decode cX5_says 64 = .ok (.iinc 3 1, 3) := by decide +kernel
theorem dX5_says_67 : decode cX5_says 67 = .ok (.goto (-65), 3) := by decide +kernel
theorem dX5_says_70 : decode cX5_says 70 = .ok (.aload_n 0, 1) := by decide +kernel
theorem dX5_says_71 : decode cX5_says 71 = .ok (.getfield 19, 3) := by decide +kernel
theorem dX5_says_74 : decode cX5_says 74 = .ok (.bipush 18, 2) := by decide +kernel
theorem dX5_says_76 : decode cX5_says 76 = .ok (.iload_n 1, 1) := by decide +kernel
theorem dX5_says_77 : decode cX5_says 77 = .ok (.iastore, 1) := by decide +kernel
theorem dX5_says_78 : decode cX5_says 78 = .ok (.aload_n 0, 1) := by decide +kernel
theorem dX5_says_79 : decode cX5_says 79 = .ok (.getfield 19, 3) := by decide +kernel
theorem dX5_says_82 : decode cX5_says 82 = .ok (.bipush 19, 2) := by decide +kernel
theorem dX5_says_84 : decode cX5_says 84 = .ok (.aload_n 0, 1) := by decide +kernel
theorem dX5_says_85 : decode cX5_says 85 = .ok (.getfield 19, 3) := by decide +kernel
theorem dX5_says_88 : decode cX5_says 88 = .ok (.bipush 19, 2) := by decide +kernel
theorem dX5_says_90 : decode cX5_says 90 = .ok (.iaload, 1) := by decide +kernel
theorem dX5_says_91 : decode cX5_says 91 = .ok (.iload_n 1, 1) := by decide +kernel
theorem dX5_says_92 : decode cX5_says 92 = .ok (.invokestatic 117, 3) := by decide +kernel
theorem dX5_says_95 : decode cX5_says 95 = .ok (.iadd, 1) := by decide +kernel
theorem dX5_says_96 : decode cX5_says 96 = .ok (.iconst 4, 1) := by decide +kernel
theorem dX5_says_97 : decode cX5_says 97 = .ok (.irem, 1) := by decide +kernel
theorem dX5_says_98 : decode cX5_says 98 = .ok (.iastore, 1) := by decide +kernel
theorem dX5_says_99 : decode cX5_says 99 = .ok (.aload_n 0, 1) := by decide +kernel
theorem dX5_says_100 : decode cX5_says 100 = .ok (.getfield 19, 3) := by decide +kernel
theorem dX5_says_103 : decode cX5_says 103 = .ok (.bipush 17, 2) := by decide +kernel
theorem dX5_says_105 : decode cX5_says 105 = .ok (.dup2, 1) := by decide +kernel
theorem dX5_says_106 : decode cX5_says 106 = .ok (.iaload, 1) := by decide +kernel
theorem dX5_says_107 : decode cX5_says 107 = .ok (.iconst 1, 1) := by decide +kernel
theorem dX5_says_108 : decode cX5_says 108 = .ok (.iadd, 1) := by decide +kernel
theorem dX5_says_109 : decode cX5_says 109 = .ok (.iastore, 1) := by decide +kernel
theorem dX5_says_110 : decode cX5_says 110 = .ok (.return_, 1) := by decide +kernel
theorem dX5_keeps_0 : decode cX5_keeps 0 = .ok (.aload_n 0, 1) := by decide +kernel
theorem dX5_keeps_1 : decode cX5_keeps 1 = .ok (.getfield 81, 3) := by decide +kernel
theorem dX5_keeps_4 : decode cX5_keeps 4 = .ok (.bipush 8, 2) := by decide +kernel
theorem dX5_keeps_6 : decode cX5_keeps 6 = .ok (.if_icmp .ne 43, 3) := by decide +kernel
theorem dX5_keeps_9 : decode cX5_keeps 9 = .ok (.iconst 0, 1) := by decide +kernel
theorem dX5_keeps_10 : decode cX5_keeps 10 = .ok (.istore_n 1, 1) := by decide +kernel
theorem dX5_keeps_11 : decode cX5_keeps 11 = .ok (.iload_n 1, 1) := by decide +kernel
theorem dX5_keeps_12 : decode cX5_keeps 12 = .ok (.sipush 154, 3) := by decide +kernel
theorem dX5_keeps_15 : decode cX5_keeps 15 = .ok (.if_icmp .ge 24, 3) := by decide +kernel
theorem dX5_keeps_18 : decode cX5_keeps 18 = .ok (.aload_n 0, 1) := by decide +kernel
theorem dX5_keeps_19 : decode cX5_keeps 19 = .ok (.getfield 22, 3) := by decide +kernel
theorem dX5_keeps_22 : decode cX5_keeps 22 = .ok (.iload_n 1, 1) := by decide +kernel
theorem dX5_keeps_23 : decode cX5_keeps 23 = .ok (.aload_n 0, 1) := by decide +kernel
theorem dX5_keeps_24 : decode cX5_keeps 24 = .ok (.getfield 22, 3) := by decide +kernel
theorem dX5_keeps_27 : decode cX5_keeps 27 = .ok (.iload_n 1, 1) := by decide +kernel
theorem dX5_keeps_28 : decode cX5_keeps 28 = .ok (.bipush 22, 2) := by decide +kernel
theorem dX5_keeps_30 : decode cX5_keeps 30 = .ok (.iadd, 1) := by decide +kernel
theorem dX5_keeps_31 : decode cX5_keeps 31 = .ok (.iaload, 1) := by decide +kernel
theorem dX5_keeps_32 : decode cX5_keeps 32 = .ok (.iastore, 1) := by decide +kernel
theorem dX5_keeps_33 : decode cX5_keeps 33 = .ok (.iinc 1 1, 3) := by decide +kernel
theorem dX5_keeps_36 : decode cX5_keeps 36 = .ok (.goto (-25), 3) := by decide +kernel
theorem dX5_keeps_39 : decode cX5_keeps 39 = .ok (.aload_n 0, 1) := by decide +kernel
theorem dX5_keeps_40 : decode cX5_keeps 40 = .ok (.dup, 1) := by decide +kernel
theorem dX5_keeps_41 : decode cX5_keeps 41 = .ok (.getfield 81, 3) := by decide +kernel
theorem dX5_keeps_44 : decode cX5_keeps 44 = .ok (.iconst 1, 1) := by decide +kernel
theorem dX5_keeps_45 : decode cX5_keeps 45 = .ok (.isub, 1) := by decide +kernel
theorem dX5_keeps_46 : decode cX5_keeps 46 = .ok (.putfield 81, 3) := by decide +kernel
theorem dX5_keeps_49 : decode cX5_keeps 49 = .ok (.iconst 0, 1) := by decide +kernel
theorem dX5_keeps_50 : decode cX5_keeps 50 = .ok (.istore_n 1, 1) := by decide +kernel
theorem dX5_keeps_51 : decode cX5_keeps 51 = .ok (.iload_n 1, 1) := by decide +kernel
theorem dX5_keeps_52 : decode cX5_keeps 52 = .ok (.bipush 22, 2) := by decide +kernel
theorem dX5_keeps_54 : decode cX5_keeps 54 = .ok (.if_icmp .ge 29, 3) := by decide +kernel
theorem dX5_keeps_57 : decode cX5_keeps 57 = .ok (.aload_n 0, 1) := by decide +kernel
theorem dX5_keeps_58 : decode cX5_keeps 58 = .ok (.getfield 22, 3) := by decide +kernel
theorem dX5_keeps_61 : decode cX5_keeps 61 = .ok (.bipush 22, 2) := by decide +kernel
theorem dX5_keeps_63 : decode cX5_keeps 63 = .ok (.aload_n 0, 1) := by decide +kernel
theorem dX5_keeps_64 : decode cX5_keeps 64 = .ok (.getfield 81, 3) := by decide +kernel
theorem dX5_keeps_67 : decode cX5_keeps 67 = .ok (.imul, 1) := by decide +kernel
theorem dX5_keeps_68 : decode cX5_keeps 68 = .ok (.iload_n 1, 1) := by decide +kernel
theorem dX5_keeps_69 : decode cX5_keeps 69 = .ok (.iadd, 1) := by decide +kernel
theorem dX5_keeps_70 : decode cX5_keeps 70 = .ok (.aload_n 0, 1) := by decide +kernel
theorem dX5_keeps_71 : decode cX5_keeps 71 = .ok (.getfield 19, 3) := by decide +kernel
theorem dX5_keeps_74 : decode cX5_keeps 74 = .ok (.iload_n 1, 1) := by decide +kernel
theorem dX5_keeps_75 : decode cX5_keeps 75 = .ok (.iaload, 1) := by decide +kernel
theorem dX5_keeps_76 : decode cX5_keeps 76 = .ok (.iastore, 1) := by decide +kernel
theorem dX5_keeps_77 : decode cX5_keeps 77 = .ok (.iinc 1 1, 3) := by decide +kernel
theorem dX5_keeps_80 : decode cX5_keeps 80 = .ok (.goto (-29), 3) := by decide +kernel
theorem dX5_keeps_83 : decode cX5_keeps 83 = .ok (.aload_n 0, 1) := by decide +kernel
theorem dX5_keeps_84 : decode cX5_keeps 84 = .ok (.dup, 1) := by decide +kernel
theorem dX5_keeps_85 : decode cX5_keeps 85 = .ok (.getfield 81, 3) := by decide +kernel
theorem dX5_keeps_88 : decode cX5_keeps 88 = .ok (.iconst 1, 1) := by decide +kernel
theorem dX5_keeps_89 : decode cX5_keeps 89 = .ok (.iadd, 1) := by decide +kernel
theorem dX5_keeps_90 : decode cX5_keeps 90 = .ok (.putfield 81, 3) := by decide +kernel
theorem dX5_keeps_93 : decode cX5_keeps 93 = .ok (.return_, 1) := by decide +kernel
theorem dX5_wrong_0 : decode cX5_wrong 0 = .ok (.iconst 0, 1) := by decide +kernel
theorem dX5_wrong_1 : decode cX5_wrong 1 = .ok (.istore_n 1, 1) := by decide +kernel
theorem dX5_wrong_2 : decode cX5_wrong 2 = .ok (.iconst 0, 1) := by decide +kernel
theorem dX5_wrong_3 : decode cX5_wrong 3 = .ok (.istore_n 2, 1) := by decide +kernel
theorem dX5_wrong_4 : decode cX5_wrong 4 = .ok (.iload_n 2, 1) := by decide +kernel
theorem dX5_wrong_5 : decode cX5_wrong 5 = .ok (.aload_n 0, 1) := by decide +kernel
theorem dX5_wrong_6 : decode cX5_wrong 6 = .ok (.getfield 13, 3) := by decide +kernel
theorem dX5_wrong_9 : decode cX5_wrong 9 = .ok (.iconst 0, 1) := by decide +kernel
theorem dX5_wrong_10 : decode cX5_wrong 10 = .ok (.iaload, 1) := by decide +kernel
theorem dX5_wrong_11 : decode cX5_wrong 11 = .ok (.if_icmp .ge 33, 3) := by decide +kernel
theorem dX5_wrong_14 : decode cX5_wrong 14 = .ok (.iload_n 1, 1) := by decide +kernel
theorem dX5_wrong_15 : decode cX5_wrong 15 = .ok (.aload_n 0, 1) := by decide +kernel
theorem dX5_wrong_16 : decode cX5_wrong 16 = .ok (.getfield 19, 3) := by decide +kernel
theorem dX5_wrong_19 : decode cX5_wrong 19 = .ok (.iload_n 2, 1) := by decide +kernel
theorem dX5_wrong_20 : decode cX5_wrong 20 = .ok (.iaload, 1) := by decide +kernel
theorem dX5_wrong_21 : decode cX5_wrong 21 = .ok (.aload_n 0, 1) := by decide +kernel
theorem dX5_wrong_22 : decode cX5_wrong 22 = .ok (.iload_n 2, 1) := by decide +kernel
theorem dX5_wrong_23 : decode cX5_wrong 23 = .ok (.invokevirtual 90, 3) := by decide +kernel
theorem dX5_wrong_26 : decode cX5_wrong 26 = .ok (.if_icmp .eq 9, 3) := by decide +kernel
theorem dX5_wrong_29 : decode cX5_wrong 29 = .ok (.iconst 1, 1) := by decide +kernel
theorem dX5_wrong_30 : decode cX5_wrong 30 = .ok (.iload_n 2, 1) := by decide +kernel
theorem dX5_wrong_31 : decode cX5_wrong 31 = .ok (.ishl, 1) := by decide +kernel
theorem dX5_wrong_32 : decode cX5_wrong 32 = .ok (.goto 4, 3) := by decide +kernel
theorem dX5_wrong_35 : decode cX5_wrong 35 = .ok (.iconst 0, 1) := by decide +kernel
theorem dX5_wrong_36 : decode cX5_wrong 36 = .ok (.ior, 1) := by decide +kernel
theorem dX5_wrong_37 : decode cX5_wrong 37 = .ok (.istore_n 1, 1) := by decide +kernel
theorem dX5_wrong_38 : decode cX5_wrong 38 = .ok (.iinc 2 1, 3) := by decide +kernel
theorem dX5_wrong_41 : decode cX5_wrong 41 = .ok (.goto (-37), 3) := by decide +kernel
theorem dX5_wrong_44 : decode cX5_wrong 44 = .ok (.iload_n 1, 1) := by decide +kernel
theorem dX5_wrong_45 : decode cX5_wrong 45 = .ok (.ireturn, 1) := by decide +kernel
theorem dX5_word_0 : decode cX5_word 0 = .ok (.iload_n 1, 1) := by decide +kernel
theorem dX5_word_1 : decode cX5_word 1 = .ok (.invokestatic 130, 3) := by decide +kernel
theorem dX5_word_4 : decode cX5_word 4 = .ok (.ifCond .ne 5, 3) := by decide +kernel
theorem dX5_word_7 : decode cX5_word 7 = .ok (.iconst (-1), 1) := by decide +kernel
theorem dX5_word_8 : decode cX5_word 8 = .ok (.ireturn, 1) := by decide +kernel
theorem dX5_word_9 : decode cX5_word 9 = .ok (.aload_n 0, 1) := by decide +kernel
theorem dX5_word_10 : decode cX5_word 10 = .ok (.getfield 19, 3) := by decide +kernel
theorem dX5_word_13 : decode cX5_word 13 = .ok (.bipush 17, 2) := by decide +kernel
theorem dX5_word_15 : decode cX5_word 15 = .ok (.iaload, 1) := by decide +kernel
theorem dX5_word_16 : decode cX5_word 16 = .ok (.sipush 999, 3) := by decide +kernel
theorem dX5_word_19 : decode cX5_word 19 = .ok (.if_icmp .ne 6, 3) := by decide +kernel
theorem dX5_word_22 : decode cX5_word 22 = .ok (.bipush (-2), 2) := by decide +kernel
theorem dX5_word_24 : decode cX5_word 24 = .ok (.ireturn, 1) := by decide +kernel
theorem dX5_word_25 : decode cX5_word 25 = .ok (.aload_n 0, 1) := by decide +kernel
theorem dX5_word_26 : decode cX5_word 26 = .ok (.invokevirtual 133, 3) := by decide +kernel
theorem dX5_word_29 : decode cX5_word 29 = .ok (.aload_n 0, 1) := by decide +kernel
theorem dX5_word_30 : decode cX5_word 30 = .ok (.iload_n 1, 1) := by decide +kernel
theorem dX5_word_31 : decode cX5_word 31 = .ok (.aload_n 0, 1) := by decide +kernel
theorem dX5_word_32 : decode cX5_word 32 = .ok (.iconst 0, 1) := by decide +kernel
theorem dX5_word_33 : decode cX5_word 33 = .ok (.invokevirtual 136, 3) := by decide +kernel
theorem dX5_word_36 : decode cX5_word 36 = .ok (.invokevirtual 140, 3) := by decide +kernel
theorem dX5_word_39 : decode cX5_word 39 = .ok (.aload_n 0, 1) := by decide +kernel
theorem dX5_word_40 : decode cX5_word 40 = .ok (.invokevirtual 144, 3) := by decide +kernel
theorem dX5_word_43 : decode cX5_word 43 = .ok (.invokestatic 147, 3) := by decide +kernel
theorem dX5_word_46 : decode cX5_word 46 = .ok (.ireturn, 1) := by decide +kernel
theorem dX5_comesBy_0 : decode cX5_comesBy 0 = .ok (.iload_n 1, 1) := by decide +kernel
theorem dX5_comesBy_1 : decode cX5_comesBy 1 = .ok (.istore_n 3, 1) := by decide +kernel
theorem dX5_comesBy_2 : decode cX5_comesBy 2 = .ok (.iconst 0, 1) := by decide +kernel
theorem dX5_comesBy_3 : decode cX5_comesBy 3 = .ok (.istore 4, 2) := by decide +kernel
theorem dX5_comesBy_5 : decode cX5_comesBy 5 = .ok (.iconst 0, 1) := by decide +kernel
theorem dX5_comesBy_6 : decode cX5_comesBy 6 = .ok (.istore 5, 2) := by decide +kernel
theorem dX5_comesBy_8 : decode cX5_comesBy 8 = .ok (.iload 5, 2) := by decide +kernel
theorem dX5_comesBy_10 : decode cX5_comesBy 10 = .ok (.bipush 8, 2) := by decide +kernel
theorem dX5_comesBy_12 : decode cX5_comesBy 12 = .ok (.if_icmp .gt 48, 3) := by decide +kernel
theorem dX5_comesBy_15 : decode cX5_comesBy 15 = .ok (.iload 4, 2) := by decide +kernel
theorem dX5_comesBy_17 : decode cX5_comesBy 17 = .ok (.ifCond .ne 8, 3) := by decide +kernel
theorem dX5_comesBy_20 : decode cX5_comesBy 20 = .ok (.iload_n 3, 1) := by decide +kernel
theorem dX5_comesBy_21 : decode cX5_comesBy 21 = .ok (.iload_n 2, 1) := by decide +kernel
theorem dX5_comesBy_22 : decode cX5_comesBy 22 = .ok (.if_icmp .ne 7, 3) := by decide +kernel
theorem dX5_comesBy_25 : decode cX5_comesBy 25 = .ok (.iconst 1, 1) := by decide +kernel
theorem dX5_comesBy_26 : decode cX5_comesBy 26 = .ok (.goto 4, 3) := by decide +kernel
theorem dX5_comesBy_29 : decode cX5_comesBy 29 = .ok (.iconst 0, 1) := by decide +kernel
theorem dX5_comesBy_30 : decode cX5_comesBy 30 = .ok (.istore 4, 2) := by decide +kernel
theorem dX5_comesBy_32 : decode cX5_comesBy 32 = .ok (.aload_n 0, 1) := by decide +kernel
theorem dX5_comesBy_33 : decode cX5_comesBy 33 = .ok (.iload_n 3, 1) := by decide +kernel
theorem dX5_comesBy_34 : decode cX5_comesBy 34 = .ok (.invokevirtual 93, 3) := by decide +kernel
theorem dX5_comesBy_37 : decode cX5_comesBy 37 = .ok (.ifCond .eq 15, 3) := by decide +kernel
theorem dX5_comesBy_40 : decode cX5_comesBy 40 = .ok (.aload_n 0, 1) := by decide +kernel
theorem dX5_comesBy_41 : decode cX5_comesBy 41 = .ok (.getfield 19, 3) := by decide +kernel
theorem dX5_comesBy_44 : decode cX5_comesBy 44 = .ok (.bipush 8, 2) := by decide +kernel
theorem dX5_comesBy_46 : decode cX5_comesBy 46 = .ok (.iload_n 3, 1) := by decide +kernel
theorem dX5_comesBy_47 : decode cX5_comesBy 47 = .ok (.iadd, 1) := by decide +kernel
theorem dX5_comesBy_48 : decode cX5_comesBy 48 = .ok (.iaload, 1) := by decide +kernel
theorem dX5_comesBy_49 : decode cX5_comesBy 49 = .ok (.goto 4, 3) := by decide +kernel
theorem dX5_comesBy_52 : decode cX5_comesBy 52 = .ok (.iload_n 3, 1) := by decide +kernel
theorem dX5_comesBy_53 : decode cX5_comesBy 53 = .ok (.istore_n 3, 1) := by decide +kernel
theorem dX5_comesBy_54 : decode cX5_comesBy 54 = .ok (.iinc 5 1, 3) := by decide +kernel
theorem dX5_comesBy_57 : decode cX5_comesBy 57 = .ok (.goto (-49), 3) := by decide +kernel
theorem dX5_comesBy_60 : decode cX5_comesBy 60 = .ok (.iload 4, 2) := by decide +kernel
theorem dX5_comesBy_62 : decode cX5_comesBy 62 = .ok (.ireturn, 1) := by decide +kernel
theorem dX5_shout_0 : decode cX5_shout 0 = .ok (.aload_n 0, 1) := by decide +kernel
theorem dX5_shout_1 : decode cX5_shout 1 = .ok (.iload_n 1, 1) := by decide +kernel
theorem dX5_shout_2 : decode cX5_shout 2 = .ok (.invokevirtual 87, 3) := by decide +kernel
theorem dX5_shout_5 : decode cX5_shout 5 = .ok (.ifCond .ne 5, 3) := by decide +kernel
theorem dX5_shout_8 : decode cX5_shout 8 = .ok (.iconst (-1), 1) := by decide +kernel
theorem dX5_shout_9 : decode cX5_shout 9 = .ok (.ireturn, 1) := by decide +kernel
theorem dX5_shout_10 : decode cX5_shout 10 = .ok (.aload_n 0, 1) := by decide +kernel
theorem dX5_shout_11 : decode cX5_shout 11 = .ok (.invokevirtual 133, 3) := by decide +kernel
theorem dX5_shout_14 : decode cX5_shout 14 = .ok (.iconst 0, 1) := by decide +kernel
theorem dX5_shout_15 : decode cX5_shout 15 = .ok (.istore_n 2, 1) := by decide +kernel
theorem dX5_shout_16 : decode cX5_shout 16 = .ok (.iconst 0, 1) := by decide +kernel
theorem dX5_shout_17 : decode cX5_shout 17 = .ok (.istore_n 3, 1) := by decide +kernel
theorem dX5_shout_18 : decode cX5_shout 18 = .ok (.iload_n 3, 1) := by decide +kernel
theorem dX5_shout_19 : decode cX5_shout 19 = .ok (.aload_n 0, 1) := by decide +kernel
theorem dX5_shout_20 : decode cX5_shout 20 = .ok (.getfield 13, 3) := by decide +kernel
theorem dX5_shout_23 : decode cX5_shout 23 = .ok (.iconst 0, 1) := by decide +kernel
theorem dX5_shout_24 : decode cX5_shout 24 = .ok (.iaload, 1) := by decide +kernel
theorem dX5_shout_25 : decode cX5_shout 25 = .ok (.if_icmp .ge 75, 3) := by decide +kernel
theorem dX5_shout_28 : decode cX5_shout 28 = .ok (.iload_n 3, 1) := by decide +kernel
theorem dX5_shout_29 : decode cX5_shout 29 = .ok (.iload_n 1, 1) := by decide +kernel
theorem dX5_shout_30 : decode cX5_shout 30 = .ok (.if_icmp .eq 32, 3) := by decide +kernel
theorem dX5_shout_33 : decode cX5_shout 33 = .ok (.aload_n 0, 1) := by decide +kernel
theorem dX5_shout_34 : decode cX5_shout 34 = .ok (.getfield 19, 3) := by decide +kernel
theorem dX5_shout_37 : decode cX5_shout 37 = .ok (.bipush 16, 2) := by decide +kernel
theorem dX5_shout_39 : decode cX5_shout 39 = .ok (.iaload, 1) := by decide +kernel
theorem dX5_shout_40 : decode cX5_shout 40 = .ok (.ifCond .ne 54, 3) := by decide +kernel
theorem dX5_shout_43 : decode cX5_shout 43 = .ok (.aload_n 0, 1) := by decide +kernel
theorem dX5_shout_44 : decode cX5_shout 44 = .ok (.iload_n 3, 1) := by decide +kernel
theorem dX5_shout_45 : decode cX5_shout 45 = .ok (.invokevirtual 99, 3) := by decide +kernel
theorem dX5_shout_48 : decode cX5_shout 48 = .ok (.bipush (-4), 2) := by decide +kernel
theorem dX5_shout_50 : decode cX5_shout 50 = .ok (.if_icmp .eq 44, 3) := by decide +kernel
theorem dX5_shout_53 : decode cX5_shout 53 = .ok (.aload_n 0, 1) := by decide +kernel
end
section
theorem dX5_shout_54 : decode cX5_shout 54 = .ok (.iload_n 3, 1) := by decide +kernel
theorem dX5_shout_55 : decode cX5_shout 55 = .ok (.iload_n 1, 1) := by decide +kernel
theorem dX5_shout_56 : decode cX5_shout 56 = .ok (.invokevirtual 150, 3) := by decide +kernel
theorem dX5_shout_59 : decode cX5_shout 59 = .ok (.ifCond .eq 35, 3) := by decide +kernel
theorem dX5_shout_62 : decode cX5_shout 62 = .ok (.aload_n 0, 1) := by decide +kernel
theorem dX5_shout_63 : decode cX5_shout 63 = .ok (.getfield 19, 3) := by decide +kernel
theorem dX5_shout_66 : decode cX5_shout 66 = .ok (.iload_n 3, 1) := by decide +kernel
theorem dX5_shout_67 : decode cX5_shout 67 = .ok (.aload_n 0, 1) := by decide +kernel
theorem dX5_shout_68 : decode cX5_shout 68 = .ok (.getfield 19, 3) := by decide +kernel
theorem dX5_shout_71 : decode cX5_shout 71 = .ok (.iload_n 3, 1) := by decide +kernel
theorem dX5_shout_72 : decode cX5_shout 72 = .ok (.iaload, 1) := by decide +kernel
theorem dX5_shout_73 : decode cX5_shout 73 = .ok (.iconst 2, 1) := by decide +kernel
theorem dX5_shout_74 : decode cX5_shout 74 = .ok (.iadd, 1) := by decide +kernel
theorem dX5_shout_75 : decode cX5_shout 75 = .ok (.iconst 4, 1) := by decide +kernel
theorem dX5_shout_76 : decode cX5_shout 76 = .ok (.irem, 1) := by decide +kernel
theorem dX5_shout_77 : decode cX5_shout 77 = .ok (.iastore, 1) := by decide +kernel
theorem dX5_shout_78 : decode cX5_shout 78 = .ok (.aload_n 0, 1) := by decide +kernel
theorem dX5_shout_79 : decode cX5_shout 79 = .ok (.getfield 19, 3) := by decide +kernel
theorem dX5_shout_82 : decode cX5_shout 82 = .ok (.bipush 21, 2) := by decide +kernel
theorem dX5_shout_84 : decode cX5_shout 84 = .ok (.dup2, 1) := by decide +kernel
theorem dX5_shout_85 : decode cX5_shout 85 = .ok (.iaload, 1) := by decide +kernel
theorem dX5_shout_86 : decode cX5_shout 86 = .ok (.iconst 1, 1) := by decide +kernel
theorem dX5_shout_87 : decode cX5_shout 87 = .ok (.iload_n 3, 1) := by decide +kernel
theorem dX5_shout_88 : decode cX5_shout 88 = .ok (.ishl, 1) := by decide +kernel
theorem dX5_shout_89 : decode cX5_shout 89 = .ok (.ior, 1) := by decide +kernel
theorem dX5_shout_90 : decode cX5_shout 90 = .ok (.iastore, 1) := by decide +kernel
theorem dX5_shout_91 : decode cX5_shout 91 = .ok (.iinc 2 1, 3) := by decide +kernel
theorem dX5_shout_94 : decode cX5_shout 94 = .ok (.iinc 3 1, 3) := by decide +kernel
theorem dX5_shout_97 : decode cX5_shout 97 = .ok (.goto (-79), 3) := by decide +kernel
theorem dX5_shout_100 : decode cX5_shout 100 = .ok (.iload_n 2, 1) := by decide +kernel
theorem dX5_shout_101 : decode cX5_shout 101 = .ok (.ireturn, 1) := by decide +kernel
theorem dX5_eyes_0 : decode cX5_eyes 0 = .ok (.iload_n 1, 1) := by decide +kernel
theorem dX5_eyes_1 : decode cX5_eyes 1 = .ok (.iconst 0, 1) := by decide +kernel
theorem dX5_eyes_2 : decode cX5_eyes 2 = .ok (.iconst 1, 1) := by decide +kernel
theorem dX5_eyes_3 : decode cX5_eyes 3 = .ok (.invokestatic 45, 3) := by decide +kernel
theorem dX5_eyes_6 : decode cX5_eyes 6 = .ok (.ifCond .ne 5, 3) := by decide +kernel
theorem dX5_eyes_9 : decode cX5_eyes 9 = .ok (.iconst (-1), 1) := by decide +kernel
theorem dX5_eyes_10 : decode cX5_eyes 10 = .ok (.ireturn, 1) := by decide +kernel
theorem dX5_eyes_11 : decode cX5_eyes 11 = .ok (.aload_n 0, 1) := by decide +kernel
theorem dX5_eyes_12 : decode cX5_eyes 12 = .ok (.invokevirtual 133, 3) := by decide +kernel
theorem dX5_eyes_15 : decode cX5_eyes 15 = .ok (.aload_n 0, 1) := by decide +kernel
theorem dX5_eyes_16 : decode cX5_eyes 16 = .ok (.getfield 19, 3) := by decide +kernel
theorem dX5_eyes_19 : decode cX5_eyes 19 = .ok (.bipush 16, 2) := by decide +kernel
theorem dX5_eyes_21 : decode cX5_eyes 21 = .ok (.iaload, 1) := by decide +kernel
theorem dX5_eyes_22 : decode cX5_eyes 22 = .ok (.istore_n 2, 1) := by decide +kernel
theorem dX5_eyes_23 : decode cX5_eyes 23 = .ok (.aload_n 0, 1) := by decide +kernel
theorem dX5_eyes_24 : decode cX5_eyes 24 = .ok (.getfield 19, 3) := by decide +kernel
theorem dX5_eyes_27 : decode cX5_eyes 27 = .ok (.bipush 16, 2) := by decide +kernel
theorem dX5_eyes_29 : decode cX5_eyes 29 = .ok (.iload_n 1, 1) := by decide +kernel
theorem dX5_eyes_30 : decode cX5_eyes 30 = .ok (.iastore, 1) := by decide +kernel
theorem dX5_eyes_31 : decode cX5_eyes 31 = .ok (.iload_n 2, 1) := by decide +kernel
theorem dX5_eyes_32 : decode cX5_eyes 32 = .ok (.ireturn, 1) := by decide +kernel
theorem dX5_look_0 : decode cX5_look 0 = .ok (.aload_n 0, 1) := by decide +kernel
theorem dX5_look_1 : decode cX5_look 1 = .ok (.iload_n 1, 1) := by decide +kernel
theorem dX5_look_2 : decode cX5_look 2 = .ok (.invokevirtual 87, 3) := by decide +kernel
theorem dX5_look_5 : decode cX5_look 5 = .ok (.ifCond .eq 11, 3) := by decide +kernel
theorem dX5_look_8 : decode cX5_look 8 = .ok (.aload_n 0, 1) := by decide +kernel
theorem dX5_look_9 : decode cX5_look 9 = .ok (.iload_n 2, 1) := by decide +kernel
theorem dX5_look_10 : decode cX5_look 10 = .ok (.invokevirtual 87, 3) := by decide +kernel
theorem dX5_look_13 : decode cX5_look 13 = .ok (.ifCond .ne 5, 3) := by decide +kernel
theorem dX5_look_16 : decode cX5_look 16 = .ok (.iconst (-1), 1) := by decide +kernel
theorem dX5_look_17 : decode cX5_look 17 = .ok (.ireturn, 1) := by decide +kernel
theorem dX5_look_18 : decode cX5_look 18 = .ok (.aload_n 0, 1) := by decide +kernel
theorem dX5_look_19 : decode cX5_look 19 = .ok (.invokevirtual 133, 3) := by decide +kernel
theorem dX5_look_22 : decode cX5_look 22 = .ok (.aload_n 0, 1) := by decide +kernel
theorem dX5_look_23 : decode cX5_look 23 = .ok (.getfield 19, 3) := by decide +kernel
theorem dX5_look_26 : decode cX5_look 26 = .ok (.bipush 8, 2) := by decide +kernel
theorem dX5_look_28 : decode cX5_look 28 = .ok (.iload_n 1, 1) := by decide +kernel
theorem dX5_look_29 : decode cX5_look 29 = .ok (.iadd, 1) := by decide +kernel
theorem dX5_look_30 : decode cX5_look 30 = .ok (.iaload, 1) := by decide +kernel
theorem dX5_look_31 : decode cX5_look 31 = .ok (.istore_n 3, 1) := by decide +kernel
theorem dX5_look_32 : decode cX5_look 32 = .ok (.aload_n 0, 1) := by decide +kernel
theorem dX5_look_33 : decode cX5_look 33 = .ok (.getfield 19, 3) := by decide +kernel
theorem dX5_look_36 : decode cX5_look 36 = .ok (.bipush 8, 2) := by decide +kernel
theorem dX5_look_38 : decode cX5_look 38 = .ok (.iload_n 1, 1) := by decide +kernel
theorem dX5_look_39 : decode cX5_look 39 = .ok (.iadd, 1) := by decide +kernel
theorem dX5_look_40 : decode cX5_look 40 = .ok (.iload_n 2, 1) := by decide +kernel
theorem dX5_look_41 : decode cX5_look 41 = .ok (.iastore, 1) := by decide +kernel
theorem dX5_look_42 : decode cX5_look 42 = .ok (.iload_n 3, 1) := by decide +kernel
theorem dX5_look_43 : decode cX5_look 43 = .ok (.ireturn, 1) := by decide +kernel
theorem dX5_undo_0 : decode cX5_undo 0 = .ok (.aload_n 0, 1) := by decide +kernel
theorem dX5_undo_1 : decode cX5_undo 1 = .ok (.getfield 81, 3) := by decide +kernel
theorem dX5_undo_4 : decode cX5_undo 4 = .ok (.ifCond .ne 6, 3) := by decide +kernel
theorem dX5_undo_7 : decode cX5_undo 7 = .ok (.bipush (-2), 2) := by decide +kernel
theorem dX5_undo_9 : decode cX5_undo 9 = .ok (.ireturn, 1) := by decide +kernel
theorem dX5_undo_10 : decode cX5_undo 10 = .ok (.aload_n 0, 1) := by decide +kernel
theorem dX5_undo_11 : decode cX5_undo 11 = .ok (.dup, 1) := by decide +kernel
theorem dX5_undo_12 : decode cX5_undo 12 = .ok (.getfield 81, 3) := by decide +kernel
theorem dX5_undo_15 : decode cX5_undo 15 = .ok (.iconst 1, 1) := by decide +kernel
theorem dX5_undo_16 : decode cX5_undo 16 = .ok (.isub, 1) := by decide +kernel
theorem dX5_undo_17 : decode cX5_undo 17 = .ok (.putfield 81, 3) := by decide +kernel
theorem dX5_undo_20 : decode cX5_undo 20 = .ok (.iconst 0, 1) := by decide +kernel
theorem dX5_undo_21 : decode cX5_undo 21 = .ok (.istore_n 1, 1) := by decide +kernel
theorem dX5_undo_22 : decode cX5_undo 22 = .ok (.iload_n 1, 1) := by decide +kernel
theorem dX5_undo_23 : decode cX5_undo 23 = .ok (.bipush 22, 2) := by decide +kernel
theorem dX5_undo_25 : decode cX5_undo 25 = .ok (.if_icmp .ge 29, 3) := by decide +kernel
theorem dX5_undo_28 : decode cX5_undo 28 = .ok (.aload_n 0, 1) := by decide +kernel
theorem dX5_undo_29 : decode cX5_undo 29 = .ok (.getfield 19, 3) := by decide +kernel
theorem dX5_undo_32 : decode cX5_undo 32 = .ok (.iload_n 1, 1) := by decide +kernel
theorem dX5_undo_33 : decode cX5_undo 33 = .ok (.aload_n 0, 1) := by decide +kernel
theorem dX5_undo_34 : decode cX5_undo 34 = .ok (.getfield 22, 3) := by decide +kernel
theorem dX5_undo_37 : decode cX5_undo 37 = .ok (.bipush 22, 2) := by decide +kernel
theorem dX5_undo_39 : decode cX5_undo 39 = .ok (.aload_n 0, 1) := by decide +kernel
theorem dX5_undo_40 : decode cX5_undo 40 = .ok (.getfield 81, 3) := by decide +kernel
theorem dX5_undo_43 : decode cX5_undo 43 = .ok (.imul, 1) := by decide +kernel
theorem dX5_undo_44 : decode cX5_undo 44 = .ok (.iload_n 1, 1) := by decide +kernel
theorem dX5_undo_45 : decode cX5_undo 45 = .ok (.iadd, 1) := by decide +kernel
theorem dX5_undo_46 : decode cX5_undo 46 = .ok (.iaload, 1) := by decide +kernel
theorem dX5_undo_47 : decode cX5_undo 47 = .ok (.iastore, 1) := by decide +kernel
theorem dX5_undo_48 : decode cX5_undo 48 = .ok (.iinc 1 1, 3) := by decide +kernel
theorem dX5_undo_51 : decode cX5_undo 51 = .ok (.goto (-29), 3) := by decide +kernel
theorem dX5_undo_54 : decode cX5_undo 54 = .ok (.aload_n 0, 1) := by decide +kernel
theorem dX5_undo_55 : decode cX5_undo 55 = .ok (.getfield 81, 3) := by decide +kernel
theorem dX5_undo_58 : decode cX5_undo 58 = .ok (.ireturn, 1) := by decide +kernel
theorem dX5_who_0 : decode cX5_who 0 = .ok (.iload_n 1, 1) := by decide +kernel
theorem dX5_who_1 : decode cX5_who 1 = .ok (.iconst 0, 1) := by decide +kernel
theorem dX5_who_2 : decode cX5_who 2 = .ok (.iconst 2, 1) := by decide +kernel
theorem dX5_who_3 : decode cX5_who 3 = .ok (.invokestatic 45, 3) := by decide +kernel
theorem dX5_who_6 : decode cX5_who 6 = .ok (.ifCond .ne 5, 3) := by decide +kernel
theorem dX5_who_9 : decode cX5_who 9 = .ok (.iconst (-1), 1) := by decide +kernel
theorem dX5_who_10 : decode cX5_who 10 = .ok (.ireturn, 1) := by decide +kernel
theorem dX5_who_11 : decode cX5_who 11 = .ok (.iconst 1, 1) := by decide +kernel
theorem dX5_who_12 : decode cX5_who 12 = .ok (.aload_n 0, 1) := by decide +kernel
theorem dX5_who_13 : decode cX5_who 13 = .ok (.getfield 13, 3) := by decide +kernel
theorem dX5_who_16 : decode cX5_who 16 = .ok (.iconst 0, 1) := by decide +kernel
theorem dX5_who_17 : decode cX5_who 17 = .ok (.iaload, 1) := by decide +kernel
theorem dX5_who_18 : decode cX5_who 18 = .ok (.ishl, 1) := by decide +kernel
theorem dX5_who_19 : decode cX5_who 19 = .ok (.iconst 1, 1) := by decide +kernel
theorem dX5_who_20 : decode cX5_who 20 = .ok (.isub, 1) := by decide +kernel
theorem dX5_who_21 : decode cX5_who 21 = .ok (.istore_n 2, 1) := by decide +kernel
theorem dX5_who_22 : decode cX5_who 22 = .ok (.iload_n 1, 1) := by decide +kernel
theorem dX5_who_23 : decode cX5_who 23 = .ok (.ifCond .ne 10, 3) := by decide +kernel
theorem dX5_who_26 : decode cX5_who 26 = .ok (.aload_n 0, 1) := by decide +kernel
theorem dX5_who_27 : decode cX5_who 27 = .ok (.invokevirtual 144, 3) := by decide +kernel
theorem dX5_who_30 : decode cX5_who 30 = .ok (.goto 42, 3) := by decide +kernel
theorem dX5_who_33 : decode cX5_who 33 = .ok (.iload_n 1, 1) := by decide +kernel
theorem dX5_who_34 : decode cX5_who 34 = .ok (.iconst 1, 1) := by decide +kernel
theorem dX5_who_35 : decode cX5_who 35 = .ok (.if_icmp .ne 30, 3) := by decide +kernel
theorem dX5_who_38 : decode cX5_who 38 = .ok (.aload_n 0, 1) := by decide +kernel
theorem dX5_who_39 : decode cX5_who 39 = .ok (.getfield 19, 3) := by decide +kernel
theorem dX5_who_42 : decode cX5_who 42 = .ok (.bipush 20, 2) := by decide +kernel
theorem dX5_who_44 : decode cX5_who 44 = .ok (.iaload, 1) := by decide +kernel
theorem dX5_who_45 : decode cX5_who 45 = .ok (.aload_n 0, 1) := by decide +kernel
theorem dX5_who_46 : decode cX5_who 46 = .ok (.getfield 19, 3) := by decide +kernel
theorem dX5_who_49 : decode cX5_who 49 = .ok (.bipush 21, 2) := by decide +kernel
theorem dX5_who_51 : decode cX5_who 51 = .ok (.iaload, 1) := by decide +kernel
theorem dX5_who_52 : decode cX5_who 52 = .ok (.ior, 1) := by decide +kernel
theorem dX5_who_53 : decode cX5_who 53 = .ok (.iload_n 2, 1) := by decide +kernel
theorem dX5_who_54 : decode cX5_who 54 = .ok (.iand, 1) := by decide +kernel
theorem dX5_who_55 : decode cX5_who 55 = .ok (.aload_n 0, 1) := by decide +kernel
theorem dX5_who_56 : decode cX5_who 56 = .ok (.invokevirtual 144, 3) := by decide +kernel
theorem dX5_who_59 : decode cX5_who 59 = .ok (.iconst (-1), 1) := by decide +kernel
theorem dX5_who_60 : decode cX5_who 60 = .ok (.ixor, 1) := by decide +kernel
theorem dX5_who_61 : decode cX5_who 61 = .ok (.iand, 1) := by decide +kernel
theorem dX5_who_62 : decode cX5_who 62 = .ok (.goto 10, 3) := by decide +kernel
theorem dX5_who_65 : decode cX5_who 65 = .ok (.aload_n 0, 1) := by decide +kernel
theorem dX5_who_66 : decode cX5_who 66 = .ok (.getfield 19, 3) := by decide +kernel
theorem dX5_who_69 : decode cX5_who 69 = .ok (.bipush 20, 2) := by decide +kernel
theorem dX5_who_71 : decode cX5_who 71 = .ok (.iaload, 1) := by decide +kernel
theorem dX5_who_72 : decode cX5_who 72 = .ok (.ireturn, 1) := by decide +kernel
theorem dX5_follows_0 : decode cX5_follows 0 = .ok (.aload_n 0, 1) := by decide +kernel
theorem dX5_follows_1 : decode cX5_follows 1 = .ok (.iload_n 1, 1) := by decide +kernel
theorem dX5_follows_2 : decode cX5_follows 2 = .ok (.invokevirtual 87, 3) := by decide +kernel
theorem dX5_follows_5 : decode cX5_follows 5 = .ok (.ifCond .ne 7, 3) := by decide +kernel
theorem dX5_follows_8 : decode cX5_follows 8 = .ok (.iconst (-1), 1) := by decide +kernel
theorem dX5_follows_9 : decode cX5_follows 9 = .ok (.goto 23, 3) := by decide +kernel
theorem dX5_follows_12 : decode cX5_follows 12 = .ok (.aload_n 0, 1) := by decide +kernel
theorem dX5_follows_13 : decode cX5_follows 13 = .ok (.getfield 19, 3) := by decide +kernel
theorem dX5_follows_16 : decode cX5_follows 16 = .ok (.bipush 16, 2) := by decide +kernel
theorem dX5_follows_18 : decode cX5_follows 18 = .ok (.iaload, 1) := by decide +kernel
theorem dX5_follows_19 : decode cX5_follows 19 = .ok (.iconst 1, 1) := by decide +kernel
theorem dX5_follows_20 : decode cX5_follows 20 = .ok (.if_icmp .ne 7, 3) := by decide +kernel
theorem dX5_follows_23 : decode cX5_follows 23 = .ok (.iload_n 1, 1) := by decide +kernel
theorem dX5_follows_24 : decode cX5_follows 24 = .ok (.goto 8, 3) := by decide +kernel
theorem dX5_follows_27 : decode cX5_follows 27 = .ok (.aload_n 0, 1) := by decide +kernel
theorem dX5_follows_28 : decode cX5_follows 28 = .ok (.iload_n 1, 1) := by decide +kernel
theorem dX5_follows_29 : decode cX5_follows 29 = .ok (.invokevirtual 99, 3) := by decide +kernel
theorem dX5_follows_32 : decode cX5_follows 32 = .ok (.ireturn, 1) := by decide +kernel
theorem dX5_runs_0 : decode cX5_runs 0 = .ok (.aload_n 0, 1) := by decide +kernel
theorem dX5_runs_1 : decode cX5_runs 1 = .ok (.iload_n 1, 1) := by decide +kernel
theorem dX5_runs_2 : decode cX5_runs 2 = .ok (.invokevirtual 87, 3) := by decide +kernel
theorem dX5_runs_5 : decode cX5_runs 5 = .ok (.ifCond .ne 5, 3) := by decide +kernel
theorem dX5_runs_8 : decode cX5_runs 8 = .ok (.iconst (-1), 1) := by decide +kernel
theorem dX5_runs_9 : decode cX5_runs 9 = .ok (.ireturn, 1) := by decide +kernel
theorem dX5_runs_10 : decode cX5_runs 10 = .ok (.iconst 0, 1) := by decide +kernel
theorem dX5_runs_11 : decode cX5_runs 11 = .ok (.istore_n 2, 1) := by decide +kernel
theorem dX5_runs_12 : decode cX5_runs 12 = .ok (.iconst 0, 1) := by decide +kernel
theorem dX5_runs_13 : decode cX5_runs 13 = .ok (.istore_n 3, 1) := by decide +kernel
theorem dX5_runs_14 : decode cX5_runs 14 = .ok (.iload_n 3, 1) := by decide +kernel
theorem dX5_runs_15 : decode cX5_runs 15 = .ok (.aload_n 0, 1) := by decide +kernel
theorem dX5_runs_16 : decode cX5_runs 16 = .ok (.getfield 13, 3) := by decide +kernel
theorem dX5_runs_19 : decode cX5_runs 19 = .ok (.iconst 0, 1) := by decide +kernel
theorem dX5_runs_20 : decode cX5_runs 20 = .ok (.iaload, 1) := by decide +kernel
theorem dX5_runs_21 : decode cX5_runs 21 = .ok (.if_icmp .ge 31, 3) := by decide +kernel
theorem dX5_runs_24 : decode cX5_runs 24 = .ok (.iload_n 2, 1) := by decide +kernel
theorem dX5_runs_25 : decode cX5_runs 25 = .ok (.iload_n 3, 1) := by decide +kernel
theorem dX5_runs_26 : decode cX5_runs 26 = .ok (.iload_n 1, 1) := by decide +kernel
theorem dX5_runs_27 : decode cX5_runs 27 = .ok (.if_icmp .eq 16, 3) := by decide +kernel
theorem dX5_runs_30 : decode cX5_runs 30 = .ok (.aload_n 0, 1) := by decide +kernel
theorem dX5_runs_31 : decode cX5_runs 31 = .ok (.iload_n 3, 1) := by decide +kernel
theorem dX5_runs_32 : decode cX5_runs 32 = .ok (.invokevirtual 99, 3) := by decide +kernel
theorem dX5_runs_35 : decode cX5_runs 35 = .ok (.iload_n 1, 1) := by decide +kernel
theorem dX5_runs_36 : decode cX5_runs 36 = .ok (.if_icmp .ne 7, 3) := by decide +kernel
theorem dX5_runs_39 : decode cX5_runs 39 = .ok (.iconst 1, 1) := by decide +kernel
theorem dX5_runs_40 : decode cX5_runs 40 = .ok (.goto 4, 3) := by decide +kernel
theorem dX5_runs_43 : decode cX5_runs 43 = .ok (.iconst 0, 1) := by decide +kernel
theorem dX5_runs_44 : decode cX5_runs 44 = .ok (.iadd, 1) := by decide +kernel
theorem dX5_runs_45 : decode cX5_runs 45 = .ok (.istore_n 2, 1) := by decide +kernel
theorem dX5_runs_46 : decode cX5_runs 46 = .ok (.iinc 3 1, 3) := by decide +kernel
theorem dX5_runs_49 : decode cX5_runs 49 = .ok (.goto (-35), 3) := by decide +kernel
theorem dX5_runs_52 : decode cX5_runs 52 = .ok (.iload_n 2, 1) := by decide +kernel
theorem dX5_runs_53 : decode cX5_runs 53 = .ok (.ireturn, 1) := by decide +kernel
theorem dX5_most_0 : decode cX5_most 0 = .ok (.iload_n 1, 1) := by decide +kernel
theorem dX5_most_1 : decode cX5_most 1 = .ok (.iconst 0, 1) := by decide +kernel
theorem dX5_most_2 : decode cX5_most 2 = .ok (.iconst 1, 1) := by decide +kernel
theorem dX5_most_3 : decode cX5_most 3 = .ok (.invokestatic 45, 3) := by decide +kernel
theorem dX5_most_6 : decode cX5_most 6 = .ok (.ifCond .ne 5, 3) := by decide +kernel
theorem dX5_most_9 : decode cX5_most 9 = .ok (.iconst (-1), 1) := by decide +kernel
theorem dX5_most_10 : decode cX5_most 10 = .ok (.ireturn, 1) := by decide +kernel
theorem dX5_most_11 : decode cX5_most 11 = .ok (.iconst 0, 1) := by decide +kernel
theorem dX5_most_12 : decode cX5_most 12 = .ok (.istore_n 2, 1) := by decide +kernel
theorem dX5_most_13 : decode cX5_most 13 = .ok (.iconst (-1), 1) := by decide +kernel
theorem dX5_most_14 : decode cX5_most 14 = .ok (.istore_n 3, 1) := by decide +kernel
theorem dX5_most_15 : decode cX5_most 15 = .ok (.iconst 0, 1) := by decide +kernel
theorem dX5_most_16 : decode cX5_most 16 = .ok (.istore 4, 2) := by decide +kernel
theorem dX5_most_18 : decode cX5_most 18 = .ok (.iload 4, 2) := by decide +kernel
theorem dX5_most_20 : decode cX5_most 20 = .ok (.iconst 4, 1) := by decide +kernel
theorem dX5_most_21 : decode cX5_most 21 = .ok (.if_icmp .ge 80, 3) := by decide +kernel
theorem dX5_most_24 : decode cX5_most 24 = .ok (.iconst 0, 1) := by decide +kernel
theorem dX5_most_25 : decode cX5_most 25 = .ok (.istore 5, 2) := by decide +kernel
theorem dX5_most_27 : decode cX5_most 27 = .ok (.iconst 0, 1) := by decide +kernel
theorem dX5_most_28 : decode cX5_most 28 = .ok (.istore 6, 2) := by decide +kernel
theorem dX5_most_30 : decode cX5_most 30 = .ok (.iload 6, 2) := by decide +kernel
theorem dX5_most_32 : decode cX5_most 32 = .ok (.aload_n 0, 1) := by decide +kernel
theorem dX5_most_33 : decode cX5_most 33 = .ok (.getfield 13, 3) := by decide +kernel
theorem dX5_most_36 : decode cX5_most 36 = .ok (.iconst 0, 1) := by decide +kernel
theorem dX5_most_37 : decode cX5_most 37 = .ok (.iaload, 1) := by decide +kernel
theorem dX5_most_38 : decode cX5_most 38 = .ok (.if_icmp .ge 31, 3) := by decide +kernel
theorem dX5_most_41 : decode cX5_most 41 = .ok (.iload 5, 2) := by decide +kernel
theorem dX5_most_43 : decode cX5_most 43 = .ok (.aload_n 0, 1) := by decide +kernel
theorem dX5_most_44 : decode cX5_most 44 = .ok (.getfield 19, 3) := by decide +kernel
theorem dX5_most_47 : decode cX5_most 47 = .ok (.iload 6, 2) := by decide +kernel
theorem dX5_most_49 : decode cX5_most 49 = .ok (.iaload, 1) := by decide +kernel
theorem dX5_most_50 : decode cX5_most 50 = .ok (.iload 4, 2) := by decide +kernel
theorem dX5_most_52 : decode cX5_most 52 = .ok (.if_icmp .ne 7, 3) := by decide +kernel
theorem dX5_most_55 : decode cX5_most 55 = .ok (.iconst 1, 1) := by decide +kernel
theorem dX5_most_56 : decode cX5_most 56 = .ok (.goto 4, 3) := by decide +kernel
theorem dX5_most_59 : decode cX5_most 59 = .ok (.iconst 0, 1) := by decide +kernel
theorem dX5_most_60 : decode cX5_most 60 = .ok (.iadd, 1) := by decide +kernel
theorem dX5_most_61 : decode cX5_most 61 = .ok (.istore 5, 2) := by decide +kernel
theorem dX5_most_63 : decode cX5_most 63 = .ok (.iinc 6 1, 3) := by decide +kernel
theorem dX5_most_66 : decode cX5_most 66 = .ok (.goto (-36), 3) := by decide +kernel
theorem dX5_most_69 : decode cX5_most 69 = .ok (.iload 5, 2) := by decide +kernel
theorem dX5_most_71 : decode cX5_most 71 = .ok (.iload_n 3, 1) := by decide +kernel
theorem dX5_most_72 : decode cX5_most 72 = .ok (.if_icmp .le 8, 3) := by decide +kernel
theorem dX5_most_75 : decode cX5_most 75 = .ok (.iload 4, 2) := by decide +kernel
theorem dX5_most_77 : decode cX5_most 77 = .ok (.goto 4, 3) := by decide +kernel
theorem dX5_most_80 : decode cX5_most 80 = .ok (.iload_n 2, 1) := by decide +kernel
theorem dX5_most_81 : decode cX5_most 81 = .ok (.istore_n 2, 1) := by decide +kernel
theorem dX5_most_82 : decode cX5_most 82 = .ok (.iload 5, 2) := by decide +kernel
theorem dX5_most_84 : decode cX5_most 84 = .ok (.iload_n 3, 1) := by decide +kernel
theorem dX5_most_85 : decode cX5_most 85 = .ok (.if_icmp .le 8, 3) := by decide +kernel
theorem dX5_most_88 : decode cX5_most 88 = .ok (.iload 5, 2) := by decide +kernel
theorem dX5_most_90 : decode cX5_most 90 = .ok (.goto 4, 3) := by decide +kernel
theorem dX5_most_93 : decode cX5_most 93 = .ok (.iload_n 3, 1) := by decide +kernel
theorem dX5_most_94 : decode cX5_most 94 = .ok (.istore_n 3, 1) := by decide +kernel
theorem dX5_most_95 : decode cX5_most 95 = .ok (.iinc 4 1, 3) := by decide +kernel
theorem dX5_most_98 : decode cX5_most 98 = .ok (.goto (-80), 3) := by decide +kernel
theorem dX5_most_101 : decode cX5_most 101 = .ok (.iload_n 1, 1) := by decide +kernel
theorem dX5_most_102 : decode cX5_most 102 = .ok (.ifCond .ne 7, 3) := by decide +kernel
theorem dX5_most_105 : decode cX5_most 105 = .ok (.iload_n 2, 1) := by decide +kernel
theorem dX5_most_106 : decode cX5_most 106 = .ok (.goto 4, 3) := by decide +kernel
theorem dX5_most_109 : decode cX5_most 109 = .ok (.iload_n 3, 1) := by decide +kernel
theorem dX5_most_110 : decode cX5_most 110 = .ok (.ireturn, 1) := by decide +kernel
theorem dX5_groups_0 : decode cX5_groups 0 = .ok (.iload_n 1, 1) := by decide +kernel
theorem dX5_groups_1 : decode cX5_groups 1 = .ok (.iconst 0, 1) := by decide +kernel
theorem dX5_groups_2 : decode cX5_groups 2 = .ok (.iconst 1, 1) := by decide +kernel
theorem dX5_groups_3 : decode cX5_groups 3 = .ok (.invokestatic 45, 3) := by decide +kernel
theorem dX5_groups_6 : decode cX5_groups 6 = .ok (.ifCond .ne 5, 3) := by decide +kernel
theorem dX5_groups_9 : decode cX5_groups 9 = .ok (.iconst (-1), 1) := by decide +kernel
theorem dX5_groups_10 : decode cX5_groups 10 = .ok (.ireturn, 1) := by decide +kernel
theorem dX5_groups_11 : decode cX5_groups 11 = .ok (.iconst 0, 1) := by decide +kernel
theorem dX5_groups_12 : decode cX5_groups 12 = .ok (.istore_n 2, 1) := by decide +kernel
theorem dX5_groups_13 : decode cX5_groups 13 = .ok (.iconst 0, 1) := by decide +kernel
theorem dX5_groups_14 : decode cX5_groups 14 = .ok (.istore_n 3, 1) := by decide +kernel
theorem dX5_groups_15 : decode cX5_groups 15 = .ok (.iconst 0, 1) := by decide +kernel
theorem dX5_groups_16 : decode cX5_groups 16 = .ok (.istore 4, 2) := by decide +kernel
theorem dX5_groups_18 : decode cX5_groups 18 = .ok (.iconst 0, 1) := by decide +kernel
theorem dX5_groups_19 : decode cX5_groups 19 = .ok (.istore 5, 2) := by decide +kernel
theorem dX5_groups_21 : decode cX5_groups 21 = .ok (.iload 5, 2) := by decide +kernel
theorem dX5_groups_23 : decode cX5_groups 23 = .ok (.aload_n 0, 1) := by decide +kernel
theorem dX5_groups_24 : decode cX5_groups 24 = .ok (.getfield 13, 3) := by decide +kernel
theorem dX5_groups_27 : decode cX5_groups 27 = .ok (.iconst 0, 1) := by decide +kernel
theorem dX5_groups_28 : decode cX5_groups 28 = .ok (.iaload, 1) := by decide +kernel
theorem dX5_groups_29 : decode cX5_groups 29 = .ok (.if_icmp .ge 70, 3) := by decide +kernel
theorem dX5_groups_32 : decode cX5_groups 32 = .ok (.iload 5, 2) := by decide +kernel
theorem dX5_groups_34 : decode cX5_groups 34 = .ok (.ifCond .le 29, 3) := by decide +kernel
theorem dX5_groups_37 : decode cX5_groups 37 = .ok (.aload_n 0, 1) := by decide +kernel
theorem dX5_groups_38 : decode cX5_groups 38 = .ok (.getfield 19, 3) := by decide +kernel
theorem dX5_groups_41 : decode cX5_groups 41 = .ok (.iload 5, 2) := by decide +kernel
theorem dX5_groups_43 : decode cX5_groups 43 = .ok (.iaload, 1) := by decide +kernel
theorem dX5_groups_44 : decode cX5_groups 44 = .ok (.aload_n 0, 1) := by decide +kernel
theorem dX5_groups_45 : decode cX5_groups 45 = .ok (.getfield 19, 3) := by decide +kernel
theorem dX5_groups_48 : decode cX5_groups 48 = .ok (.iload 5, 2) := by decide +kernel
theorem dX5_groups_50 : decode cX5_groups 50 = .ok (.iconst 1, 1) := by decide +kernel
theorem dX5_groups_51 : decode cX5_groups 51 = .ok (.isub, 1) := by decide +kernel
theorem dX5_groups_52 : decode cX5_groups 52 = .ok (.iaload, 1) := by decide +kernel
theorem dX5_groups_53 : decode cX5_groups 53 = .ok (.if_icmp .ne 10, 3) := by decide +kernel
theorem dX5_groups_56 : decode cX5_groups 56 = .ok (.iload 4, 2) := by decide +kernel
theorem dX5_groups_58 : decode cX5_groups 58 = .ok (.iconst 1, 1) := by decide +kernel
theorem dX5_groups_59 : decode cX5_groups 59 = .ok (.iadd, 1) := by decide +kernel
theorem dX5_groups_60 : decode cX5_groups 60 = .ok (.goto 4, 3) := by decide +kernel
theorem dX5_groups_63 : decode cX5_groups 63 = .ok (.iconst 1, 1) := by decide +kernel
theorem dX5_groups_64 : decode cX5_groups 64 = .ok (.istore 4, 2) := by decide +kernel
theorem dX5_groups_66 : decode cX5_groups 66 = .ok (.iload_n 2, 1) := by decide +kernel
theorem dX5_groups_67 : decode cX5_groups 67 = .ok (.iload 4, 2) := by decide +kernel
theorem dX5_groups_69 : decode cX5_groups 69 = .ok (.iconst 1, 1) := by decide +kernel
theorem dX5_groups_70 : decode cX5_groups 70 = .ok (.if_icmp .ne 7, 3) := by decide +kernel
theorem dX5_groups_73 : decode cX5_groups 73 = .ok (.iconst 1, 1) := by decide +kernel
theorem dX5_groups_74 : decode cX5_groups 74 = .ok (.goto 4, 3) := by decide +kernel
theorem dX5_groups_77 : decode cX5_groups 77 = .ok (.iconst 0, 1) := by decide +kernel
theorem dX5_groups_78 : decode cX5_groups 78 = .ok (.iadd, 1) := by decide +kernel
theorem dX5_groups_79 : decode cX5_groups 79 = .ok (.istore_n 2, 1) := by decide +kernel
theorem dX5_groups_80 : decode cX5_groups 80 = .ok (.iload 4, 2) := by decide +kernel
theorem dX5_groups_82 : decode cX5_groups 82 = .ok (.iload_n 3, 1) := by decide +kernel
theorem dX5_groups_83 : decode cX5_groups 83 = .ok (.if_icmp .le 8, 3) := by decide +kernel
theorem dX5_groups_86 : decode cX5_groups 86 = .ok (.iload 4, 2) := by decide +kernel
theorem dX5_groups_88 : decode cX5_groups 88 = .ok (.goto 4, 3) := by decide +kernel
theorem dX5_groups_91 : decode cX5_groups 91 = .ok (.iload_n 3, 1) := by decide +kernel
theorem dX5_groups_92 : decode cX5_groups 92 = .ok (.istore_n 3, 1) := by decide +kernel
theorem dX5_groups_93 : decode cX5_groups 93 = .ok (.iinc 5 1, 3) := by decide +kernel
theorem dX5_groups_96 : decode cX5_groups 96 = .ok (.goto (-75), 3) := by decide +kernel
theorem dX5_groups_99 : decode cX5_groups 99 = .ok (.iload_n 1, 1) := by decide +kernel
theorem dX5_groups_100 : decode cX5_groups 100 = .ok (.ifCond .ne 7, 3) := by decide +kernel
theorem dX5_groups_103 : decode cX5_groups 103 = .ok (.iload_n 2, 1) := by decide +kernel
theorem dX5_groups_104 : decode cX5_groups 104 = .ok (.goto 4, 3) := by decide +kernel
theorem dX5_groups_107 : decode cX5_groups 107 = .ok (.iload_n 3, 1) := by decide +kernel
theorem dX5_groups_108 : decode cX5_groups 108 = .ok (.ireturn, 1) := by decide +kernel
theorem dX5_holds_0 : decode cX5_holds 0 = .ok (.iconst 0, 1) := by decide +kernel
theorem dX5_holds_1 : decode cX5_holds 1 = .ok (.istore_n 1, 1) := by decide +kernel
theorem dX5_holds_2 : decode cX5_holds 2 = .ok (.iload_n 1, 1) := by decide +kernel
theorem dX5_holds_3 : decode cX5_holds 3 = .ok (.bipush 22, 2) := by decide +kernel
theorem dX5_holds_5 : decode cX5_holds 5 = .ok (.if_icmp .ge 21, 3) := by decide +kernel
theorem dX5_holds_8 : decode cX5_holds 8 = .ok (.aload_n 0, 1) := by decide +kernel
theorem dX5_holds_9 : decode cX5_holds 9 = .ok (.getfield 32, 3) := by decide +kernel
theorem dX5_holds_12 : decode cX5_holds 12 = .ok (.iload_n 1, 1) := by decide +kernel
theorem dX5_holds_13 : decode cX5_holds 13 = .ok (.aload_n 0, 1) := by decide +kernel
theorem dX5_holds_14 : decode cX5_holds 14 = .ok (.getfield 19, 3) := by decide +kernel
theorem dX5_holds_17 : decode cX5_holds 17 = .ok (.iload_n 1, 1) := by decide +kernel
theorem dX5_holds_18 : decode cX5_holds 18 = .ok (.iaload, 1) := by decide +kernel
theorem dX5_holds_19 : decode cX5_holds 19 = .ok (.iastore, 1) := by decide +kernel
theorem dX5_holds_20 : decode cX5_holds 20 = .ok (.iinc 1 1, 3) := by decide +kernel
theorem dX5_holds_23 : decode cX5_holds 23 = .ok (.goto (-21), 3) := by decide +kernel
theorem dX5_holds_26 : decode cX5_holds 26 = .ok (.return_, 1) := by decide +kernel
theorem dX5_lets_0 : decode cX5_lets 0 = .ok (.iconst 0, 1) := by decide +kernel
theorem dX5_lets_1 : decode cX5_lets 1 = .ok (.istore_n 1, 1) := by decide +kernel
theorem dX5_lets_2 : decode cX5_lets 2 = .ok (.iload_n 1, 1) := by decide +kernel
theorem dX5_lets_3 : decode cX5_lets 3 = .ok (.bipush 22, 2) := by decide +kernel
theorem dX5_lets_5 : decode cX5_lets 5 = .ok (.if_icmp .ge 21, 3) := by decide +kernel
theorem dX5_lets_8 : decode cX5_lets 8 = .ok (.aload_n 0, 1) := by decide +kernel
theorem dX5_lets_9 : decode cX5_lets 9 = .ok (.getfield 19, 3) := by decide +kernel
theorem dX5_lets_12 : decode cX5_lets 12 = .ok (.iload_n 1, 1) := by decide +kernel
theorem dX5_lets_13 : decode cX5_lets 13 = .ok (.aload_n 0, 1) := by decide +kernel
theorem dX5_lets_14 : decode cX5_lets 14 = .ok (.getfield 32, 3) := by decide +kernel
theorem dX5_lets_17 : decode cX5_lets 17 = .ok (.iload_n 1, 1) := by decide +kernel
theorem dX5_lets_18 : decode cX5_lets 18 = .ok (.iaload, 1) := by decide +kernel
theorem dX5_lets_19 : decode cX5_lets 19 = .ok (.iastore, 1) := by decide +kernel
theorem dX5_lets_20 : decode cX5_lets 20 = .ok (.iinc 1 1, 3) := by decide +kernel
theorem dX5_lets_23 : decode cX5_lets 23 = .ok (.goto (-21), 3) := by decide +kernel
theorem dX5_lets_26 : decode cX5_lets 26 = .ok (.return_, 1) := by decide +kernel
theorem dX5_isOneWay_0 : decode cX5_isOneWay 0 = .ok (.iconst 1, 1) := by decide +kernel
theorem dX5_isOneWay_1 : decode cX5_isOneWay 1 = .ok (.istore_n 1, 1) := by decide +kernel
theorem dX5_isOneWay_2 : decode cX5_isOneWay 2 = .ok (.iconst 1, 1) := by decide +kernel
theorem dX5_isOneWay_3 : decode cX5_isOneWay 3 = .ok (.istore_n 2, 1) := by decide +kernel
theorem dX5_isOneWay_4 : decode cX5_isOneWay 4 = .ok (.iload_n 2, 1) := by decide +kernel
theorem dX5_isOneWay_5 : decode cX5_isOneWay 5 = .ok (.aload_n 0, 1) := by decide +kernel
theorem dX5_isOneWay_6 : decode cX5_isOneWay 6 = .ok (.getfield 13, 3) := by decide +kernel
theorem dX5_isOneWay_9 : decode cX5_isOneWay 9 = .ok (.iconst 0, 1) := by decide +kernel
theorem dX5_isOneWay_10 : decode cX5_isOneWay 10 = .ok (.iaload, 1) := by decide +kernel
theorem dX5_isOneWay_11 : decode cX5_isOneWay 11 = .ok (.if_icmp .ge 34, 3) := by decide +kernel
theorem dX5_isOneWay_14 : decode cX5_isOneWay 14 = .ok (.iload_n 1, 1) := by decide +kernel
theorem dX5_isOneWay_15 : decode cX5_isOneWay 15 = .ok (.ifCond .eq 22, 3) := by decide +kernel
theorem dX5_isOneWay_18 : decode cX5_isOneWay 18 = .ok (.aload_n 0, 1) := by decide +kernel
theorem dX5_isOneWay_19 : decode cX5_isOneWay 19 = .ok (.getfield 19, 3) := by decide +kernel
theorem dX5_isOneWay_22 : decode cX5_isOneWay 22 = .ok (.iload_n 2, 1) := by decide +kernel
theorem dX5_isOneWay_23 : decode cX5_isOneWay 23 = .ok (.iaload, 1) := by decide +kernel
theorem dX5_isOneWay_24 : decode cX5_isOneWay 24 = .ok (.aload_n 0, 1) := by decide +kernel
theorem dX5_isOneWay_25 : decode cX5_isOneWay 25 = .ok (.getfield 19, 3) := by decide +kernel
theorem dX5_isOneWay_28 : decode cX5_isOneWay 28 = .ok (.iconst 0, 1) := by decide +kernel
theorem dX5_isOneWay_29 : decode cX5_isOneWay 29 = .ok (.iaload, 1) := by decide +kernel
theorem dX5_isOneWay_30 : decode cX5_isOneWay 30 = .ok (.if_icmp .ne 7, 3) := by decide +kernel
theorem dX5_isOneWay_33 : decode cX5_isOneWay 33 = .ok (.iconst 1, 1) := by decide +kernel
theorem dX5_isOneWay_34 : decode cX5_isOneWay 34 = .ok (.goto 4, 3) := by decide +kernel
theorem dX5_isOneWay_37 : decode cX5_isOneWay 37 = .ok (.iconst 0, 1) := by decide +kernel
theorem dX5_isOneWay_38 : decode cX5_isOneWay 38 = .ok (.istore_n 1, 1) := by decide +kernel
theorem dX5_isOneWay_39 : decode cX5_isOneWay 39 = .ok (.iinc 2 1, 3) := by decide +kernel
theorem dX5_isOneWay_42 : decode cX5_isOneWay 42 = .ok (.goto (-38), 3) := by decide +kernel
theorem dX5_isOneWay_45 : decode cX5_isOneWay 45 = .ok (.iload_n 1, 1) := by decide +kernel
theorem dX5_isOneWay_46 : decode cX5_isOneWay 46 = .ok (.ireturn, 1) := by decide +kernel
theorem dX5_rows_0 : decode cX5_rows 0 = .ok (.aload_n 0, 1) := by decide +kernel
theorem dX5_rows_1 : decode cX5_rows 1 = .ok (.invokevirtual 153, 3) := by decide +kernel
theorem dX5_rows_4 : decode cX5_rows 4 = .ok (.iconst 0, 1) := by decide +kernel
theorem dX5_rows_5 : decode cX5_rows 5 = .ok (.istore_n 2, 1) := by decide +kernel
theorem dX5_rows_6 : decode cX5_rows 6 = .ok (.iconst 1, 1) := by decide +kernel
theorem dX5_rows_7 : decode cX5_rows 7 = .ok (.istore_n 3, 1) := by decide +kernel
theorem dX5_rows_8 : decode cX5_rows 8 = .ok (.iconst 0, 1) := by decide +kernel
theorem dX5_rows_9 : decode cX5_rows 9 = .ok (.istore 4, 2) := by decide +kernel
theorem dX5_rows_11 : decode cX5_rows 11 = .ok (.iload 4, 2) := by decide +kernel
theorem dX5_rows_13 : decode cX5_rows 13 = .ok (.iload_n 1, 1) := by decide +kernel
theorem dX5_rows_14 : decode cX5_rows 14 = .ok (.if_icmp .ge 13, 3) := by decide +kernel
theorem dX5_rows_17 : decode cX5_rows 17 = .ok (.iload_n 3, 1) := by decide +kernel
theorem dX5_rows_18 : decode cX5_rows 18 = .ok (.iconst 3, 1) := by decide +kernel
theorem dX5_rows_19 : decode cX5_rows 19 = .ok (.imul, 1) := by decide +kernel
theorem dX5_rows_20 : decode cX5_rows 20 = .ok (.istore_n 3, 1) := by decide +kernel
theorem dX5_rows_21 : decode cX5_rows 21 = .ok (.iinc 4 1, 3) := by decide +kernel
theorem dX5_rows_24 : decode cX5_rows 24 = .ok (.goto (-13), 3) := by decide +kernel
theorem dX5_rows_27 : decode cX5_rows 27 = .ok (.iconst 0, 1) := by decide +kernel
theorem dX5_rows_28 : decode cX5_rows 28 = .ok (.istore 4, 2) := by decide +kernel
theorem dX5_rows_30 : decode cX5_rows 30 = .ok (.iload 4, 2) := by decide +kernel
theorem dX5_rows_32 : decode cX5_rows 32 = .ok (.iload_n 3, 1) := by decide +kernel
theorem dX5_rows_33 : decode cX5_rows 33 = .ok (.if_icmp .ge 94, 3) := by decide +kernel
theorem dX5_rows_36 : decode cX5_rows 36 = .ok (.iload_n 3, 1) := by decide +kernel
theorem dX5_rows_37 : decode cX5_rows 37 = .ok (.istore 5, 2) := by decide +kernel
theorem dX5_rows_39 : decode cX5_rows 39 = .ok (.iconst 0, 1) := by decide +kernel
theorem dX5_rows_40 : decode cX5_rows 40 = .ok (.istore 6, 2) := by decide +kernel
theorem dX5_rows_42 : decode cX5_rows 42 = .ok (.iload 6, 2) := by decide +kernel
theorem dX5_rows_44 : decode cX5_rows 44 = .ok (.iload_n 1, 1) := by decide +kernel
theorem dX5_rows_45 : decode cX5_rows 45 = .ok (.if_icmp .ge 31, 3) := by decide +kernel
theorem dX5_rows_48 : decode cX5_rows 48 = .ok (.iload 5, 2) := by decide +kernel
theorem dX5_rows_50 : decode cX5_rows 50 = .ok (.iconst 3, 1) := by decide +kernel
theorem dX5_rows_51 : decode cX5_rows 51 = .ok (.idiv, 1) := by decide +kernel
theorem dX5_rows_52 : decode cX5_rows 52 = .ok (.istore 5, 2) := by decide +kernel
theorem dX5_rows_54 : decode cX5_rows 54 = .ok (.aload_n 0, 1) := by decide +kernel
theorem dX5_rows_55 : decode cX5_rows 55 = .ok (.iload 4, 2) := by decide +kernel
theorem dX5_rows_57 : decode cX5_rows 57 = .ok (.iload 5, 2) := by decide +kernel
theorem dX5_rows_59 : decode cX5_rows 59 = .ok (.idiv, 1) := by decide +kernel
theorem dX5_rows_60 : decode cX5_rows 60 = .ok (.iconst 3, 1) := by decide +kernel
theorem dX5_rows_61 : decode cX5_rows 61 = .ok (.irem, 1) := by decide +kernel
theorem dX5_rows_62 : decode cX5_rows 62 = .ok (.aload_n 0, 1) := by decide +kernel
theorem dX5_rows_63 : decode cX5_rows 63 = .ok (.iconst 1, 1) := by decide +kernel
theorem dX5_rows_64 : decode cX5_rows 64 = .ok (.invokevirtual 136, 3) := by decide +kernel
theorem dX5_rows_67 : decode cX5_rows 67 = .ok (.invokevirtual 140, 3) := by decide +kernel
theorem dX5_rows_70 : decode cX5_rows 70 = .ok (.iinc 6 1, 3) := by decide +kernel
theorem dX5_rows_73 : decode cX5_rows 73 = .ok (.goto (-31), 3) := by decide +kernel
theorem dX5_rows_76 : decode cX5_rows 76 = .ok (.aload_n 0, 1) := by decide +kernel
theorem dX5_rows_77 : decode cX5_rows 77 = .ok (.invokevirtual 156, 3) := by decide +kernel
theorem dX5_rows_80 : decode cX5_rows 80 = .ok (.istore 6, 2) := by decide +kernel
theorem dX5_rows_82 : decode cX5_rows 82 = .ok (.aload_n 0, 1) := by decide +kernel
theorem dX5_rows_83 : decode cX5_rows 83 = .ok (.iload 6, 2) := by decide +kernel
theorem dX5_rows_85 : decode cX5_rows 85 = .ok (.ifCond .eq 12, 3) := by decide +kernel
theorem dX5_rows_88 : decode cX5_rows 88 = .ok (.iload_n 2, 1) := by decide +kernel
theorem dX5_rows_89 : decode cX5_rows 89 = .ok (.ifCond .ne 8, 3) := by decide +kernel
theorem dX5_rows_92 : decode cX5_rows 92 = .ok (.iload 4, 2) := by decide +kernel
theorem dX5_rows_94 : decode cX5_rows 94 = .ok (.goto 7, 3) := by decide +kernel
theorem dX5_rows_97 : decode cX5_rows 97 = .ok (.aload_n 0, 1) := by decide +kernel
theorem dX5_rows_98 : decode cX5_rows 98 = .ok (.getfield 159, 3) := by decide +kernel
theorem dX5_rows_101 : decode cX5_rows 101 = .ok (.putfield 159, 3) := by decide +kernel
theorem dX5_rows_104 : decode cX5_rows 104 = .ok (.iload_n 2, 1) := by decide +kernel
theorem dX5_rows_105 : decode cX5_rows 105 = .ok (.iload 6, 2) := by decide +kernel
theorem dX5_rows_107 : decode cX5_rows 107 = .ok (.ifCond .eq 7, 3) := by decide +kernel
theorem dX5_rows_110 : decode cX5_rows 110 = .ok (.iconst 1, 1) := by decide +kernel
theorem dX5_rows_111 : decode cX5_rows 111 = .ok (.goto 4, 3) := by decide +kernel
theorem dX5_rows_114 : decode cX5_rows 114 = .ok (.iconst 0, 1) := by decide +kernel
theorem dX5_rows_115 : decode cX5_rows 115 = .ok (.iadd, 1) := by decide +kernel
theorem dX5_rows_116 : decode cX5_rows 116 = .ok (.istore_n 2, 1) := by decide +kernel
theorem dX5_rows_117 : decode cX5_rows 117 = .ok (.aload_n 0, 1) := by decide +kernel
theorem dX5_rows_118 : decode cX5_rows 118 = .ok (.invokevirtual 162, 3) := by decide +kernel
theorem dX5_rows_121 : decode cX5_rows 121 = .ok (.iinc 4 1, 3) := by decide +kernel
theorem dX5_rows_124 : decode cX5_rows 124 = .ok (.goto (-94), 3) := by decide +kernel
theorem dX5_rows_127 : decode cX5_rows 127 = .ok (.iload_n 2, 1) := by decide +kernel
theorem dX5_rows_128 : decode cX5_rows 128 = .ok (.ireturn, 1) := by decide +kernel
theorem dX5_plan_0 : decode cX5_plan 0 = .ok (.iload_n 1, 1) := by decide +kernel
theorem dX5_plan_1 : decode cX5_plan 1 = .ok (.iconst (-1), 1) := by decide +kernel
theorem dX5_plan_2 : decode cX5_plan 2 = .ok (.iconst 4, 1) := by decide +kernel
theorem dX5_plan_3 : decode cX5_plan 3 = .ok (.invokestatic 45, 3) := by decide +kernel
theorem dX5_plan_6 : decode cX5_plan 6 = .ok (.ifCond .ne 5, 3) := by decide +kernel
theorem dX5_plan_9 : decode cX5_plan 9 = .ok (.iconst (-1), 1) := by decide +kernel
theorem dX5_plan_10 : decode cX5_plan 10 = .ok (.ireturn, 1) := by decide +kernel
theorem dX5_plan_11 : decode cX5_plan 11 = .ok (.iconst 0, 1) := by decide +kernel
theorem dX5_plan_12 : decode cX5_plan 12 = .ok (.istore_n 2, 1) := by decide +kernel
theorem dX5_plan_13 : decode cX5_plan 13 = .ok (.iload_n 2, 1) := by decide +kernel
theorem dX5_plan_14 : decode cX5_plan 14 = .ok (.iconst 5, 1) := by decide +kernel
theorem dX5_plan_15 : decode cX5_plan 15 = .ok (.if_icmp .gt 66, 3) := by decide +kernel
theorem dX5_plan_18 : decode cX5_plan 18 = .ok (.aload_n 0, 1) := by decide +kernel
theorem dX5_plan_19 : decode cX5_plan 19 = .ok (.iload_n 2, 1) := by decide +kernel
theorem dX5_plan_20 : decode cX5_plan 20 = .ok (.invokevirtual 165, 3) := by decide +kernel
theorem dX5_plan_23 : decode cX5_plan 23 = .ok (.ifCond .le 52, 3) := by decide +kernel
theorem dX5_plan_26 : decode cX5_plan 26 = .ok (.aload_n 0, 1) := by decide +kernel
theorem dX5_plan_27 : decode cX5_plan 27 = .ok (.getfield 159, 3) := by decide +kernel
theorem dX5_plan_30 : decode cX5_plan 30 = .ok (.istore_n 3, 1) := by decide +kernel
theorem dX5_plan_31 : decode cX5_plan 31 = .ok (.iload_n 2, 1) := by decide +kernel
theorem dX5_plan_32 : decode cX5_plan 32 = .ok (.iconst 1, 1) := by decide +kernel
theorem dX5_plan_33 : decode cX5_plan 33 = .ok (.isub, 1) := by decide +kernel
theorem dX5_plan_34 : decode cX5_plan 34 = .ok (.istore 4, 2) := by decide +kernel
theorem dX5_plan_36 : decode cX5_plan 36 = .ok (.iload 4, 2) := by decide +kernel
theorem dX5_plan_38 : decode cX5_plan 38 = .ok (.iload_n 1, 1) := by decide +kernel
theorem dX5_plan_39 : decode cX5_plan 39 = .ok (.if_icmp .le 13, 3) := by decide +kernel
theorem dX5_plan_42 : decode cX5_plan 42 = .ok (.iload_n 3, 1) := by decide +kernel
theorem dX5_plan_43 : decode cX5_plan 43 = .ok (.iconst 3, 1) := by decide +kernel
theorem dX5_plan_44 : decode cX5_plan 44 = .ok (.idiv, 1) := by decide +kernel
theorem dX5_plan_45 : decode cX5_plan 45 = .ok (.istore_n 3, 1) := by decide +kernel
theorem dX5_plan_46 : decode cX5_plan 46 = .ok (.iinc 4 (-1), 3) := by decide +kernel
theorem dX5_plan_49 : decode cX5_plan 49 = .ok (.goto (-13), 3) := by decide +kernel
theorem dX5_plan_52 : decode cX5_plan 52 = .ok (.iload_n 1, 1) := by decide +kernel
theorem dX5_plan_53 : decode cX5_plan 53 = .ok (.iconst (-1), 1) := by decide +kernel
theorem dX5_plan_54 : decode cX5_plan 54 = .ok (.if_icmp .ne 7, 3) := by decide +kernel
theorem dX5_plan_57 : decode cX5_plan 57 = .ok (.iload_n 2, 1) := by decide +kernel
theorem dX5_plan_58 : decode cX5_plan 58 = .ok (.goto 16, 3) := by decide +kernel
theorem dX5_plan_61 : decode cX5_plan 61 = .ok (.iload_n 1, 1) := by decide +kernel
theorem dX5_plan_62 : decode cX5_plan 62 = .ok (.iload_n 2, 1) := by decide +kernel
theorem dX5_plan_63 : decode cX5_plan 63 = .ok (.if_icmp .ge 9, 3) := by decide +kernel
theorem dX5_plan_66 : decode cX5_plan 66 = .ok (.iload_n 3, 1) := by decide +kernel
theorem dX5_plan_67 : decode cX5_plan 67 = .ok (.iconst 3, 1) := by decide +kernel
theorem dX5_plan_68 : decode cX5_plan 68 = .ok (.irem, 1) := by decide +kernel
theorem dX5_plan_69 : decode cX5_plan 69 = .ok (.goto 5, 3) := by decide +kernel
theorem dX5_plan_72 : decode cX5_plan 72 = .ok (.bipush (-4), 2) := by decide +kernel
theorem dX5_plan_74 : decode cX5_plan 74 = .ok (.ireturn, 1) := by decide +kernel
theorem dX5_plan_75 : decode cX5_plan 75 = .ok (.iinc 2 1, 3) := by decide +kernel
theorem dX5_plan_78 : decode cX5_plan 78 = .ok (.goto (-65), 3) := by decide +kernel
theorem dX5_plan_81 : decode cX5_plan 81 = .ok (.bipush (-4), 2) := by decide +kernel
theorem dX5_plan_83 : decode cX5_plan 83 = .ok (.ireturn, 1) := by decide +kernel
theorem dX5_turn_0 : decode cX5_turn 0 = .ok (.aload_n 0, 1) := by decide +kernel
theorem dX5_turn_1 : decode cX5_turn 1 = .ok (.iload_n 1, 1) := by decide +kernel
theorem dX5_turn_2 : decode cX5_turn 2 = .ok (.invokevirtual 87, 3) := by decide +kernel
theorem dX5_turn_5 : decode cX5_turn 5 = .ok (.ifCond .eq 33, 3) := by decide +kernel
theorem dX5_turn_8 : decode cX5_turn 8 = .ok (.iload_n 2, 1) := by decide +kernel
theorem dX5_turn_9 : decode cX5_turn 9 = .ok (.invokestatic 130, 3) := by decide +kernel
theorem dX5_turn_12 : decode cX5_turn 12 = .ok (.ifCond .eq 26, 3) := by decide +kernel
theorem dX5_turn_15 : decode cX5_turn 15 = .ok (.aload_n 0, 1) := by decide +kernel
theorem dX5_turn_16 : decode cX5_turn 16 = .ok (.getfield 19, 3) := by decide +kernel
theorem dX5_turn_19 : decode cX5_turn 19 = .ok (.iload_n 1, 1) := by decide +kernel
theorem dX5_turn_20 : decode cX5_turn 20 = .ok (.iaload, 1) := by decide +kernel
theorem dX5_turn_21 : decode cX5_turn 21 = .ok (.aload_n 0, 1) := by decide +kernel
theorem dX5_turn_22 : decode cX5_turn 22 = .ok (.iload_n 1, 1) := by decide +kernel
theorem dX5_turn_23 : decode cX5_turn 23 = .ok (.iload_n 2, 1) := by decide +kernel
theorem dX5_turn_24 : decode cX5_turn 24 = .ok (.aload_n 0, 1) := by decide +kernel
theorem dX5_turn_25 : decode cX5_turn 25 = .ok (.iconst 1, 1) := by decide +kernel
theorem dX5_turn_26 : decode cX5_turn 26 = .ok (.invokevirtual 136, 3) := by decide +kernel
theorem dX5_turn_29 : decode cX5_turn 29 = .ok (.invokevirtual 126, 3) := by decide +kernel
theorem dX5_turn_32 : decode cX5_turn 32 = .ok (.iadd, 1) := by decide +kernel
theorem dX5_turn_33 : decode cX5_turn 33 = .ok (.iconst 4, 1) := by decide +kernel
theorem dX5_turn_34 : decode cX5_turn 34 = .ok (.irem, 1) := by decide +kernel
theorem dX5_turn_35 : decode cX5_turn 35 = .ok (.goto 4, 3) := by decide +kernel
theorem dX5_turn_38 : decode cX5_turn 38 = .ok (.iconst (-1), 1) := by decide +kernel
theorem dX5_turn_39 : decode cX5_turn 39 = .ok (.ireturn, 1) := by decide +kernel
theorem dX5_common_0 : decode cX5_common 0 = .ok (.iload_n 0, 1) := by decide +kernel
theorem dX5_common_1 : decode cX5_common 1 = .ok (.istore_n 2, 1) := by decide +kernel
theorem dX5_common_2 : decode cX5_common 2 = .ok (.iload_n 1, 1) := by decide +kernel
theorem dX5_common_3 : decode cX5_common 3 = .ok (.istore_n 3, 1) := by decide +kernel
theorem dX5_common_4 : decode cX5_common 4 = .ok (.iload_n 3, 1) := by decide +kernel
theorem dX5_common_5 : decode cX5_common 5 = .ok (.ifCond .le 16, 3) := by decide +kernel
theorem dX5_common_8 : decode cX5_common 8 = .ok (.iload_n 2, 1) := by decide +kernel
theorem dX5_common_9 : decode cX5_common 9 = .ok (.iload_n 3, 1) := by decide +kernel
theorem dX5_common_10 : decode cX5_common 10 = .ok (.irem, 1) := by decide +kernel
theorem dX5_common_11 : decode cX5_common 11 = .ok (.istore 4, 2) := by decide +kernel
theorem dX5_common_13 : decode cX5_common 13 = .ok (.iload_n 3, 1) := by decide +kernel
theorem dX5_common_14 : decode cX5_common 14 = .ok (.istore_n 2, 1) := by decide +kernel
theorem dX5_common_15 : decode cX5_common 15 = .ok (.iload 4, 2) := by decide +kernel
theorem dX5_common_17 : decode cX5_common 17 = .ok (.istore_n 3, 1) := by decide +kernel
theorem dX5_common_18 : decode cX5_common 18 = .ok (.goto (-14), 3) := by decide +kernel
theorem dX5_common_21 : decode cX5_common 21 = .ok (.iload_n 2, 1) := by decide +kernel
theorem dX5_common_22 : decode cX5_common 22 = .ok (.ireturn, 1) := by decide +kernel
theorem dX5_doubtful_0 : decode cX5_doubtful 0 = .ok (.iconst 0, 1) := by decide +kernel
theorem dX5_doubtful_1 : decode cX5_doubtful 1 = .ok (.istore_n 1, 1) := by decide +kernel
theorem dX5_doubtful_2 : decode cX5_doubtful 2 = .ok (.iconst 0, 1) := by decide +kernel
theorem dX5_doubtful_3 : decode cX5_doubtful 3 = .ok (.istore_n 2, 1) := by decide +kernel
theorem dX5_doubtful_4 : decode cX5_doubtful 4 = .ok (.iload_n 2, 1) := by decide +kernel
theorem dX5_doubtful_5 : decode cX5_doubtful 5 = .ok (.aload_n 0, 1) := by decide +kernel
theorem dX5_doubtful_6 : decode cX5_doubtful 6 = .ok (.getfield 13, 3) := by decide +kernel
theorem dX5_doubtful_9 : decode cX5_doubtful 9 = .ok (.iconst 0, 1) := by decide +kernel
theorem dX5_doubtful_10 : decode cX5_doubtful 10 = .ok (.iaload, 1) := by decide +kernel
theorem dX5_doubtful_11 : decode cX5_doubtful 11 = .ok (.if_icmp .ge 36, 3) := by decide +kernel
theorem dX5_doubtful_14 : decode cX5_doubtful 14 = .ok (.iload_n 1, 1) := by decide +kernel
theorem dX5_doubtful_15 : decode cX5_doubtful 15 = .ok (.aload_n 0, 1) := by decide +kernel
theorem dX5_doubtful_16 : decode cX5_doubtful 16 = .ok (.iload_n 2, 1) := by decide +kernel
theorem dX5_doubtful_17 : decode cX5_doubtful 17 = .ok (.invokevirtual 114, 3) := by decide +kernel
theorem dX5_doubtful_20 : decode cX5_doubtful 20 = .ok (.iload_n 2, 1) := by decide +kernel
theorem dX5_doubtful_21 : decode cX5_doubtful 21 = .ok (.if_icmp .ne 17, 3) := by decide +kernel
theorem dX5_doubtful_24 : decode cX5_doubtful 24 = .ok (.aload_n 0, 1) := by decide +kernel
theorem dX5_doubtful_25 : decode cX5_doubtful 25 = .ok (.iload_n 2, 1) := by decide +kernel
theorem dX5_doubtful_26 : decode cX5_doubtful 26 = .ok (.invokevirtual 120, 3) := by decide +kernel
theorem dX5_doubtful_29 : decode cX5_doubtful 29 = .ok (.ifCond .eq 9, 3) := by decide +kernel
theorem dX5_doubtful_32 : decode cX5_doubtful 32 = .ok (.iconst 1, 1) := by decide +kernel
theorem dX5_doubtful_33 : decode cX5_doubtful 33 = .ok (.iload_n 2, 1) := by decide +kernel
theorem dX5_doubtful_34 : decode cX5_doubtful 34 = .ok (.ishl, 1) := by decide +kernel
theorem dX5_doubtful_35 : decode cX5_doubtful 35 = .ok (.goto 4, 3) := by decide +kernel
theorem dX5_doubtful_38 : decode cX5_doubtful 38 = .ok (.iconst 0, 1) := by decide +kernel
theorem dX5_doubtful_39 : decode cX5_doubtful 39 = .ok (.ior, 1) := by decide +kernel
theorem dX5_doubtful_40 : decode cX5_doubtful 40 = .ok (.istore_n 1, 1) := by decide +kernel
theorem dX5_doubtful_41 : decode cX5_doubtful 41 = .ok (.iinc 2 1, 3) := by decide +kernel
theorem dX5_doubtful_44 : decode cX5_doubtful 44 = .ok (.goto (-40), 3) := by decide +kernel
theorem dX5_doubtful_47 : decode cX5_doubtful 47 = .ok (.iload_n 1, 1) := by decide +kernel
theorem dX5_doubtful_48 : decode cX5_doubtful 48 = .ok (.ireturn, 1) := by decide +kernel
theorem dX5_alike_0 : decode cX5_alike 0 = .ok (.iload_n 1, 1) := by decide +kernel
theorem dX5_alike_1 : decode cX5_alike 1 = .ok (.invokestatic 130, 3) := by decide +kernel
theorem dX5_alike_4 : decode cX5_alike 4 = .ok (.ifCond .eq 12, 3) := by decide +kernel
theorem dX5_alike_7 : decode cX5_alike 7 = .ok (.iload_n 2, 1) := by decide +kernel
theorem dX5_alike_8 : decode cX5_alike 8 = .ok (.iconst 0, 1) := by decide +kernel
theorem dX5_alike_9 : decode cX5_alike 9 = .ok (.iconst 1, 1) := by decide +kernel
theorem dX5_alike_10 : decode cX5_alike 10 = .ok (.invokestatic 45, 3) := by decide +kernel
theorem dX5_alike_13 : decode cX5_alike 13 = .ok (.ifCond .ne 5, 3) := by decide +kernel
theorem dX5_alike_16 : decode cX5_alike 16 = .ok (.iconst (-1), 1) := by decide +kernel
theorem dX5_alike_17 : decode cX5_alike 17 = .ok (.ireturn, 1) := by decide +kernel
theorem dX5_alike_18 : decode cX5_alike 18 = .ok (.aload_n 0, 1) := by decide +kernel
theorem dX5_alike_19 : decode cX5_alike 19 = .ok (.invokevirtual 168, 3) := by decide +kernel
theorem dX5_alike_22 : decode cX5_alike 22 = .ok (.istore_n 3, 1) := by decide +kernel
theorem dX5_alike_23 : decode cX5_alike 23 = .ok (.iconst 0, 1) := by decide +kernel
theorem dX5_alike_24 : decode cX5_alike 24 = .ok (.istore 4, 2) := by decide +kernel
theorem dX5_alike_26 : decode cX5_alike 26 = .ok (.iconst 1, 1) := by decide +kernel
theorem dX5_alike_27 : decode cX5_alike 27 = .ok (.istore 5, 2) := by decide +kernel
theorem dX5_alike_29 : decode cX5_alike 29 = .ok (.iconst 0, 1) := by decide +kernel
theorem dX5_alike_30 : decode cX5_alike 30 = .ok (.istore 6, 2) := by decide +kernel
theorem dX5_alike_32 : decode cX5_alike 32 = .ok (.iload 6, 2) := by decide +kernel
theorem dX5_alike_34 : decode cX5_alike 34 = .ok (.iload_n 3, 1) := by decide +kernel
theorem dX5_alike_35 : decode cX5_alike 35 = .ok (.invokestatic 147, 3) := by decide +kernel
theorem dX5_alike_38 : decode cX5_alike 38 = .ok (.if_icmp .ge 16, 3) := by decide +kernel
theorem dX5_alike_41 : decode cX5_alike 41 = .ok (.iload 5, 2) := by decide +kernel
theorem dX5_alike_43 : decode cX5_alike 43 = .ok (.bipush 10, 2) := by decide +kernel
theorem dX5_alike_45 : decode cX5_alike 45 = .ok (.imul, 1) := by decide +kernel
theorem dX5_alike_46 : decode cX5_alike 46 = .ok (.istore 5, 2) := by decide +kernel
theorem dX5_alike_48 : decode cX5_alike 48 = .ok (.iinc 6 1, 3) := by decide +kernel
theorem dX5_alike_51 : decode cX5_alike 51 = .ok (.goto (-19), 3) := by decide +kernel
theorem dX5_alike_54 : decode cX5_alike 54 = .ok (.iconst 0, 1) := by decide +kernel
theorem dX5_alike_55 : decode cX5_alike 55 = .ok (.istore 6, 2) := by decide +kernel
theorem dX5_alike_57 : decode cX5_alike 57 = .ok (.iload 6, 2) := by decide +kernel
theorem dX5_alike_59 : decode cX5_alike 59 = .ok (.sipush 256, 3) := by decide +kernel
theorem dX5_alike_62 : decode cX5_alike 62 = .ok (.if_icmp .ge 166, 3) := by decide +kernel
theorem dX5_alike_65 : decode cX5_alike 65 = .ok (.iload 6, 2) := by decide +kernel
theorem dX5_alike_67 : decode cX5_alike 67 = .ok (.iload_n 3, 1) := by decide +kernel
theorem dX5_alike_68 : decode cX5_alike 68 = .ok (.iconst (-1), 1) := by decide +kernel
theorem dX5_alike_69 : decode cX5_alike 69 = .ok (.ixor, 1) := by decide +kernel
theorem dX5_alike_70 : decode cX5_alike 70 = .ok (.iand, 1) := by decide +kernel
theorem dX5_alike_71 : decode cX5_alike 71 = .ok (.ifCond .ne 151, 3) := by decide +kernel
theorem dX5_alike_74 : decode cX5_alike 74 = .ok (.iconst 1, 1) := by decide +kernel
theorem dX5_alike_75 : decode cX5_alike 75 = .ok (.istore 7, 2) := by decide +kernel
theorem dX5_alike_77 : decode cX5_alike 77 = .ok (.iconst 1, 1) := by decide +kernel
theorem dX5_alike_78 : decode cX5_alike 78 = .ok (.istore 8, 2) := by decide +kernel
theorem dX5_alike_80 : decode cX5_alike 80 = .ok (.iconst 0, 1) := by decide +kernel
theorem dX5_alike_81 : decode cX5_alike 81 = .ok (.istore 9, 2) := by decide +kernel
theorem dX5_alike_83 : decode cX5_alike 83 = .ok (.iload 9, 2) := by decide +kernel
theorem dX5_alike_85 : decode cX5_alike 85 = .ok (.aload_n 0, 1) := by decide +kernel
theorem dX5_alike_86 : decode cX5_alike 86 = .ok (.getfield 13, 3) := by decide +kernel
theorem dX5_alike_89 : decode cX5_alike 89 = .ok (.iconst 0, 1) := by decide +kernel
theorem dX5_alike_90 : decode cX5_alike 90 = .ok (.iaload, 1) := by decide +kernel
theorem dX5_alike_91 : decode cX5_alike 91 = .ok (.if_icmp .ge 115, 3) := by decide +kernel
theorem dX5_alike_94 : decode cX5_alike 94 = .ok (.iload 7, 2) := by decide +kernel
theorem dX5_alike_96 : decode cX5_alike 96 = .ok (.iload_n 3, 1) := by decide +kernel
theorem dX5_alike_97 : decode cX5_alike 97 = .ok (.iload 9, 2) := by decide +kernel
theorem dX5_alike_99 : decode cX5_alike 99 = .ok (.ishr, 1) := by decide +kernel
theorem dX5_alike_100 : decode cX5_alike 100 = .ok (.iconst 1, 1) := by decide +kernel
theorem dX5_alike_101 : decode cX5_alike 101 = .ok (.iand, 1) := by decide +kernel
theorem dX5_alike_102 : decode cX5_alike 102 = .ok (.ifCond .ne 7, 3) := by decide +kernel
theorem dX5_alike_105 : decode cX5_alike 105 = .ok (.iconst 1, 1) := by decide +kernel
theorem dX5_alike_106 : decode cX5_alike 106 = .ok (.goto 40, 3) := by decide +kernel
theorem dX5_alike_109 : decode cX5_alike 109 = .ok (.iload 6, 2) := by decide +kernel
theorem dX5_alike_111 : decode cX5_alike 111 = .ok (.iload 9, 2) := by decide +kernel
theorem dX5_alike_113 : decode cX5_alike 113 = .ok (.ishr, 1) := by decide +kernel
theorem dX5_alike_114 : decode cX5_alike 114 = .ok (.iconst 1, 1) := by decide +kernel
theorem dX5_alike_115 : decode cX5_alike 115 = .ok (.iand, 1) := by decide +kernel
theorem dX5_alike_116 : decode cX5_alike 116 = .ok (.iconst 1, 1) := by decide +kernel
theorem dX5_alike_117 : decode cX5_alike 117 = .ok (.if_icmp .ne 16, 3) := by decide +kernel
theorem dX5_alike_120 : decode cX5_alike 120 = .ok (.aload_n 0, 1) := by decide +kernel
theorem dX5_alike_121 : decode cX5_alike 121 = .ok (.getfield 13, 3) := by decide +kernel
theorem dX5_alike_124 : decode cX5_alike 124 = .ok (.bipush 27, 2) := by decide +kernel
theorem dX5_alike_126 : decode cX5_alike 126 = .ok (.iload 9, 2) := by decide +kernel
theorem dX5_alike_128 : decode cX5_alike 128 = .ok (.iadd, 1) := by decide +kernel
theorem dX5_alike_129 : decode cX5_alike 129 = .ok (.iaload, 1) := by decide +kernel
theorem dX5_alike_130 : decode cX5_alike 130 = .ok (.goto 16, 3) := by decide +kernel
theorem dX5_alike_133 : decode cX5_alike 133 = .ok (.bipush 10, 2) := by decide +kernel
theorem dX5_alike_135 : decode cX5_alike 135 = .ok (.aload_n 0, 1) := by decide +kernel
theorem dX5_alike_136 : decode cX5_alike 136 = .ok (.getfield 13, 3) := by decide +kernel
theorem dX5_alike_139 : decode cX5_alike 139 = .ok (.bipush 27, 2) := by decide +kernel
theorem dX5_alike_141 : decode cX5_alike 141 = .ok (.iload 9, 2) := by decide +kernel
theorem dX5_alike_143 : decode cX5_alike 143 = .ok (.iadd, 1) := by decide +kernel
theorem dX5_alike_144 : decode cX5_alike 144 = .ok (.iaload, 1) := by decide +kernel
theorem dX5_alike_145 : decode cX5_alike 145 = .ok (.isub, 1) := by decide +kernel
theorem dX5_alike_146 : decode cX5_alike 146 = .ok (.imul, 1) := by decide +kernel
theorem dX5_alike_147 : decode cX5_alike 147 = .ok (.istore 7, 2) := by decide +kernel
theorem dX5_alike_149 : decode cX5_alike 149 = .ok (.iload 8, 2) := by decide +kernel
theorem dX5_alike_151 : decode cX5_alike 151 = .ok (.ifCond .eq 46, 3) := by decide +kernel
theorem dX5_alike_154 : decode cX5_alike 154 = .ok (.aload_n 0, 1) := by decide +kernel
theorem dX5_alike_155 : decode cX5_alike 155 = .ok (.getfield 19, 3) := by decide +kernel
theorem dX5_alike_158 : decode cX5_alike 158 = .ok (.iload 9, 2) := by decide +kernel
theorem dX5_alike_160 : decode cX5_alike 160 = .ok (.iaload, 1) := by decide +kernel
theorem dX5_alike_161 : decode cX5_alike 161 = .ok (.aload_n 0, 1) := by decide +kernel
theorem dX5_alike_162 : decode cX5_alike 162 = .ok (.iload 9, 2) := by decide +kernel
theorem dX5_alike_164 : decode cX5_alike 164 = .ok (.iload_n 1, 1) := by decide +kernel
theorem dX5_alike_165 : decode cX5_alike 165 = .ok (.iload 6, 2) := by decide +kernel
theorem dX5_alike_167 : decode cX5_alike 167 = .ok (.invokevirtual 126, 3) := by decide +kernel
theorem dX5_alike_170 : decode cX5_alike 170 = .ok (.iadd, 1) := by decide +kernel
theorem dX5_alike_171 : decode cX5_alike 171 = .ok (.iconst 4, 1) := by decide +kernel
theorem dX5_alike_172 : decode cX5_alike 172 = .ok (.irem, 1) := by decide +kernel
theorem dX5_alike_173 : decode cX5_alike 173 = .ok (.aload_n 0, 1) := by decide +kernel
theorem dX5_alike_174 : decode cX5_alike 174 = .ok (.getfield 19, 3) := by decide +kernel
theorem dX5_alike_177 : decode cX5_alike 177 = .ok (.iconst 0, 1) := by decide +kernel
theorem dX5_alike_178 : decode cX5_alike 178 = .ok (.iaload, 1) := by decide +kernel
theorem dX5_alike_179 : decode cX5_alike 179 = .ok (.aload_n 0, 1) := by decide +kernel
theorem dX5_alike_180 : decode cX5_alike 180 = .ok (.iconst 0, 1) := by decide +kernel
theorem dX5_alike_181 : decode cX5_alike 181 = .ok (.iload_n 1, 1) := by decide +kernel
theorem dX5_alike_182 : decode cX5_alike 182 = .ok (.iload 6, 2) := by decide +kernel
theorem dX5_alike_184 : decode cX5_alike 184 = .ok (.invokevirtual 126, 3) := by decide +kernel
theorem dX5_alike_187 : decode cX5_alike 187 = .ok (.iadd, 1) := by decide +kernel
theorem dX5_alike_188 : decode cX5_alike 188 = .ok (.iconst 4, 1) := by decide +kernel
theorem dX5_alike_189 : decode cX5_alike 189 = .ok (.irem, 1) := by decide +kernel
theorem dX5_alike_190 : decode cX5_alike 190 = .ok (.if_icmp .ne 7, 3) := by decide +kernel
theorem dX5_alike_193 : decode cX5_alike 193 = .ok (.iconst 1, 1) := by decide +kernel
theorem dX5_alike_194 : decode cX5_alike 194 = .ok (.goto 4, 3) := by decide +kernel
theorem dX5_alike_197 : decode cX5_alike 197 = .ok (.iconst 0, 1) := by decide +kernel
theorem dX5_alike_198 : decode cX5_alike 198 = .ok (.istore 8, 2) := by decide +kernel
theorem dX5_alike_200 : decode cX5_alike 200 = .ok (.iinc 9 1, 3) := by decide +kernel
theorem dX5_alike_203 : decode cX5_alike 203 = .ok (.goto (-120), 3) := by decide +kernel
theorem dX5_alike_206 : decode cX5_alike 206 = .ok (.iload 4, 2) := by decide +kernel
theorem dX5_alike_208 : decode cX5_alike 208 = .ok (.iload 8, 2) := by decide +kernel
theorem dX5_alike_210 : decode cX5_alike 210 = .ok (.ifCond .eq 8, 3) := by decide +kernel
theorem dX5_alike_213 : decode cX5_alike 213 = .ok (.iload 7, 2) := by decide +kernel
theorem dX5_alike_215 : decode cX5_alike 215 = .ok (.goto 4, 3) := by decide +kernel
theorem dX5_alike_218 : decode cX5_alike 218 = .ok (.iconst 0, 1) := by decide +kernel
theorem dX5_alike_219 : decode cX5_alike 219 = .ok (.iadd, 1) := by decide +kernel
theorem dX5_alike_220 : decode cX5_alike 220 = .ok (.istore 4, 2) := by decide +kernel
theorem dX5_alike_222 : decode cX5_alike 222 = .ok (.iinc 6 1, 3) := by decide +kernel
theorem dX5_alike_225 : decode cX5_alike 225 = .ok (.goto (-168), 3) := by decide +kernel
theorem dX5_alike_228 : decode cX5_alike 228 = .ok (.iload 4, 2) := by decide +kernel
theorem dX5_alike_230 : decode cX5_alike 230 = .ok (.iload 5, 2) := by decide +kernel
theorem dX5_alike_232 : decode cX5_alike 232 = .ok (.invokestatic 171, 3) := by decide +kernel
theorem dX5_alike_235 : decode cX5_alike 235 = .ok (.istore 6, 2) := by decide +kernel
theorem dX5_alike_237 : decode cX5_alike 237 = .ok (.iload_n 2, 1) := by decide +kernel
theorem dX5_alike_238 : decode cX5_alike 238 = .ok (.ifCond .ne 11, 3) := by decide +kernel
theorem dX5_alike_241 : decode cX5_alike 241 = .ok (.iload 4, 2) := by decide +kernel
theorem dX5_alike_243 : decode cX5_alike 243 = .ok (.iload 6, 2) := by decide +kernel
theorem dX5_alike_245 : decode cX5_alike 245 = .ok (.idiv, 1) := by decide +kernel
theorem dX5_alike_246 : decode cX5_alike 246 = .ok (.goto 8, 3) := by decide +kernel
theorem dX5_alike_249 : decode cX5_alike 249 = .ok (.iload 5, 2) := by decide +kernel
theorem dX5_alike_251 : decode cX5_alike 251 = .ok (.iload 6, 2) := by decide +kernel
theorem dX5_alike_253 : decode cX5_alike 253 = .ok (.idiv, 1) := by decide +kernel
theorem dX5_alike_254 : decode cX5_alike 254 = .ok (.ireturn, 1) := by decide +kernel
theorem dX5_right_0 : decode cX5_right 0 = .ok (.aload_n 0, 1) := by decide +kernel
theorem dX5_right_1 : decode cX5_right 1 = .ok (.iload_n 1, 1) := by decide +kernel
theorem dX5_right_2 : decode cX5_right 2 = .ok (.invokevirtual 87, 3) := by decide +kernel
theorem dX5_right_5 : decode cX5_right 5 = .ok (.ifCond .eq 19, 3) := by decide +kernel
theorem dX5_right_8 : decode cX5_right 8 = .ok (.iload_n 2, 1) := by decide +kernel
theorem dX5_right_9 : decode cX5_right 9 = .ok (.invokestatic 130, 3) := by decide +kernel
theorem dX5_right_12 : decode cX5_right 12 = .ok (.ifCond .eq 12, 3) := by decide +kernel
theorem dX5_right_15 : decode cX5_right 15 = .ok (.iload_n 3, 1) := by decide +kernel
theorem dX5_right_16 : decode cX5_right 16 = .ok (.iconst 0, 1) := by decide +kernel
theorem dX5_right_17 : decode cX5_right 17 = .ok (.iconst 1, 1) := by decide +kernel
theorem dX5_right_18 : decode cX5_right 18 = .ok (.invokestatic 45, 3) := by decide +kernel
theorem dX5_right_21 : decode cX5_right 21 = .ok (.ifCond .ne 5, 3) := by decide +kernel
theorem dX5_right_24 : decode cX5_right 24 = .ok (.iconst (-1), 1) := by decide +kernel
theorem dX5_right_25 : decode cX5_right 25 = .ok (.ireturn, 1) := by decide +kernel
theorem dX5_right_26 : decode cX5_right 26 = .ok (.aload_n 0, 1) := by decide +kernel
theorem dX5_right_27 : decode cX5_right 27 = .ok (.iload_n 1, 1) := by decide +kernel
theorem dX5_right_28 : decode cX5_right 28 = .ok (.invokevirtual 114, 3) := by decide +kernel
theorem dX5_right_31 : decode cX5_right 31 = .ok (.istore 4, 2) := by decide +kernel
theorem dX5_right_33 : decode cX5_right 33 = .ok (.aload_n 0, 1) := by decide +kernel
theorem dX5_right_34 : decode cX5_right 34 = .ok (.iload_n 1, 1) := by decide +kernel
theorem dX5_right_35 : decode cX5_right 35 = .ok (.invokevirtual 90, 3) := by decide +kernel
theorem dX5_right_38 : decode cX5_right 38 = .ok (.iload_n 2, 1) := by decide +kernel
theorem dX5_right_39 : decode cX5_right 39 = .ok (.invokestatic 117, 3) := by decide +kernel
theorem dX5_right_42 : decode cX5_right 42 = .ok (.iadd, 1) := by decide +kernel
theorem dX5_right_43 : decode cX5_right 43 = .ok (.iconst 4, 1) := by decide +kernel
theorem dX5_right_44 : decode cX5_right 44 = .ok (.irem, 1) := by decide +kernel
theorem dX5_right_45 : decode cX5_right 45 = .ok (.istore 5, 2) := by decide +kernel
theorem dX5_right_47 : decode cX5_right 47 = .ok (.aload_n 0, 1) := by decide +kernel
theorem dX5_right_48 : decode cX5_right 48 = .ok (.iload 4, 2) := by decide +kernel
theorem dX5_right_50 : decode cX5_right 50 = .ok (.invokevirtual 120, 3) := by decide +kernel
theorem dX5_right_53 : decode cX5_right 53 = .ok (.ifCond .eq 16, 3) := by decide +kernel
theorem dX5_right_56 : decode cX5_right 56 = .ok (.aload_n 0, 1) := by decide +kernel
theorem dX5_right_57 : decode cX5_right 57 = .ok (.getfield 13, 3) := by decide +kernel
theorem dX5_right_60 : decode cX5_right 60 = .ok (.bipush 27, 2) := by decide +kernel
theorem dX5_right_62 : decode cX5_right 62 = .ok (.iload 4, 2) := by decide +kernel
theorem dX5_right_64 : decode cX5_right 64 = .ok (.iadd, 1) := by decide +kernel
theorem dX5_right_65 : decode cX5_right 65 = .ok (.iaload, 1) := by decide +kernel
theorem dX5_right_66 : decode cX5_right 66 = .ok (.goto 4, 3) := by decide +kernel
theorem dX5_right_69 : decode cX5_right 69 = .ok (.iconst 0, 1) := by decide +kernel
theorem dX5_right_70 : decode cX5_right 70 = .ok (.istore 6, 2) := by decide +kernel
theorem dX5_right_72 : decode cX5_right 72 = .ok (.aload_n 0, 1) := by decide +kernel
theorem dX5_right_73 : decode cX5_right 73 = .ok (.getfield 19, 3) := by decide +kernel
theorem dX5_right_76 : decode cX5_right 76 = .ok (.iload_n 1, 1) := by decide +kernel
theorem dX5_right_77 : decode cX5_right 77 = .ok (.iaload, 1) := by decide +kernel
theorem dX5_right_78 : decode cX5_right 78 = .ok (.aload_n 0, 1) := by decide +kernel
theorem dX5_right_79 : decode cX5_right 79 = .ok (.iload_n 1, 1) := by decide +kernel
theorem dX5_right_80 : decode cX5_right 80 = .ok (.iload_n 2, 1) := by decide +kernel
theorem dX5_right_81 : decode cX5_right 81 = .ok (.iconst 0, 1) := by decide +kernel
theorem dX5_right_82 : decode cX5_right 82 = .ok (.invokevirtual 126, 3) := by decide +kernel
theorem dX5_right_85 : decode cX5_right 85 = .ok (.iadd, 1) := by decide +kernel
theorem dX5_right_86 : decode cX5_right 86 = .ok (.iconst 4, 1) := by decide +kernel
theorem dX5_right_87 : decode cX5_right 87 = .ok (.irem, 1) := by decide +kernel
theorem dX5_right_88 : decode cX5_right 88 = .ok (.iload 5, 2) := by decide +kernel
theorem dX5_right_90 : decode cX5_right 90 = .ok (.if_icmp .ne 11, 3) := by decide +kernel
theorem dX5_right_93 : decode cX5_right 93 = .ok (.bipush 10, 2) := by decide +kernel
theorem dX5_right_95 : decode cX5_right 95 = .ok (.iload 6, 2) := by decide +kernel
theorem dX5_right_97 : decode cX5_right 97 = .ok (.isub, 1) := by decide +kernel
theorem dX5_right_98 : decode cX5_right 98 = .ok (.goto 4, 3) := by decide +kernel
theorem dX5_right_101 : decode cX5_right 101 = .ok (.iconst 0, 1) := by decide +kernel
theorem dX5_right_102 : decode cX5_right 102 = .ok (.istore 7, 2) := by decide +kernel
theorem dX5_right_104 : decode cX5_right 104 = .ok (.iload 7, 2) := by decide +kernel
theorem dX5_right_106 : decode cX5_right 106 = .ok (.aload_n 0, 1) := by decide +kernel
theorem dX5_right_107 : decode cX5_right 107 = .ok (.getfield 19, 3) := by decide +kernel
theorem dX5_right_110 : decode cX5_right 110 = .ok (.iload_n 1, 1) := by decide +kernel
theorem dX5_right_111 : decode cX5_right 111 = .ok (.iaload, 1) := by decide +kernel
theorem dX5_right_112 : decode cX5_right 112 = .ok (.aload_n 0, 1) := by decide +kernel
theorem dX5_right_113 : decode cX5_right 113 = .ok (.iload_n 1, 1) := by decide +kernel
theorem dX5_right_114 : decode cX5_right 114 = .ok (.iload_n 2, 1) := by decide +kernel
theorem dX5_right_115 : decode cX5_right 115 = .ok (.sipush 255, 3) := by decide +kernel
theorem dX5_right_118 : decode cX5_right 118 = .ok (.invokevirtual 126, 3) := by decide +kernel
theorem dX5_right_121 : decode cX5_right 121 = .ok (.iadd, 1) := by decide +kernel
theorem dX5_right_122 : decode cX5_right 122 = .ok (.iconst 4, 1) := by decide +kernel
theorem dX5_right_123 : decode cX5_right 123 = .ok (.irem, 1) := by decide +kernel
theorem dX5_right_124 : decode cX5_right 124 = .ok (.iload 5, 2) := by decide +kernel
theorem dX5_right_126 : decode cX5_right 126 = .ok (.if_icmp .ne 8, 3) := by decide +kernel
theorem dX5_right_129 : decode cX5_right 129 = .ok (.iload 6, 2) := by decide +kernel
theorem dX5_right_131 : decode cX5_right 131 = .ok (.goto 4, 3) := by decide +kernel
theorem dX5_right_134 : decode cX5_right 134 = .ok (.iconst 0, 1) := by decide +kernel
theorem dX5_right_135 : decode cX5_right 135 = .ok (.iadd, 1) := by decide +kernel
theorem dX5_right_136 : decode cX5_right 136 = .ok (.istore 7, 2) := by decide +kernel
theorem dX5_right_138 : decode cX5_right 138 = .ok (.iload 7, 2) := by decide +kernel
theorem dX5_right_140 : decode cX5_right 140 = .ok (.bipush 10, 2) := by decide +kernel
theorem dX5_right_142 : decode cX5_right 142 = .ok (.invokestatic 171, 3) := by decide +kernel
theorem dX5_right_145 : decode cX5_right 145 = .ok (.istore 8, 2) := by decide +kernel
theorem dX5_right_147 : decode cX5_right 147 = .ok (.iload_n 3, 1) := by decide +kernel
theorem dX5_right_148 : decode cX5_right 148 = .ok (.ifCond .ne 11, 3) := by decide +kernel
theorem dX5_right_151 : decode cX5_right 151 = .ok (.iload 7, 2) := by decide +kernel
theorem dX5_right_153 : decode cX5_right 153 = .ok (.iload 8, 2) := by decide +kernel
theorem dX5_right_155 : decode cX5_right 155 = .ok (.idiv, 1) := by decide +kernel
theorem dX5_right_156 : decode cX5_right 156 = .ok (.goto 8, 3) := by decide +kernel
theorem dX5_right_159 : decode cX5_right 159 = .ok (.bipush 10, 2) := by decide +kernel
theorem dX5_right_161 : decode cX5_right 161 = .ok (.iload 8, 2) := by decide +kernel
theorem dX5_right_163 : decode cX5_right 163 = .ok (.idiv, 1) := by decide +kernel
theorem dX5_right_164 : decode cX5_right 164 = .ok (.ireturn, 1) := by decide +kernel
theorem dX5_which_0 : decode cX5_which 0 = .ok (.aload_n 0, 1) := by decide +kernel
theorem dX5_which_1 : decode cX5_which 1 = .ok (.iload_n 1, 1) := by decide +kernel
theorem dX5_which_2 : decode cX5_which 2 = .ok (.invokevirtual 87, 3) := by decide +kernel
theorem dX5_which_5 : decode cX5_which 5 = .ok (.ifCond .eq 12, 3) := by decide +kernel
theorem dX5_which_8 : decode cX5_which 8 = .ok (.iload_n 2, 1) := by decide +kernel
theorem dX5_which_9 : decode cX5_which 9 = .ok (.iconst 0, 1) := by decide +kernel
theorem dX5_which_10 : decode cX5_which 10 = .ok (.iconst 3, 1) := by decide +kernel
theorem dX5_which_11 : decode cX5_which 11 = .ok (.invokestatic 45, 3) := by decide +kernel
theorem dX5_which_14 : decode cX5_which 14 = .ok (.ifCond .ne 5, 3) := by decide +kernel
theorem dX5_which_17 : decode cX5_which 17 = .ok (.iconst (-1), 1) := by decide +kernel
theorem dX5_which_18 : decode cX5_which 18 = .ok (.ireturn, 1) := by decide +kernel
theorem dX5_which_19 : decode cX5_which 19 = .ok (.iconst 0, 1) := by decide +kernel
theorem dX5_which_20 : decode cX5_which 20 = .ok (.istore_n 3, 1) := by decide +kernel
theorem dX5_which_21 : decode cX5_which 21 = .ok (.iconst 0, 1) := by decide +kernel
theorem dX5_which_22 : decode cX5_which 22 = .ok (.istore 4, 2) := by decide +kernel
theorem dX5_which_24 : decode cX5_which 24 = .ok (.iload 4, 2) := by decide +kernel
theorem dX5_which_26 : decode cX5_which 26 = .ok (.iconst 3, 1) := by decide +kernel
theorem dX5_which_27 : decode cX5_which 27 = .ok (.if_icmp .ge 31, 3) := by decide +kernel
theorem dX5_which_30 : decode cX5_which 30 = .ok (.iload_n 3, 1) := by decide +kernel
theorem dX5_which_31 : decode cX5_which 31 = .ok (.aload_n 0, 1) := by decide +kernel
theorem dX5_which_32 : decode cX5_which 32 = .ok (.iload_n 1, 1) := by decide +kernel
theorem dX5_which_33 : decode cX5_which 33 = .ok (.iload 4, 2) := by decide +kernel
theorem dX5_which_35 : decode cX5_which 35 = .ok (.invokevirtual 175, 3) := by decide +kernel
theorem dX5_which_38 : decode cX5_which 38 = .ok (.iload_n 2, 1) := by decide +kernel
theorem dX5_which_39 : decode cX5_which 39 = .ok (.if_icmp .ne 10, 3) := by decide +kernel
theorem dX5_which_42 : decode cX5_which 42 = .ok (.iconst 1, 1) := by decide +kernel
theorem dX5_which_43 : decode cX5_which 43 = .ok (.iload 4, 2) := by decide +kernel
theorem dX5_which_45 : decode cX5_which 45 = .ok (.ishl, 1) := by decide +kernel
theorem dX5_which_46 : decode cX5_which 46 = .ok (.goto 4, 3) := by decide +kernel
theorem dX5_which_49 : decode cX5_which 49 = .ok (.iconst 0, 1) := by decide +kernel
theorem dX5_which_50 : decode cX5_which 50 = .ok (.ior, 1) := by decide +kernel
theorem dX5_which_51 : decode cX5_which 51 = .ok (.istore_n 3, 1) := by decide +kernel
theorem dX5_which_52 : decode cX5_which 52 = .ok (.iinc 4 1, 3) := by decide +kernel
theorem dX5_which_55 : decode cX5_which 55 = .ok (.goto (-31), 3) := by decide +kernel
theorem dX5_which_58 : decode cX5_which 58 = .ok (.iload_n 3, 1) := by decide +kernel
theorem dX5_which_59 : decode cX5_which 59 = .ok (.ireturn, 1) := by decide +kernel
theorem dX5_safe_0 : decode cX5_safe 0 = .ok (.aload_n 0, 1) := by decide +kernel
theorem dX5_safe_1 : decode cX5_safe 1 = .ok (.iload_n 1, 1) := by decide +kernel
theorem dX5_safe_2 : decode cX5_safe 2 = .ok (.invokevirtual 87, 3) := by decide +kernel
theorem dX5_safe_5 : decode cX5_safe 5 = .ok (.ifCond .ne 5, 3) := by decide +kernel
theorem dX5_safe_8 : decode cX5_safe 8 = .ok (.iconst (-1), 1) := by decide +kernel
theorem dX5_safe_9 : decode cX5_safe 9 = .ok (.ireturn, 1) := by decide +kernel
theorem dX5_safe_10 : decode cX5_safe 10 = .ok (.bipush (-4), 2) := by decide +kernel
theorem dX5_safe_12 : decode cX5_safe 12 = .ok (.istore_n 2, 1) := by decide +kernel
theorem dX5_safe_13 : decode cX5_safe 13 = .ok (.aload_n 0, 1) := by decide +kernel
theorem dX5_safe_14 : decode cX5_safe 14 = .ok (.iload_n 1, 1) := by decide +kernel
theorem dX5_safe_15 : decode cX5_safe 15 = .ok (.putfield 28, 3) := by decide +kernel
theorem dX5_safe_18 : decode cX5_safe 18 = .ok (.aload_n 0, 1) := by decide +kernel
theorem dX5_safe_19 : decode cX5_safe 19 = .ok (.getfield 13, 3) := by decide +kernel
theorem dX5_safe_22 : decode cX5_safe 22 = .ok (.iconst 0, 1) := by decide +kernel
theorem dX5_safe_23 : decode cX5_safe 23 = .ok (.iaload, 1) := by decide +kernel
theorem dX5_safe_24 : decode cX5_safe 24 = .ok (.iconst 1, 1) := by decide +kernel
theorem dX5_safe_25 : decode cX5_safe 25 = .ok (.isub, 1) := by decide +kernel
theorem dX5_safe_26 : decode cX5_safe 26 = .ok (.istore_n 3, 1) := by decide +kernel
theorem dX5_safe_27 : decode cX5_safe 27 = .ok (.iload_n 3, 1) := by decide +kernel
theorem dX5_safe_28 : decode cX5_safe 28 = .ok (.ifCond .lt 62, 3) := by decide +kernel
theorem dX5_safe_31 : decode cX5_safe 31 = .ok (.aload_n 0, 1) := by decide +kernel
theorem dX5_safe_32 : decode cX5_safe 32 = .ok (.iload_n 3, 1) := by decide +kernel
theorem dX5_safe_33 : decode cX5_safe 33 = .ok (.putfield 96, 3) := by decide +kernel
theorem dX5_safe_36 : decode cX5_safe 36 = .ok (.iload_n 3, 1) := by decide +kernel
theorem dX5_safe_37 : decode cX5_safe 37 = .ok (.iload_n 1, 1) := by decide +kernel
theorem dX5_safe_38 : decode cX5_safe 38 = .ok (.if_icmp .ne 8, 3) := by decide +kernel
theorem dX5_safe_41 : decode cX5_safe 41 = .ok (.bipush (-4), 2) := by decide +kernel
theorem dX5_safe_43 : decode cX5_safe 43 = .ok (.goto 8, 3) := by decide +kernel
theorem dX5_safe_46 : decode cX5_safe 46 = .ok (.aload_n 0, 1) := by decide +kernel
theorem dX5_safe_47 : decode cX5_safe 47 = .ok (.iload_n 1, 1) := by decide +kernel
theorem dX5_safe_48 : decode cX5_safe 48 = .ok (.invokevirtual 99, 3) := by decide +kernel
theorem dX5_safe_51 : decode cX5_safe 51 = .ok (.istore 4, 2) := by decide +kernel
theorem dX5_safe_53 : decode cX5_safe 53 = .ok (.iload 4, 2) := by decide +kernel
theorem dX5_safe_55 : decode cX5_safe 55 = .ok (.bipush (-4), 2) := by decide +kernel
theorem dX5_safe_57 : decode cX5_safe 57 = .ok (.if_icmp .eq 25, 3) := by decide +kernel
theorem dX5_safe_60 : decode cX5_safe 60 = .ok (.iload 4, 2) := by decide +kernel
theorem dX5_safe_62 : decode cX5_safe 62 = .ok (.iload_n 1, 1) := by decide +kernel
theorem dX5_safe_63 : decode cX5_safe 63 = .ok (.if_icmp .eq 19, 3) := by decide +kernel
theorem dX5_safe_66 : decode cX5_safe 66 = .ok (.aload_n 0, 1) := by decide +kernel
theorem dX5_safe_67 : decode cX5_safe 67 = .ok (.getfield 13, 3) := by decide +kernel
theorem dX5_safe_70 : decode cX5_safe 70 = .ok (.iconst 3, 1) := by decide +kernel
theorem dX5_safe_71 : decode cX5_safe 71 = .ok (.iload 4, 2) := by decide +kernel
theorem dX5_safe_73 : decode cX5_safe 73 = .ok (.iadd, 1) := by decide +kernel
theorem dX5_safe_74 : decode cX5_safe 74 = .ok (.iaload, 1) := by decide +kernel
theorem dX5_safe_75 : decode cX5_safe 75 = .ok (.ifCond .ne 7, 3) := by decide +kernel
theorem dX5_safe_78 : decode cX5_safe 78 = .ok (.iload_n 3, 1) := by decide +kernel
theorem dX5_safe_79 : decode cX5_safe 79 = .ok (.goto 4, 3) := by decide +kernel
theorem dX5_safe_82 : decode cX5_safe 82 = .ok (.iload_n 2, 1) := by decide +kernel
theorem dX5_safe_83 : decode cX5_safe 83 = .ok (.istore_n 2, 1) := by decide +kernel
theorem dX5_safe_84 : decode cX5_safe 84 = .ok (.iinc 3 (-1), 3) := by decide +kernel
theorem dX5_safe_87 : decode cX5_safe 87 = .ok (.goto (-60), 3) := by decide +kernel
theorem dX5_safe_90 : decode cX5_safe 90 = .ok (.aload_n 0, 1) := by decide +kernel
theorem dX5_safe_91 : decode cX5_safe 91 = .ok (.iconst (-1), 1) := by decide +kernel
theorem dX5_safe_92 : decode cX5_safe 92 = .ok (.putfield 28, 3) := by decide +kernel
theorem dX5_safe_95 : decode cX5_safe 95 = .ok (.iload_n 2, 1) := by decide +kernel
theorem dX5_safe_96 : decode cX5_safe 96 = .ok (.ireturn, 1) := by decide +kernel
theorem dX5_numbers_0 : decode cX5_numbers 0 = .ok (.iload_n 1, 1) := by decide +kernel
theorem dX5_numbers_1 : decode cX5_numbers 1 = .ok (.iconst 1, 1) := by decide +kernel
theorem dX5_numbers_2 : decode cX5_numbers 2 = .ok (.iconst 5, 1) := by decide +kernel
theorem dX5_numbers_3 : decode cX5_numbers 3 = .ok (.invokestatic 45, 3) := by decide +kernel
theorem dX5_numbers_6 : decode cX5_numbers 6 = .ok (.ifCond .eq 11, 3) := by decide +kernel
theorem dX5_numbers_9 : decode cX5_numbers 9 = .ok (.aload_n 0, 1) := by decide +kernel
theorem dX5_numbers_10 : decode cX5_numbers 10 = .ok (.iload_n 1, 1) := by decide +kernel
theorem dX5_numbers_11 : decode cX5_numbers 11 = .ok (.invokevirtual 165, 3) := by decide +kernel
theorem dX5_numbers_14 : decode cX5_numbers 14 = .ok (.goto 4, 3) := by decide +kernel
theorem dX5_numbers_17 : decode cX5_numbers 17 = .ok (.iconst (-1), 1) := by decide +kernel
theorem dX5_numbers_18 : decode cX5_numbers 18 = .ok (.ireturn, 1) := by decide +kernel
theorem dX5_drill_0 : decode cX5_drill 0 = .ok (.iload_n 1, 1) := by decide +kernel
theorem dX5_drill_1 : decode cX5_drill 1 = .ok (.iconst 0, 1) := by decide +kernel
theorem dX5_drill_2 : decode cX5_drill 2 = .ok (.sipush 9999, 3) := by decide +kernel
theorem dX5_drill_5 : decode cX5_drill 5 = .ok (.invokestatic 45, 3) := by decide +kernel
theorem dX5_drill_8 : decode cX5_drill 8 = .ok (.ifCond .eq 22, 3) := by decide +kernel
theorem dX5_drill_11 : decode cX5_drill 11 = .ok (.iload_n 2, 1) := by decide +kernel
theorem dX5_drill_12 : decode cX5_drill 12 = .ok (.iconst 1, 1) := by decide +kernel
theorem dX5_drill_13 : decode cX5_drill 13 = .ok (.bipush 60, 2) := by decide +kernel
theorem dX5_drill_15 : decode cX5_drill 15 = .ok (.invokestatic 45, 3) := by decide +kernel
theorem dX5_drill_18 : decode cX5_drill 18 = .ok (.ifCond .eq 12, 3) := by decide +kernel
theorem dX5_drill_21 : decode cX5_drill 21 = .ok (.iload_n 3, 1) := by decide +kernel
theorem dX5_drill_22 : decode cX5_drill 22 = .ok (.iconst 0, 1) := by decide +kernel
theorem dX5_drill_23 : decode cX5_drill 23 = .ok (.iconst 1, 1) := by decide +kernel
theorem dX5_drill_24 : decode cX5_drill 24 = .ok (.invokestatic 45, 3) := by decide +kernel
theorem dX5_drill_27 : decode cX5_drill 27 = .ok (.ifCond .ne 5, 3) := by decide +kernel
theorem dX5_drill_30 : decode cX5_drill 30 = .ok (.iconst (-1), 1) := by decide +kernel
theorem dX5_drill_31 : decode cX5_drill 31 = .ok (.ireturn, 1) := by decide +kernel
theorem dX5_drill_32 : decode cX5_drill 32 = .ok (.aload_n 0, 1) := by decide +kernel
theorem dX5_drill_33 : decode cX5_drill 33 = .ok (.invokevirtual 153, 3) := by decide +kernel
theorem dX5_drill_36 : decode cX5_drill 36 = .ok (.iconst 0, 1) := by decide +kernel
theorem dX5_drill_37 : decode cX5_drill 37 = .ok (.istore 4, 2) := by decide +kernel
theorem dX5_drill_39 : decode cX5_drill 39 = .ok (.iconst 0, 1) := by decide +kernel
theorem dX5_drill_40 : decode cX5_drill 40 = .ok (.istore 5, 2) := by decide +kernel
theorem dX5_drill_42 : decode cX5_drill 42 = .ok (.iload 5, 2) := by decide +kernel
theorem dX5_drill_44 : decode cX5_drill 44 = .ok (.iload_n 2, 1) := by decide +kernel
theorem dX5_drill_45 : decode cX5_drill 45 = .ok (.if_icmp .ge 56, 3) := by decide +kernel
theorem dX5_drill_48 : decode cX5_drill 48 = .ok (.aload_n 0, 1) := by decide +kernel
theorem dX5_drill_49 : decode cX5_drill 49 = .ok (.ldc2_w 104, 3) := by decide +kernel
theorem dX5_drill_52 : decode cX5_drill 52 = .ok (.iload_n 1, 1) := by decide +kernel
theorem dX5_drill_53 : decode cX5_drill 53 = .ok (.i2l, 1) := by decide +kernel
theorem dX5_drill_54 : decode cX5_drill 54 = .ok (.lmul, 1) := by decide +kernel
theorem dX5_drill_55 : decode cX5_drill 55 = .ok (.ldc2_w 106, 3) := by decide +kernel
theorem dX5_drill_58 : decode cX5_drill 58 = .ok (.iload 5, 2) := by decide +kernel
theorem dX5_drill_60 : decode cX5_drill 60 = .ok (.i2l, 1) := by decide +kernel
theorem dX5_drill_61 : decode cX5_drill 61 = .ok (.lmul, 1) := by decide +kernel
theorem dX5_drill_62 : decode cX5_drill 62 = .ok (.ladd, 1) := by decide +kernel
theorem dX5_drill_63 : decode cX5_drill 63 = .ok (.lconst 1, 1) := by decide +kernel
theorem dX5_drill_64 : decode cX5_drill 64 = .ok (.ladd, 1) := by decide +kernel
theorem dX5_drill_65 : decode cX5_drill 65 = .ok (.invokestatic 110, 3) := by decide +kernel
theorem dX5_drill_68 : decode cX5_drill 68 = .ok (.iconst 3, 1) := by decide +kernel
theorem dX5_drill_69 : decode cX5_drill 69 = .ok (.irem, 1) := by decide +kernel
theorem dX5_drill_70 : decode cX5_drill 70 = .ok (.aload_n 0, 1) := by decide +kernel
theorem dX5_drill_71 : decode cX5_drill 71 = .ok (.iconst 0, 1) := by decide +kernel
theorem dX5_drill_72 : decode cX5_drill 72 = .ok (.invokevirtual 136, 3) := by decide +kernel
theorem dX5_drill_75 : decode cX5_drill 75 = .ok (.invokevirtual 140, 3) := by decide +kernel
theorem dX5_drill_78 : decode cX5_drill 78 = .ok (.iload 4, 2) := by decide +kernel
theorem dX5_drill_80 : decode cX5_drill 80 = .ok (.aload_n 0, 1) := by decide +kernel
theorem dX5_drill_81 : decode cX5_drill 81 = .ok (.invokevirtual 156, 3) := by decide +kernel
theorem dX5_drill_84 : decode cX5_drill 84 = .ok (.ifCond .eq 7, 3) := by decide +kernel
theorem dX5_drill_87 : decode cX5_drill 87 = .ok (.iconst 1, 1) := by decide +kernel
theorem dX5_drill_88 : decode cX5_drill 88 = .ok (.goto 4, 3) := by decide +kernel
theorem dX5_drill_91 : decode cX5_drill 91 = .ok (.iconst 0, 1) := by decide +kernel
theorem dX5_drill_92 : decode cX5_drill 92 = .ok (.iadd, 1) := by decide +kernel
theorem dX5_drill_93 : decode cX5_drill 93 = .ok (.istore 4, 2) := by decide +kernel
theorem dX5_drill_95 : decode cX5_drill 95 = .ok (.iinc 5 1, 3) := by decide +kernel
theorem dX5_drill_98 : decode cX5_drill 98 = .ok (.goto (-56), 3) := by decide +kernel
theorem dX5_drill_101 : decode cX5_drill 101 = .ok (.aload_n 0, 1) := by decide +kernel
theorem dX5_drill_102 : decode cX5_drill 102 = .ok (.invokevirtual 144, 3) := by decide +kernel
theorem dX5_drill_105 : decode cX5_drill 105 = .ok (.invokestatic 147, 3) := by decide +kernel
theorem dX5_drill_108 : decode cX5_drill 108 = .ok (.istore 5, 2) := by decide +kernel
theorem dX5_drill_110 : decode cX5_drill 110 = .ok (.aload_n 0, 1) := by decide +kernel
theorem dX5_drill_111 : decode cX5_drill 111 = .ok (.invokevirtual 162, 3) := by decide +kernel
theorem dX5_drill_114 : decode cX5_drill 114 = .ok (.iload_n 3, 1) := by decide +kernel
theorem dX5_drill_115 : decode cX5_drill 115 = .ok (.ifCond .ne 8, 3) := by decide +kernel
theorem dX5_drill_118 : decode cX5_drill 118 = .ok (.iload 5, 2) := by decide +kernel
theorem dX5_drill_120 : decode cX5_drill 120 = .ok (.goto 5, 3) := by decide +kernel
theorem dX5_drill_123 : decode cX5_drill 123 = .ok (.iload 4, 2) := by decide +kernel
theorem dX5_drill_125 : decode cX5_drill 125 = .ok (.ireturn, 1) := by decide +kernel
theorem dX5_keep_0 : decode cX5_keep 0 = .ok (.aload_n 0, 1) := by decide +kernel
theorem dX5_keep_1 : decode cX5_keep 1 = .ok (.getfield 84, 3) := by decide +kernel
theorem dX5_keep_4 : decode cX5_keep 4 = .ok (.iconst 2, 1) := by decide +kernel
theorem dX5_keep_5 : decode cX5_keep 5 = .ok (.if_icmp .ne 6, 3) := by decide +kernel
theorem dX5_keep_8 : decode cX5_keep 8 = .ok (.bipush (-3), 2) := by decide +kernel
theorem dX5_keep_10 : decode cX5_keep 10 = .ok (.ireturn, 1) := by decide +kernel
theorem dX5_keep_11 : decode cX5_keep 11 = .ok (.iconst 0, 1) := by decide +kernel
theorem dX5_keep_12 : decode cX5_keep 12 = .ok (.istore_n 1, 1) := by decide +kernel
theorem dX5_keep_13 : decode cX5_keep 13 = .ok (.iload_n 1, 1) := by decide +kernel
theorem dX5_keep_14 : decode cX5_keep 14 = .ok (.bipush 22, 2) := by decide +kernel
theorem dX5_keep_16 : decode cX5_keep 16 = .ok (.if_icmp .ge 29, 3) := by decide +kernel
theorem dX5_keep_19 : decode cX5_keep 19 = .ok (.aload_n 0, 1) := by decide +kernel
theorem dX5_keep_20 : decode cX5_keep 20 = .ok (.getfield 25, 3) := by decide +kernel
theorem dX5_keep_23 : decode cX5_keep 23 = .ok (.bipush 22, 2) := by decide +kernel
theorem dX5_keep_25 : decode cX5_keep 25 = .ok (.aload_n 0, 1) := by decide +kernel
theorem dX5_keep_26 : decode cX5_keep 26 = .ok (.getfield 84, 3) := by decide +kernel
theorem dX5_keep_29 : decode cX5_keep 29 = .ok (.imul, 1) := by decide +kernel
theorem dX5_keep_30 : decode cX5_keep 30 = .ok (.iload_n 1, 1) := by decide +kernel
theorem dX5_keep_31 : decode cX5_keep 31 = .ok (.iadd, 1) := by decide +kernel
theorem dX5_keep_32 : decode cX5_keep 32 = .ok (.aload_n 0, 1) := by decide +kernel
theorem dX5_keep_33 : decode cX5_keep 33 = .ok (.getfield 19, 3) := by decide +kernel
theorem dX5_keep_36 : decode cX5_keep 36 = .ok (.iload_n 1, 1) := by decide +kernel
theorem dX5_keep_37 : decode cX5_keep 37 = .ok (.iaload, 1) := by decide +kernel
theorem dX5_keep_38 : decode cX5_keep 38 = .ok (.iastore, 1) := by decide +kernel
theorem dX5_keep_39 : decode cX5_keep 39 = .ok (.iinc 1 1, 3) := by decide +kernel
theorem dX5_keep_42 : decode cX5_keep 42 = .ok (.goto (-29), 3) := by decide +kernel
theorem dX5_keep_45 : decode cX5_keep 45 = .ok (.aload_n 0, 1) := by decide +kernel
theorem dX5_keep_46 : decode cX5_keep 46 = .ok (.dup, 1) := by decide +kernel
theorem dX5_keep_47 : decode cX5_keep 47 = .ok (.getfield 84, 3) := by decide +kernel
theorem dX5_keep_50 : decode cX5_keep 50 = .ok (.iconst 1, 1) := by decide +kernel
theorem dX5_keep_51 : decode cX5_keep 51 = .ok (.iadd, 1) := by decide +kernel
theorem dX5_keep_52 : decode cX5_keep 52 = .ok (.putfield 84, 3) := by decide +kernel
theorem dX5_keep_55 : decode cX5_keep 55 = .ok (.aload_n 0, 1) := by decide +kernel
theorem dX5_keep_56 : decode cX5_keep 56 = .ok (.getfield 84, 3) := by decide +kernel
theorem dX5_keep_59 : decode cX5_keep 59 = .ok (.ireturn, 1) := by decide +kernel
theorem dX5_back_0 : decode cX5_back 0 = .ok (.aload_n 0, 1) := by decide +kernel
theorem dX5_back_1 : decode cX5_back 1 = .ok (.getfield 84, 3) := by decide +kernel
theorem dX5_back_4 : decode cX5_back 4 = .ok (.ifCond .ne 6, 3) := by decide +kernel
theorem dX5_back_7 : decode cX5_back 7 = .ok (.bipush (-2), 2) := by decide +kernel
theorem dX5_back_9 : decode cX5_back 9 = .ok (.ireturn, 1) := by decide +kernel
theorem dX5_back_10 : decode cX5_back 10 = .ok (.aload_n 0, 1) := by decide +kernel
theorem dX5_back_11 : decode cX5_back 11 = .ok (.dup, 1) := by decide +kernel
theorem dX5_back_12 : decode cX5_back 12 = .ok (.getfield 84, 3) := by decide +kernel
theorem dX5_back_15 : decode cX5_back 15 = .ok (.iconst 1, 1) := by decide +kernel
theorem dX5_back_16 : decode cX5_back 16 = .ok (.isub, 1) := by decide +kernel
theorem dX5_back_17 : decode cX5_back 17 = .ok (.putfield 84, 3) := by decide +kernel
theorem dX5_back_20 : decode cX5_back 20 = .ok (.iconst 0, 1) := by decide +kernel
theorem dX5_back_21 : decode cX5_back 21 = .ok (.istore_n 1, 1) := by decide +kernel
theorem dX5_back_22 : decode cX5_back 22 = .ok (.iload_n 1, 1) := by decide +kernel
theorem dX5_back_23 : decode cX5_back 23 = .ok (.bipush 22, 2) := by decide +kernel
theorem dX5_back_25 : decode cX5_back 25 = .ok (.if_icmp .ge 29, 3) := by decide +kernel
theorem dX5_back_28 : decode cX5_back 28 = .ok (.aload_n 0, 1) := by decide +kernel
theorem dX5_back_29 : decode cX5_back 29 = .ok (.getfield 19, 3) := by decide +kernel
theorem dX5_back_32 : decode cX5_back 32 = .ok (.iload_n 1, 1) := by decide +kernel
theorem dX5_back_33 : decode cX5_back 33 = .ok (.aload_n 0, 1) := by decide +kernel
theorem dX5_back_34 : decode cX5_back 34 = .ok (.getfield 25, 3) := by decide +kernel
theorem dX5_back_37 : decode cX5_back 37 = .ok (.bipush 22, 2) := by decide +kernel
theorem dX5_back_39 : decode cX5_back 39 = .ok (.aload_n 0, 1) := by decide +kernel
theorem dX5_back_40 : decode cX5_back 40 = .ok (.getfield 84, 3) := by decide +kernel
theorem dX5_back_43 : decode cX5_back 43 = .ok (.imul, 1) := by decide +kernel
theorem dX5_back_44 : decode cX5_back 44 = .ok (.iload_n 1, 1) := by decide +kernel
theorem dX5_back_45 : decode cX5_back 45 = .ok (.iadd, 1) := by decide +kernel
theorem dX5_back_46 : decode cX5_back 46 = .ok (.iaload, 1) := by decide +kernel
theorem dX5_back_47 : decode cX5_back 47 = .ok (.iastore, 1) := by decide +kernel
theorem dX5_back_48 : decode cX5_back 48 = .ok (.iinc 1 1, 3) := by decide +kernel
theorem dX5_back_51 : decode cX5_back 51 = .ok (.goto (-29), 3) := by decide +kernel
theorem dX5_back_54 : decode cX5_back 54 = .ok (.aload_n 0, 1) := by decide +kernel
theorem dX5_back_55 : decode cX5_back 55 = .ok (.iconst 0, 1) := by decide +kernel
theorem dX5_back_56 : decode cX5_back 56 = .ok (.putfield 81, 3) := by decide +kernel
theorem dX5_back_59 : decode cX5_back 59 = .ok (.aload_n 0, 1) := by decide +kernel
theorem dX5_back_60 : decode cX5_back 60 = .ok (.getfield 84, 3) := by decide +kernel
theorem dX5_back_63 : decode cX5_back 63 = .ok (.ireturn, 1) := by decide +kernel
theorem dX5_count_0 : decode cX5_count 0 = .ok (.iload_n 1, 1) := by decide +kernel
theorem dX5_count_1 : decode cX5_count 1 = .ok (.tableswitch 77 0 5 #[39, 46, 54, 62, 67, 72], 39) := by decide +kernel
theorem dX5_count_40 : decode cX5_count 40 = .ok (.aload_n 0, 1) := by decide +kernel
theorem dX5_count_41 : decode cX5_count 41 = .ok (.getfield 13, 3) := by decide +kernel
theorem dX5_count_44 : decode cX5_count 44 = .ok (.iconst 0, 1) := by decide +kernel
theorem dX5_count_45 : decode cX5_count 45 = .ok (.iaload, 1) := by decide +kernel
theorem dX5_count_46 : decode cX5_count 46 = .ok (.ireturn, 1) := by decide +kernel
theorem dX5_count_47 : decode cX5_count 47 = .ok (.aload_n 0, 1) := by decide +kernel
theorem dX5_count_48 : decode cX5_count 48 = .ok (.getfield 19, 3) := by decide +kernel
theorem dX5_count_51 : decode cX5_count 51 = .ok (.bipush 17, 2) := by decide +kernel
theorem dX5_count_53 : decode cX5_count 53 = .ok (.iaload, 1) := by decide +kernel
theorem dX5_count_54 : decode cX5_count 54 = .ok (.ireturn, 1) := by decide +kernel
theorem dX5_count_55 : decode cX5_count 55 = .ok (.aload_n 0, 1) := by decide +kernel
theorem dX5_count_56 : decode cX5_count 56 = .ok (.getfield 19, 3) := by decide +kernel
theorem dX5_count_59 : decode cX5_count 59 = .ok (.bipush 16, 2) := by decide +kernel
theorem dX5_count_61 : decode cX5_count 61 = .ok (.iaload, 1) := by decide +kernel
theorem dX5_count_62 : decode cX5_count 62 = .ok (.ireturn, 1) := by decide +kernel
theorem dX5_count_63 : decode cX5_count 63 = .ok (.aload_n 0, 1) := by decide +kernel
theorem dX5_count_64 : decode cX5_count 64 = .ok (.getfield 81, 3) := by decide +kernel
theorem dX5_count_67 : decode cX5_count 67 = .ok (.ireturn, 1) := by decide +kernel
theorem dX5_count_68 : decode cX5_count 68 = .ok (.aload_n 0, 1) := by decide +kernel
theorem dX5_count_69 : decode cX5_count 69 = .ok (.getfield 84, 3) := by decide +kernel
theorem dX5_count_72 : decode cX5_count 72 = .ok (.ireturn, 1) := by decide +kernel
theorem dX5_count_73 : decode cX5_count 73 = .ok (.aload_n 0, 1) := by decide +kernel
theorem dX5_count_74 : decode cX5_count 74 = .ok (.getfield 49, 3) := by decide +kernel
theorem dX5_count_77 : decode cX5_count 77 = .ok (.ireturn, 1) := by decide +kernel
theorem dX5_count_78 : decode cX5_count 78 = .ok (.iconst (-1), 1) := by decide +kernel
theorem dX5_count_79 : decode cX5_count 79 = .ok (.ireturn, 1) := by decide +kernel
end
section
theorem dJ0_length_8abf5_0 : decode cJ0_length_8abf5 0 = .ok (.aload_n 0, 1) := by decide +kernel
theorem dJ0_length_8abf5_1 : decode cJ0_length_8abf5 1 = .ok (.getfield 9, 3) := by decide +kernel
theorem dJ0_length_8abf5_4 : decode cJ0_length_8abf5 4 = .ok (.arraylength, 1) := by decide +kernel
theorem dJ0_length_8abf5_5 : decode cJ0_length_8abf5 5 = .ok (.aload_n 0, 1) := by decide +kernel
theorem dJ0_length_8abf5_6 : decode cJ0_length_8abf5 6 = .ok (.invokevirtual 335, 3) := by decide +kernel
theorem dJ0_length_8abf5_9 : decode cJ0_length_8abf5 9 = .ok (.ishr, 1) := by decide +kernel
theorem dJ0_length_8abf5_10 : decode cJ0_length_8abf5 10 = .ok (.ireturn, 1) := by decide +kernel
theorem dJ0_charAt_5068e_0 : decode cJ0_charAt_5068e 0 = .ok (.aload_n 0, 1) := by decide +kernel
theorem dJ0_charAt_5068e_1 : decode cJ0_charAt_5068e 1 = .ok (.invokevirtual 492, 3) := by decide +kernel
theorem dJ0_charAt_5068e_4 : decode cJ0_charAt_5068e 4 = .ok (.ifCond .eq 12, 3) := by decide +kernel
theorem dJ0_charAt_5068e_7 : decode cJ0_charAt_5068e 7 = .ok (.aload_n 0, 1) := by decide +kernel
theorem dJ0_charAt_5068e_8 : decode cJ0_charAt_5068e 8 = .ok (.getfield 9, 3) := by decide +kernel
theorem dJ0_charAt_5068e_11 : decode cJ0_charAt_5068e 11 = .ok (.iload_n 1, 1) := by decide +kernel
theorem dJ0_charAt_5068e_12 : decode cJ0_charAt_5068e 12 = .ok (.invokestatic 495, 3) := by decide +kernel
theorem dJ0_charAt_5068e_15 : decode cJ0_charAt_5068e 15 = .ok (.ireturn, 1) := by decide +kernel
theorem dJ0_charAt_5068e_16 : decode cJ0_charAt_5068e 16 = .ok (.aload_n 0, 1) := by decide +kernel
theorem dJ0_charAt_5068e_17 : decode cJ0_charAt_5068e 17 = .ok (.getfield 9, 3) := by decide +kernel
theorem dJ0_charAt_5068e_20 : decode cJ0_charAt_5068e 20 = .ok (.iload_n 1, 1) := by decide +kernel
theorem dJ0_charAt_5068e_21 : decode cJ0_charAt_5068e 21 = .ok (.invokestatic 498, 3) := by decide +kernel
theorem dJ0_charAt_5068e_24 : decode cJ0_charAt_5068e 24 = .ok (.ireturn, 1) := by decide +kernel
theorem dJ0_coder_7d493_0 : decode cJ0_coder_7d493 0 = .ok (.getstatic 38, 3) := by decide +kernel
theorem dJ0_coder_7d493_3 : decode cJ0_coder_7d493 3 = .ok (.ifCond .eq 10, 3) := by decide +kernel
theorem dJ0_coder_7d493_6 : decode cJ0_coder_7d493 6 = .ok (.aload_n 0, 1) := by decide +kernel
theorem dJ0_coder_7d493_7 : decode cJ0_coder_7d493 7 = .ok (.getfield 15, 3) := by decide +kernel
theorem dJ0_coder_7d493_10 : decode cJ0_coder_7d493 10 = .ok (.goto 4, 3) := by decide +kernel
theorem dJ0_coder_7d493_13 : decode cJ0_coder_7d493 13 = .ok (.iconst 1, 1) := by decide +kernel
theorem dJ0_coder_7d493_14 : decode cJ0_coder_7d493 14 = .ok (.ireturn, 1) := by decide +kernel
theorem dJ0_isLatin1_aae02_0 : decode cJ0_isLatin1_aae02 0 = .ok (.getstatic 38, 3) := by decide +kernel
theorem dJ0_isLatin1_aae02_3 : decode cJ0_isLatin1_aae02 3 = .ok (.ifCond .eq 14, 3) := by decide +kernel
theorem dJ0_isLatin1_aae02_6 : decode cJ0_isLatin1_aae02 6 = .ok (.aload_n 0, 1) := by decide +kernel
theorem dJ0_isLatin1_aae02_7 : decode cJ0_isLatin1_aae02 7 = .ok (.getfield 15, 3) := by decide +kernel
theorem dJ0_isLatin1_aae02_10 : decode cJ0_isLatin1_aae02 10 = .ok (.ifCond .ne 7, 3) := by decide +kernel
theorem dJ0_isLatin1_aae02_13 : decode cJ0_isLatin1_aae02 13 = .ok (.iconst 1, 1) := by decide +kernel
theorem dJ0_isLatin1_aae02_14 : decode cJ0_isLatin1_aae02 14 = .ok (.goto 4, 3) := by decide +kernel
theorem dJ0_isLatin1_aae02_17 : decode cJ0_isLatin1_aae02 17 = .ok (.iconst 0, 1) := by decide +kernel
theorem dJ0_isLatin1_aae02_18 : decode cJ0_isLatin1_aae02 18 = .ok (.ireturn, 1) := by decide +kernel
theorem dJ0_checkIndex_df160_0 : decode cJ0_checkIndex_df160 0 = .ok (.iload_n 0, 1) := by decide +kernel
theorem dJ0_checkIndex_df160_1 : decode cJ0_checkIndex_df160 1 = .ok (.iload_n 1, 1) := by decide +kernel
theorem dJ0_checkIndex_df160_2 : decode cJ0_checkIndex_df160 2 = .ok (.getstatic 1053, 3) := by decide +kernel
theorem dJ0_checkIndex_df160_5 : decode cJ0_checkIndex_df160 5 = .ok (.invokestatic 1059, 3) := by decide +kernel
theorem dJ0_checkIndex_df160_8 : decode cJ0_checkIndex_df160 8 = .ok (.pop, 1) := by decide +kernel
theorem dJ0_checkIndex_df160_9 : decode cJ0_checkIndex_df160 9 = .ok (.return_, 1) := by decide +kernel
theorem dJ1_charAt_3b067_0 : decode cJ1_charAt_3b067 0 = .ok (.iload_n 1, 1) := by decide +kernel
theorem dJ1_charAt_3b067_1 : decode cJ1_charAt_3b067 1 = .ok (.aload_n 0, 1) := by decide +kernel
theorem dJ1_charAt_3b067_2 : decode cJ1_charAt_3b067 2 = .ok (.arraylength, 1) := by decide +kernel
theorem dJ1_charAt_3b067_3 : decode cJ1_charAt_3b067 3 = .ok (.invokestatic 9, 3) := by decide +kernel
theorem dJ1_charAt_3b067_6 : decode cJ1_charAt_3b067 6 = .ok (.aload_n 0, 1) := by decide +kernel
theorem dJ1_charAt_3b067_7 : decode cJ1_charAt_3b067 7 = .ok (.iload_n 1, 1) := by decide +kernel
theorem dJ1_charAt_3b067_8 : decode cJ1_charAt_3b067 8 = .ok (.baload, 1) := by decide +kernel
theorem dJ1_charAt_3b067_9 : decode cJ1_charAt_3b067 9 = .ok (.sipush 255, 3) := by decide +kernel
theorem dJ1_charAt_3b067_12 : decode cJ1_charAt_3b067 12 = .ok (.iand, 1) := by decide +kernel
theorem dJ1_charAt_3b067_13 : decode cJ1_charAt_3b067 13 = .ok (.i2c, 1) := by decide +kernel
theorem dJ1_charAt_3b067_14 : decode cJ1_charAt_3b067 14 = .ok (.ireturn, 1) := by decide +kernel
theorem dJ2_getChar_3b067_0 : decode cJ2_getChar_3b067 0 = .ok (.getstatic 44, 3) := by decide +kernel
theorem dJ2_getChar_3b067_3 : decode cJ2_getChar_3b067 3 = .ok (.ifCond .ne 25, 3) := by decide +kernel
theorem dJ2_getChar_3b067_6 : decode cJ2_getChar_3b067 6 = .ok (.iload_n 1, 1) := by decide +kernel
theorem dJ2_getChar_3b067_7 : decode cJ2_getChar_3b067 7 = .ok (.ifCond .lt 11, 3) := by decide +kernel
theorem dJ2_getChar_3b067_10 : decode cJ2_getChar_3b067 10 = .ok (.iload_n 1, 1) := by decide +kernel
theorem dJ2_getChar_3b067_11 : decode cJ2_getChar_3b067 11 = .ok (.aload_n 0, 1) := by decide +kernel
theorem dJ2_getChar_3b067_12 : decode cJ2_getChar_3b067 12 = .ok (.invokestatic 48, 3) := by decide +kernel
theorem dJ2_getChar_3b067_15 : decode cJ2_getChar_3b067 15 = .ok (.if_icmp .lt 13, 3) := by decide +kernel
theorem dJ2_getChar_3b067_18 : decode cJ2_getChar_3b067 18 = .ok (.new 52, 3) := by decide +kernel
theorem dJ2_getChar_3b067_21 : decode cJ2_getChar_3b067 21 = .ok (.dup, 1) := by decide +kernel
theorem dJ2_getChar_3b067_22 : decode cJ2_getChar_3b067 22 = .ok (.ldc 54, 2) := by decide +kernel
theorem dJ2_getChar_3b067_24 : decode cJ2_getChar_3b067 24 = .ok (.invokespecial 56, 3) := by decide +kernel
theorem dJ2_getChar_3b067_27 : decode cJ2_getChar_3b067 27 = .ok (.athrow, 1) := by decide +kernel
theorem dJ2_getChar_3b067_28 : decode cJ2_getChar_3b067 28 = .ok (.iload_n 1, 1) := by decide +kernel
theorem dJ2_getChar_3b067_29 : decode cJ2_getChar_3b067 29 = .ok (.iconst 1, 1) := by decide +kernel
theorem dJ2_getChar_3b067_30 : decode cJ2_getChar_3b067 30 = .ok (.ishl, 1) := by decide +kernel
theorem dJ2_getChar_3b067_31 : decode cJ2_getChar_3b067 31 = .ok (.istore_n 1, 1) := by decide +kernel
theorem dJ2_getChar_3b067_32 : decode cJ2_getChar_3b067 32 = .ok (.aload_n 0, 1) := by decide +kernel
theorem dJ2_getChar_3b067_33 : decode cJ2_getChar_3b067 33 = .ok (.iload_n 1, 1) := by decide +kernel
theorem dJ2_getChar_3b067_34 : decode cJ2_getChar_3b067 34 = .ok (.iinc 1 1, 3) := by decide +kernel
theorem dJ2_getChar_3b067_37 : decode cJ2_getChar_3b067 37 = .ok (.baload, 1) := by decide +kernel
theorem dJ2_getChar_3b067_38 : decode cJ2_getChar_3b067 38 = .ok (.sipush 255, 3) := by decide +kernel
theorem dJ2_getChar_3b067_41 : decode cJ2_getChar_3b067 41 = .ok (.iand, 1) := by decide +kernel
theorem dJ2_getChar_3b067_42 : decode cJ2_getChar_3b067 42 = .ok (.getstatic 59, 3) := by decide +kernel
theorem dJ2_getChar_3b067_45 : decode cJ2_getChar_3b067 45 = .ok (.ishl, 1) := by decide +kernel
theorem dJ2_getChar_3b067_46 : decode cJ2_getChar_3b067 46 = .ok (.aload_n 0, 1) := by decide +kernel
theorem dJ2_getChar_3b067_47 : decode cJ2_getChar_3b067 47 = .ok (.iload_n 1, 1) := by decide +kernel
theorem dJ2_getChar_3b067_48 : decode cJ2_getChar_3b067 48 = .ok (.baload, 1) := by decide +kernel
theorem dJ2_getChar_3b067_49 : decode cJ2_getChar_3b067 49 = .ok (.sipush 255, 3) := by decide +kernel
theorem dJ2_getChar_3b067_52 : decode cJ2_getChar_3b067 52 = .ok (.iand, 1) := by decide +kernel
theorem dJ2_getChar_3b067_53 : decode cJ2_getChar_3b067 53 = .ok (.getstatic 63, 3) := by decide +kernel
theorem dJ2_getChar_3b067_56 : decode cJ2_getChar_3b067 56 = .ok (.ishl, 1) := by decide +kernel
theorem dJ2_getChar_3b067_57 : decode cJ2_getChar_3b067 57 = .ok (.ior, 1) := by decide +kernel
theorem dJ2_getChar_3b067_58 : decode cJ2_getChar_3b067 58 = .ok (.i2c, 1) := by decide +kernel
theorem dJ2_getChar_3b067_59 : decode cJ2_getChar_3b067 59 = .ok (.ireturn, 1) := by decide +kernel
theorem dJ2_length_9d52b_0 : decode cJ2_length_9d52b 0 = .ok (.aload_n 0, 1) := by decide +kernel
theorem dJ2_length_9d52b_1 : decode cJ2_length_9d52b 1 = .ok (.arraylength, 1) := by decide +kernel
theorem dJ2_length_9d52b_2 : decode cJ2_length_9d52b 2 = .ok (.iconst 1, 1) := by decide +kernel
theorem dJ2_length_9d52b_3 : decode cJ2_length_9d52b 3 = .ok (.ishr, 1) := by decide +kernel
theorem dJ2_length_9d52b_4 : decode cJ2_length_9d52b 4 = .ok (.ireturn, 1) := by decide +kernel
theorem dJ2_charAt_3b067_0 : decode cJ2_charAt_3b067 0 = .ok (.iload_n 1, 1) := by decide +kernel
theorem dJ2_charAt_3b067_1 : decode cJ2_charAt_3b067 1 = .ok (.aload_n 0, 1) := by decide +kernel
theorem dJ2_charAt_3b067_2 : decode cJ2_charAt_3b067 2 = .ok (.invokestatic 67, 3) := by decide +kernel
theorem dJ2_charAt_3b067_5 : decode cJ2_charAt_3b067 5 = .ok (.aload_n 0, 1) := by decide +kernel
theorem dJ2_charAt_3b067_6 : decode cJ2_charAt_3b067 6 = .ok (.iload_n 1, 1) := by decide +kernel
theorem dJ2_charAt_3b067_7 : decode cJ2_charAt_3b067 7 = .ok (.invokestatic 71, 3) := by decide +kernel
theorem dJ2_charAt_3b067_10 : decode cJ2_charAt_3b067 10 = .ok (.ireturn, 1) := by decide +kernel
theorem dJ2_checkIndex_2214a_0 : decode cJ2_checkIndex_2214a 0 = .ok (.iload_n 0, 1) := by decide +kernel
theorem dJ2_checkIndex_2214a_1 : decode cJ2_checkIndex_2214a 1 = .ok (.aload_n 1, 1) := by decide +kernel
theorem dJ2_checkIndex_2214a_2 : decode cJ2_checkIndex_2214a 2 = .ok (.invokestatic 48, 3) := by decide +kernel
theorem dJ2_checkIndex_2214a_5 : decode cJ2_checkIndex_2214a 5 = .ok (.invokestatic 414, 3) := by decide +kernel
theorem dJ2_checkIndex_2214a_8 : decode cJ2_checkIndex_2214a 8 = .ok (.return_, 1) := by decide +kernel
theorem dJ3_checkIndex_8e157_0 : decode cJ3_checkIndex_8e157 0 = .ok (.iload_n 0, 1) := by decide +kernel
theorem dJ3_checkIndex_8e157_1 : decode cJ3_checkIndex_8e157 1 = .ok (.ifCond .lt 8, 3) := by decide +kernel
theorem dJ3_checkIndex_8e157_4 : decode cJ3_checkIndex_8e157 4 = .ok (.iload_n 0, 1) := by decide +kernel
theorem dJ3_checkIndex_8e157_5 : decode cJ3_checkIndex_8e157 5 = .ok (.iload_n 1, 1) := by decide +kernel
theorem dJ3_checkIndex_8e157_6 : decode cJ3_checkIndex_8e157 6 = .ok (.if_icmp .lt 10, 3) := by decide +kernel
theorem dJ3_checkIndex_8e157_9 : decode cJ3_checkIndex_8e157 9 = .ok (.aload_n 2, 1) := by decide +kernel
theorem dJ3_checkIndex_8e157_10 : decode cJ3_checkIndex_8e157 10 = .ok (.iload_n 0, 1) := by decide +kernel
theorem dJ3_checkIndex_8e157_11 : decode cJ3_checkIndex_8e157 11 = .ok (.iload_n 1, 1) := by decide +kernel
theorem dJ3_checkIndex_8e157_12 : decode cJ3_checkIndex_8e157 12 = .ok (.invokestatic 95, 3) := by decide +kernel
theorem dJ3_checkIndex_8e157_15 : decode cJ3_checkIndex_8e157 15 = .ok (.athrow, 1) := by decide +kernel
theorem dJ3_checkIndex_8e157_16 : decode cJ3_checkIndex_8e157 16 = .ok (.iload_n 0, 1) := by decide +kernel
theorem dJ3_checkIndex_8e157_17 : decode cJ3_checkIndex_8e157 17 = .ok (.ireturn, 1) := by decide +kernel
theorem dJ6_bitCount_0f7a4_0 : decode cJ6_bitCount_0f7a4 0 = .ok (.iload_n 0, 1) := by decide +kernel
theorem dJ6_bitCount_0f7a4_1 : decode cJ6_bitCount_0f7a4 1 = .ok (.iload_n 0, 1) := by decide +kernel
theorem dJ6_bitCount_0f7a4_2 : decode cJ6_bitCount_0f7a4 2 = .ok (.iconst 1, 1) := by decide +kernel
theorem dJ6_bitCount_0f7a4_3 : decode cJ6_bitCount_0f7a4 3 = .ok (.iushr, 1) := by decide +kernel
theorem dJ6_bitCount_0f7a4_4 : decode cJ6_bitCount_0f7a4 4 = .ok (.ldc_w 265, 3) := by decide +kernel
theorem dJ6_bitCount_0f7a4_7 : decode cJ6_bitCount_0f7a4 7 = .ok (.iand, 1) := by decide +kernel
theorem dJ6_bitCount_0f7a4_8 : decode cJ6_bitCount_0f7a4 8 = .ok (.isub, 1) := by decide +kernel
theorem dJ6_bitCount_0f7a4_9 : decode cJ6_bitCount_0f7a4 9 = .ok (.istore_n 0, 1) := by decide +kernel
theorem dJ6_bitCount_0f7a4_10 : decode cJ6_bitCount_0f7a4 10 = .ok (.iload_n 0, 1) := by decide +kernel
theorem dJ6_bitCount_0f7a4_11 : decode cJ6_bitCount_0f7a4 11 = .ok (.ldc_w 266, 3) := by decide +kernel
theorem dJ6_bitCount_0f7a4_14 : decode cJ6_bitCount_0f7a4 14 = .ok (.iand, 1) := by decide +kernel
theorem dJ6_bitCount_0f7a4_15 : decode cJ6_bitCount_0f7a4 15 = .ok (.iload_n 0, 1) := by decide +kernel
theorem dJ6_bitCount_0f7a4_16 : decode cJ6_bitCount_0f7a4 16 = .ok (.iconst 2, 1) := by decide +kernel
theorem dJ6_bitCount_0f7a4_17 : decode cJ6_bitCount_0f7a4 17 = .ok (.iushr, 1) := by decide +kernel
theorem dJ6_bitCount_0f7a4_18 : decode cJ6_bitCount_0f7a4 18 = .ok (.ldc_w 266, 3) := by decide +kernel
theorem dJ6_bitCount_0f7a4_21 : decode cJ6_bitCount_0f7a4 21 = .ok (.iand, 1) := by decide +kernel
theorem dJ6_bitCount_0f7a4_22 : decode cJ6_bitCount_0f7a4 22 = .ok (.iadd, 1) := by decide +kernel
theorem dJ6_bitCount_0f7a4_23 : decode cJ6_bitCount_0f7a4 23 = .ok (.istore_n 0, 1) := by decide +kernel
theorem dJ6_bitCount_0f7a4_24 : decode cJ6_bitCount_0f7a4 24 = .ok (.iload_n 0, 1) := by decide +kernel
theorem dJ6_bitCount_0f7a4_25 : decode cJ6_bitCount_0f7a4 25 = .ok (.iload_n 0, 1) := by decide +kernel
theorem dJ6_bitCount_0f7a4_26 : decode cJ6_bitCount_0f7a4 26 = .ok (.iconst 4, 1) := by decide +kernel
theorem dJ6_bitCount_0f7a4_27 : decode cJ6_bitCount_0f7a4 27 = .ok (.iushr, 1) := by decide +kernel
theorem dJ6_bitCount_0f7a4_28 : decode cJ6_bitCount_0f7a4 28 = .ok (.iadd, 1) := by decide +kernel
theorem dJ6_bitCount_0f7a4_29 : decode cJ6_bitCount_0f7a4 29 = .ok (.ldc_w 267, 3) := by decide +kernel
theorem dJ6_bitCount_0f7a4_32 : decode cJ6_bitCount_0f7a4 32 = .ok (.iand, 1) := by decide +kernel
theorem dJ6_bitCount_0f7a4_33 : decode cJ6_bitCount_0f7a4 33 = .ok (.istore_n 0, 1) := by decide +kernel
theorem dJ6_bitCount_0f7a4_34 : decode cJ6_bitCount_0f7a4 34 = .ok (.iload_n 0, 1) := by decide +kernel
theorem dJ6_bitCount_0f7a4_35 : decode cJ6_bitCount_0f7a4 35 = .ok (.iload_n 0, 1) := by decide +kernel
theorem dJ6_bitCount_0f7a4_36 : decode cJ6_bitCount_0f7a4 36 = .ok (.bipush 8, 2) := by decide +kernel
theorem dJ6_bitCount_0f7a4_38 : decode cJ6_bitCount_0f7a4 38 = .ok (.iushr, 1) := by decide +kernel
theorem dJ6_bitCount_0f7a4_39 : decode cJ6_bitCount_0f7a4 39 = .ok (.iadd, 1) := by decide +kernel
theorem dJ6_bitCount_0f7a4_40 : decode cJ6_bitCount_0f7a4 40 = .ok (.istore_n 0, 1) := by decide +kernel
theorem dJ6_bitCount_0f7a4_41 : decode cJ6_bitCount_0f7a4 41 = .ok (.iload_n 0, 1) := by decide +kernel
theorem dJ6_bitCount_0f7a4_42 : decode cJ6_bitCount_0f7a4 42 = .ok (.iload_n 0, 1) := by decide +kernel
theorem dJ6_bitCount_0f7a4_43 : decode cJ6_bitCount_0f7a4 43 = .ok (.bipush 16, 2) := by decide +kernel
theorem dJ6_bitCount_0f7a4_45 : decode cJ6_bitCount_0f7a4 45 = .ok (.iushr, 1) := by decide +kernel
theorem dJ6_bitCount_0f7a4_46 : decode cJ6_bitCount_0f7a4 46 = .ok (.iadd, 1) := by decide +kernel
theorem dJ6_bitCount_0f7a4_47 : decode cJ6_bitCount_0f7a4 47 = .ok (.istore_n 0, 1) := by decide +kernel
theorem dJ6_bitCount_0f7a4_48 : decode cJ6_bitCount_0f7a4 48 = .ok (.iload_n 0, 1) := by decide +kernel
theorem dJ6_bitCount_0f7a4_49 : decode cJ6_bitCount_0f7a4 49 = .ok (.bipush 63, 2) := by decide +kernel
theorem dJ6_bitCount_0f7a4_51 : decode cJ6_bitCount_0f7a4 51 = .ok (.iand, 1) := by decide +kernel
theorem dJ6_bitCount_0f7a4_52 : decode cJ6_bitCount_0f7a4 52 = .ok (.ireturn, 1) := by decide +kernel
theorem dJ9_max_7cf53_0 : decode cJ9_max_7cf53 0 = .ok (.iload_n 0, 1) := by decide +kernel
theorem dJ9_max_7cf53_1 : decode cJ9_max_7cf53 1 = .ok (.iload_n 1, 1) := by decide +kernel
theorem dJ9_max_7cf53_2 : decode cJ9_max_7cf53 2 = .ok (.if_icmp .lt 7, 3) := by decide +kernel
theorem dJ9_max_7cf53_5 : decode cJ9_max_7cf53 5 = .ok (.iload_n 0, 1) := by decide +kernel
theorem dJ9_max_7cf53_6 : decode cJ9_max_7cf53 6 = .ok (.goto 4, 3) := by decide +kernel
theorem dJ9_max_7cf53_9 : decode cJ9_max_7cf53 9 = .ok (.iload_n 1, 1) := by decide +kernel
theorem dJ9_max_7cf53_10 : decode cJ9_max_7cf53 10 = .ok (.ireturn, 1) := by decide +kernel
theorem dX0_init_0 : decode cX0_init 0 = .ok (.aload_n 0, 1) := by decide +kernel
theorem dX0_init_1 : decode cX0_init 1 = .ok (.invokespecial 1, 3) := by decide +kernel
theorem dX0_init_4 : decode cX0_init 4 = .ok (.aload_n 0, 1) := by decide +kernel
theorem dX0_init_5 : decode cX0_init 5 = .ok (.iload_n 1, 1) := by decide +kernel
theorem dX0_init_6 : decode cX0_init 6 = .ok (.iconst 1, 1) := by decide +kernel
theorem dX0_init_7 : decode cX0_init 7 = .ok (.invokestatic 7, 3) := by decide +kernel
theorem dX0_init_10 : decode cX0_init 10 = .ok (.anewarray 13, 3) := by decide +kernel
theorem dX0_init_13 : decode cX0_init 13 = .ok (.putfield 15, 3) := by decide +kernel
theorem dX0_init_16 : decode cX0_init 16 = .ok (.iconst 0, 1) := by decide +kernel
theorem dX0_init_17 : decode cX0_init 17 = .ok (.istore_n 2, 1) := by decide +kernel
theorem dX0_init_18 : decode cX0_init 18 = .ok (.iload_n 2, 1) := by decide +kernel
theorem dX0_init_19 : decode cX0_init 19 = .ok (.aload_n 0, 1) := by decide +kernel
theorem dX0_init_20 : decode cX0_init 20 = .ok (.getfield 15, 3) := by decide +kernel
theorem dX0_init_23 : decode cX0_init 23 = .ok (.arraylength, 1) := by decide +kernel
theorem dX0_init_24 : decode cX0_init 24 = .ok (.if_icmp .ge 22, 3) := by decide +kernel
theorem dX0_init_27 : decode cX0_init 27 = .ok (.aload_n 0, 1) := by decide +kernel
theorem dX0_init_28 : decode cX0_init 28 = .ok (.getfield 15, 3) := by decide +kernel
theorem dX0_init_31 : decode cX0_init 31 = .ok (.iload_n 2, 1) := by decide +kernel
theorem dX0_init_32 : decode cX0_init 32 = .ok (.new 13, 3) := by decide +kernel
theorem dX0_init_35 : decode cX0_init 35 = .ok (.dup, 1) := by decide +kernel
theorem dX0_init_36 : decode cX0_init 36 = .ok (.invokespecial 21, 3) := by decide +kernel
theorem dX0_init_39 : decode cX0_init 39 = .ok (.aastore, 1) := by decide +kernel
theorem dX0_init_40 : decode cX0_init 40 = .ok (.iinc 2 1, 3) := by decide +kernel
theorem dX0_init_43 : decode cX0_init 43 = .ok (.goto (-25), 3) := by decide +kernel
theorem dX0_init_46 : decode cX0_init 46 = .ok (.return_, 1) := by decide +kernel
theorem dX0_put_0 : decode cX0_put 0 = .ok (.aload_n 0, 1) := by decide +kernel
theorem dX0_put_1 : decode cX0_put 1 = .ok (.getfield 22, 3) := by decide +kernel
theorem dX0_put_4 : decode cX0_put 4 = .ok (.aload_n 0, 1) := by decide +kernel
theorem dX0_put_5 : decode cX0_put 5 = .ok (.getfield 15, 3) := by decide +kernel
theorem dX0_put_8 : decode cX0_put 8 = .ok (.arraylength, 1) := by decide +kernel
theorem dX0_put_9 : decode cX0_put 9 = .ok (.if_icmp .lt 7, 3) := by decide +kernel
theorem dX0_put_12 : decode cX0_put 12 = .ok (.aload_n 0, 1) := by decide +kernel
theorem dX0_put_13 : decode cX0_put 13 = .ok (.invokevirtual 26, 3) := by decide +kernel
theorem dX0_put_16 : decode cX0_put 16 = .ok (.aload_n 0, 1) := by decide +kernel
theorem dX0_put_17 : decode cX0_put 17 = .ok (.getfield 15, 3) := by decide +kernel
theorem dX0_put_20 : decode cX0_put 20 = .ok (.aload_n 0, 1) := by decide +kernel
theorem dX0_put_21 : decode cX0_put 21 = .ok (.getfield 22, 3) := by decide +kernel
theorem dX0_put_24 : decode cX0_put 24 = .ok (.aaload, 1) := by decide +kernel
theorem dX0_put_25 : decode cX0_put 25 = .ok (.aload_n 1, 1) := by decide +kernel
theorem dX0_put_26 : decode cX0_put 26 = .ok (.invokevirtual 29, 3) := by decide +kernel
theorem dX0_put_29 : decode cX0_put 29 = .ok (.aload_n 0, 1) := by decide +kernel
theorem dX0_put_30 : decode cX0_put 30 = .ok (.dup, 1) := by decide +kernel
theorem dX0_put_31 : decode cX0_put 31 = .ok (.getfield 22, 3) := by decide +kernel
theorem dX0_put_34 : decode cX0_put 34 = .ok (.iconst 1, 1) := by decide +kernel
theorem dX0_put_35 : decode cX0_put 35 = .ok (.iadd, 1) := by decide +kernel
theorem dX0_put_36 : decode cX0_put 36 = .ok (.putfield 22, 3) := by decide +kernel
theorem dX0_put_39 : decode cX0_put 39 = .ok (.return_, 1) := by decide +kernel
theorem dX0_loseOldest_0 : decode cX0_loseOldest 0 = .ok (.aload_n 0, 1) := by decide +kernel
theorem dX0_loseOldest_1 : decode cX0_loseOldest 1 = .ok (.getfield 15, 3) := by decide +kernel
theorem dX0_loseOldest_4 : decode cX0_loseOldest 4 = .ok (.iconst 0, 1) := by decide +kernel
theorem dX0_loseOldest_5 : decode cX0_loseOldest 5 = .ok (.aaload, 1) := by decide +kernel
theorem dX0_loseOldest_6 : decode cX0_loseOldest 6 = .ok (.astore_n 1, 1) := by decide +kernel
theorem dX0_loseOldest_7 : decode cX0_loseOldest 7 = .ok (.iconst 1, 1) := by decide +kernel
theorem dX0_loseOldest_8 : decode cX0_loseOldest 8 = .ok (.istore_n 2, 1) := by decide +kernel
theorem dX0_loseOldest_9 : decode cX0_loseOldest 9 = .ok (.iload_n 2, 1) := by decide +kernel
theorem dX0_loseOldest_10 : decode cX0_loseOldest 10 = .ok (.aload_n 0, 1) := by decide +kernel
theorem dX0_loseOldest_11 : decode cX0_loseOldest 11 = .ok (.getfield 15, 3) := by decide +kernel
theorem dX0_loseOldest_14 : decode cX0_loseOldest 14 = .ok (.arraylength, 1) := by decide +kernel
theorem dX0_loseOldest_15 : decode cX0_loseOldest 15 = .ok (.if_icmp .ge 23, 3) := by decide +kernel
theorem dX0_loseOldest_18 : decode cX0_loseOldest 18 = .ok (.aload_n 0, 1) := by decide +kernel
theorem dX0_loseOldest_19 : decode cX0_loseOldest 19 = .ok (.getfield 15, 3) := by decide +kernel
theorem dX0_loseOldest_22 : decode cX0_loseOldest 22 = .ok (.iload_n 2, 1) := by decide +kernel
theorem dX0_loseOldest_23 : decode cX0_loseOldest 23 = .ok (.iconst 1, 1) := by decide +kernel
theorem dX0_loseOldest_24 : decode cX0_loseOldest 24 = .ok (.isub, 1) := by decide +kernel
theorem dX0_loseOldest_25 : decode cX0_loseOldest 25 = .ok (.aload_n 0, 1) := by decide +kernel
theorem dX0_loseOldest_26 : decode cX0_loseOldest 26 = .ok (.getfield 15, 3) := by decide +kernel
theorem dX0_loseOldest_29 : decode cX0_loseOldest 29 = .ok (.iload_n 2, 1) := by decide +kernel
theorem dX0_loseOldest_30 : decode cX0_loseOldest 30 = .ok (.aaload, 1) := by decide +kernel
theorem dX0_loseOldest_31 : decode cX0_loseOldest 31 = .ok (.aastore, 1) := by decide +kernel
theorem dX0_loseOldest_32 : decode cX0_loseOldest 32 = .ok (.iinc 2 1, 3) := by decide +kernel
theorem dX0_loseOldest_35 : decode cX0_loseOldest 35 = .ok (.goto (-26), 3) := by decide +kernel
theorem dX0_loseOldest_38 : decode cX0_loseOldest 38 = .ok (.aload_n 0, 1) := by decide +kernel
theorem dX0_loseOldest_39 : decode cX0_loseOldest 39 = .ok (.getfield 15, 3) := by decide +kernel
theorem dX0_loseOldest_42 : decode cX0_loseOldest 42 = .ok (.aload_n 0, 1) := by decide +kernel
theorem dX0_loseOldest_43 : decode cX0_loseOldest 43 = .ok (.getfield 15, 3) := by decide +kernel
theorem dX0_loseOldest_46 : decode cX0_loseOldest 46 = .ok (.arraylength, 1) := by decide +kernel
theorem dX0_loseOldest_47 : decode cX0_loseOldest 47 = .ok (.iconst 1, 1) := by decide +kernel
theorem dX0_loseOldest_48 : decode cX0_loseOldest 48 = .ok (.isub, 1) := by decide +kernel
theorem dX0_loseOldest_49 : decode cX0_loseOldest 49 = .ok (.aload_n 1, 1) := by decide +kernel
theorem dX0_loseOldest_50 : decode cX0_loseOldest 50 = .ok (.aastore, 1) := by decide +kernel
theorem dX0_loseOldest_51 : decode cX0_loseOldest 51 = .ok (.aload_n 0, 1) := by decide +kernel
theorem dX0_loseOldest_52 : decode cX0_loseOldest 52 = .ok (.aload_n 0, 1) := by decide +kernel
theorem dX0_loseOldest_53 : decode cX0_loseOldest 53 = .ok (.getfield 15, 3) := by decide +kernel
theorem dX0_loseOldest_56 : decode cX0_loseOldest 56 = .ok (.arraylength, 1) := by decide +kernel
theorem dX0_loseOldest_57 : decode cX0_loseOldest 57 = .ok (.iconst 1, 1) := by decide +kernel
theorem dX0_loseOldest_58 : decode cX0_loseOldest 58 = .ok (.isub, 1) := by decide +kernel
theorem dX0_loseOldest_59 : decode cX0_loseOldest 59 = .ok (.putfield 22, 3) := by decide +kernel
theorem dX0_loseOldest_62 : decode cX0_loseOldest 62 = .ok (.return_, 1) := by decide +kernel
theorem dX0_takeTop_0 : decode cX0_takeTop 0 = .ok (.aload_n 0, 1) := by decide +kernel
theorem dX0_takeTop_1 : decode cX0_takeTop 1 = .ok (.getfield 22, 3) := by decide +kernel
theorem dX0_takeTop_4 : decode cX0_takeTop 4 = .ok (.ifCond .gt 5, 3) := by decide +kernel
theorem dX0_takeTop_7 : decode cX0_takeTop 7 = .ok (.iconst 0, 1) := by decide +kernel
theorem dX0_takeTop_8 : decode cX0_takeTop 8 = .ok (.ireturn, 1) := by decide +kernel
theorem dX0_takeTop_9 : decode cX0_takeTop 9 = .ok (.aload_n 0, 1) := by decide +kernel
theorem dX0_takeTop_10 : decode cX0_takeTop 10 = .ok (.dup, 1) := by decide +kernel
theorem dX0_takeTop_11 : decode cX0_takeTop 11 = .ok (.getfield 22, 3) := by decide +kernel
theorem dX0_takeTop_14 : decode cX0_takeTop 14 = .ok (.iconst 1, 1) := by decide +kernel
theorem dX0_takeTop_15 : decode cX0_takeTop 15 = .ok (.isub, 1) := by decide +kernel
theorem dX0_takeTop_16 : decode cX0_takeTop 16 = .ok (.putfield 22, 3) := by decide +kernel
theorem dX0_takeTop_19 : decode cX0_takeTop 19 = .ok (.aload_n 1, 1) := by decide +kernel
theorem dX0_takeTop_20 : decode cX0_takeTop 20 = .ok (.aload_n 0, 1) := by decide +kernel
theorem dX0_takeTop_21 : decode cX0_takeTop 21 = .ok (.getfield 15, 3) := by decide +kernel
theorem dX0_takeTop_24 : decode cX0_takeTop 24 = .ok (.aload_n 0, 1) := by decide +kernel
theorem dX0_takeTop_25 : decode cX0_takeTop 25 = .ok (.getfield 22, 3) := by decide +kernel
theorem dX0_takeTop_28 : decode cX0_takeTop 28 = .ok (.aaload, 1) := by decide +kernel
theorem dX0_takeTop_29 : decode cX0_takeTop 29 = .ok (.invokevirtual 29, 3) := by decide +kernel
theorem dX0_takeTop_32 : decode cX0_takeTop 32 = .ok (.iconst 1, 1) := by decide +kernel
theorem dX0_takeTop_33 : decode cX0_takeTop 33 = .ok (.ireturn, 1) := by decide +kernel
theorem dX1_init_0 : decode cX1_init 0 = .ok (.aload_n 0, 1) := by decide +kernel
theorem dX1_init_1 : decode cX1_init 1 = .ok (.invokespecial 3, 3) := by decide +kernel
theorem dX1_init_4 : decode cX1_init 4 = .ok (.aload_n 0, 1) := by decide +kernel
theorem dX1_init_5 : decode cX1_init 5 = .ok (.sipush 200, 3) := by decide +kernel
theorem dX1_init_8 : decode cX1_init 8 = .ok (.newarray .char, 2) := by decide +kernel
theorem dX1_init_10 : decode cX1_init 10 = .ok (.putfield 9, 3) := by decide +kernel
theorem dX1_init_13 : decode cX1_init 13 = .ok (.aload_n 0, 1) := by decide +kernel
theorem dX1_init_14 : decode cX1_init 14 = .ok (.iconst 4, 1) := by decide +kernel
theorem dX1_init_15 : decode cX1_init 15 = .ok (.newarray .int, 2) := by decide +kernel
theorem dX1_init_17 : decode cX1_init 17 = .ok (.putfield 15, 3) := by decide +kernel
theorem dX1_init_20 : decode cX1_init 20 = .ok (.return_, 1) := by decide +kernel
theorem dX1_add_0 : decode cX1_add 0 = .ok (.aload_n 0, 1) := by decide +kernel
theorem dX1_add_1 : decode cX1_add 1 = .ok (.getfield 19, 3) := by decide +kernel
theorem dX1_add_4 : decode cX1_add 4 = .ok (.aload_n 0, 1) := by decide +kernel
theorem dX1_add_5 : decode cX1_add 5 = .ok (.getfield 9, 3) := by decide +kernel
theorem dX1_add_8 : decode cX1_add 8 = .ok (.arraylength, 1) := by decide +kernel
theorem dX1_add_9 : decode cX1_add 9 = .ok (.if_icmp .lt 5, 3) := by decide +kernel
theorem dX1_add_12 : decode cX1_add 12 = .ok (.iconst 0, 1) := by decide +kernel
theorem dX1_add_13 : decode cX1_add 13 = .ok (.ireturn, 1) := by decide +kernel
theorem dX1_add_14 : decode cX1_add 14 = .ok (.aload_n 0, 1) := by decide +kernel
theorem dX1_add_15 : decode cX1_add 15 = .ok (.getfield 9, 3) := by decide +kernel
theorem dX1_add_18 : decode cX1_add 18 = .ok (.aload_n 0, 1) := by decide +kernel
theorem dX1_add_19 : decode cX1_add 19 = .ok (.getfield 19, 3) := by decide +kernel
theorem dX1_add_22 : decode cX1_add 22 = .ok (.iload_n 1, 1) := by decide +kernel
theorem dX1_add_23 : decode cX1_add 23 = .ok (.castore, 1) := by decide +kernel
theorem dX1_add_24 : decode cX1_add 24 = .ok (.aload_n 0, 1) := by decide +kernel
theorem dX1_add_25 : decode cX1_add 25 = .ok (.dup, 1) := by decide +kernel
theorem dX1_add_26 : decode cX1_add 26 = .ok (.getfield 19, 3) := by decide +kernel
theorem dX1_add_29 : decode cX1_add 29 = .ok (.iconst 1, 1) := by decide +kernel
theorem dX1_add_30 : decode cX1_add 30 = .ok (.iadd, 1) := by decide +kernel
theorem dX1_add_31 : decode cX1_add 31 = .ok (.putfield 19, 3) := by decide +kernel
theorem dX1_add_34 : decode cX1_add 34 = .ok (.iconst 1, 1) := by decide +kernel
theorem dX1_add_35 : decode cX1_add 35 = .ok (.ireturn, 1) := by decide +kernel
theorem dX1_clear_0 : decode cX1_clear 0 = .ok (.aload_n 0, 1) := by decide +kernel
theorem dX1_clear_1 : decode cX1_clear 1 = .ok (.iconst 0, 1) := by decide +kernel
theorem dX1_clear_2 : decode cX1_clear 2 = .ok (.putfield 19, 3) := by decide +kernel
theorem dX1_clear_5 : decode cX1_clear 5 = .ok (.return_, 1) := by decide +kernel
theorem dX1_readInto_0 : decode cX1_readInto 0 = .ok (.aload_n 1, 1) := by decide +kernel
theorem dX1_readInto_1 : decode cX1_readInto 1 = .ok (.invokevirtual 23, 3) := by decide +kernel
theorem dX1_readInto_4 : decode cX1_readInto 4 = .ok (.iconst 0, 1) := by decide +kernel
theorem dX1_readInto_5 : decode cX1_readInto 5 = .ok (.istore_n 2, 1) := by decide +kernel
theorem dX1_readInto_6 : decode cX1_readInto 6 = .ok (.iconst 0, 1) := by decide +kernel
theorem dX1_readInto_7 : decode cX1_readInto 7 = .ok (.istore_n 3, 1) := by decide +kernel
theorem dX1_readInto_8 : decode cX1_readInto 8 = .ok (.iload_n 3, 1) := by decide +kernel
theorem dX1_readInto_9 : decode cX1_readInto 9 = .ok (.sipush 200, 3) := by decide +kernel
theorem dX1_readInto_12 : decode cX1_readInto 12 = .ok (.if_icmp .ge 36, 3) := by decide +kernel
theorem dX1_readInto_15 : decode cX1_readInto 15 = .ok (.iload_n 2, 1) := by decide +kernel
theorem dX1_readInto_16 : decode cX1_readInto 16 = .ok (.aload_n 0, 1) := by decide +kernel
theorem dX1_readInto_17 : decode cX1_readInto 17 = .ok (.getfield 19, 3) := by decide +kernel
theorem dX1_readInto_20 : decode cX1_readInto 20 = .ok (.if_icmp .ge 28, 3) := by decide +kernel
theorem dX1_readInto_23 : decode cX1_readInto 23 = .ok (.aload_n 0, 1) := by decide +kernel
theorem dX1_readInto_24 : decode cX1_readInto 24 = .ok (.iload_n 2, 1) := by decide +kernel
theorem dX1_readInto_25 : decode cX1_readInto 25 = .ok (.aload_n 1, 1) := by decide +kernel
theorem dX1_readInto_26 : decode cX1_readInto 26 = .ok (.invokevirtual 28, 3) := by decide +kernel
theorem dX1_readInto_29 : decode cX1_readInto 29 = .ok (.istore 4, 2) := by decide +kernel
theorem dX1_readInto_31 : decode cX1_readInto 31 = .ok (.iload 4, 2) := by decide +kernel
theorem dX1_readInto_33 : decode cX1_readInto 33 = .ok (.iconst (-1), 1) := by decide +kernel
theorem dX1_readInto_34 : decode cX1_readInto 34 = .ok (.if_icmp .ne 5, 3) := by decide +kernel
theorem dX1_readInto_37 : decode cX1_readInto 37 = .ok (.iload_n 2, 1) := by decide +kernel
theorem dX1_readInto_38 : decode cX1_readInto 38 = .ok (.ireturn, 1) := by decide +kernel
theorem dX1_readInto_39 : decode cX1_readInto 39 = .ok (.iload 4, 2) := by decide +kernel
theorem dX1_readInto_41 : decode cX1_readInto 41 = .ok (.istore_n 2, 1) := by decide +kernel
theorem dX1_readInto_42 : decode cX1_readInto 42 = .ok (.iinc 3 1, 3) := by decide +kernel
theorem dX1_readInto_45 : decode cX1_readInto 45 = .ok (.goto (-37), 3) := by decide +kernel
theorem dX1_readInto_48 : decode cX1_readInto 48 = .ok (.bipush (-4), 2) := by decide +kernel
theorem dX1_readInto_50 : decode cX1_readInto 50 = .ok (.ireturn, 1) := by decide +kernel
theorem dX1_readItem_0 : decode cX1_readItem 0 = .ok (.aload_n 0, 1) := by decide +kernel
theorem dX1_readItem_1 : decode cX1_readItem 1 = .ok (.getfield 9, 3) := by decide +kernel
theorem dX1_readItem_4 : decode cX1_readItem 4 = .ok (.iload_n 1, 1) := by decide +kernel
theorem dX1_readItem_5 : decode cX1_readItem 5 = .ok (.caload, 1) := by decide +kernel
theorem dX1_readItem_6 : decode cX1_readItem 6 = .ok (.istore_n 3, 1) := by decide +kernel
theorem dX1_readItem_7 : decode cX1_readItem 7 = .ok (.iload_n 3, 1) := by decide +kernel
theorem dX1_readItem_8 : decode cX1_readItem 8 = .ok (.invokestatic 32, 3) := by decide +kernel
theorem dX1_readItem_11 : decode cX1_readItem 11 = .ok (.istore 4, 2) := by decide +kernel
theorem dX1_readItem_13 : decode cX1_readItem 13 = .ok (.iload 4, 2) := by decide +kernel
theorem dX1_readItem_15 : decode cX1_readItem 15 = .ok (.ifCond .ne 5, 3) := by decide +kernel
theorem dX1_readItem_18 : decode cX1_readItem 18 = .ok (.iconst (-1), 1) := by decide +kernel
theorem dX1_readItem_19 : decode cX1_readItem 19 = .ok (.ireturn, 1) := by decide +kernel
theorem dX1_readItem_20 : decode cX1_readItem 20 = .ok (.iload_n 1, 1) := by decide +kernel
theorem dX1_readItem_21 : decode cX1_readItem 21 = .ok (.iconst 1, 1) := by decide +kernel
theorem dX1_readItem_22 : decode cX1_readItem 22 = .ok (.iadd, 1) := by decide +kernel
theorem dX1_readItem_23 : decode cX1_readItem 23 = .ok (.istore 5, 2) := by decide +kernel
theorem dX1_readItem_25 : decode cX1_readItem 25 = .ok (.iconst 0, 1) := by decide +kernel
theorem dX1_readItem_26 : decode cX1_readItem 26 = .ok (.istore 6, 2) := by decide +kernel
theorem dX1_readItem_28 : decode cX1_readItem 28 = .ok (.iload 6, 2) := by decide +kernel
theorem dX1_readItem_30 : decode cX1_readItem 30 = .ok (.iload 4, 2) := by decide +kernel
theorem dX1_readItem_32 : decode cX1_readItem 32 = .ok (.if_icmp .ge 75, 3) := by decide +kernel
theorem dX1_readItem_35 : decode cX1_readItem 35 = .ok (.aload_n 0, 1) := by decide +kernel
theorem dX1_readItem_36 : decode cX1_readItem 36 = .ok (.iload 5, 2) := by decide +kernel
theorem dX1_readItem_38 : decode cX1_readItem 38 = .ok (.iload 6, 2) := by decide +kernel
theorem dX1_readItem_40 : decode cX1_readItem 40 = .ok (.invokevirtual 36, 3) := by decide +kernel
theorem dX1_readItem_43 : decode cX1_readItem 43 = .ok (.istore 7, 2) := by decide +kernel
theorem dX1_readItem_45 : decode cX1_readItem 45 = .ok (.iload 5, 2) := by decide +kernel
theorem dX1_readItem_47 : decode cX1_readItem 47 = .ok (.iload 7, 2) := by decide +kernel
theorem dX1_readItem_49 : decode cX1_readItem 49 = .ok (.iadd, 1) := by decide +kernel
theorem dX1_readItem_50 : decode cX1_readItem 50 = .ok (.istore 5, 2) := by decide +kernel
theorem dX1_readItem_52 : decode cX1_readItem 52 = .ok (.iload 6, 2) := by decide +kernel
theorem dX1_readItem_54 : decode cX1_readItem 54 = .ok (.iload 4, 2) := by decide +kernel
theorem dX1_readItem_56 : decode cX1_readItem 56 = .ok (.iconst 1, 1) := by decide +kernel
theorem dX1_readItem_57 : decode cX1_readItem 57 = .ok (.isub, 1) := by decide +kernel
theorem dX1_readItem_58 : decode cX1_readItem 58 = .ok (.if_icmp .ne 8, 3) := by decide +kernel
theorem dX1_readItem_61 : decode cX1_readItem 61 = .ok (.bipush 59, 2) := by decide +kernel
theorem dX1_readItem_63 : decode cX1_readItem 63 = .ok (.goto 5, 3) := by decide +kernel
theorem dX1_readItem_66 : decode cX1_readItem 66 = .ok (.bipush 44, 2) := by decide +kernel
theorem dX1_readItem_68 : decode cX1_readItem 68 = .ok (.istore 8, 2) := by decide +kernel
theorem dX1_readItem_70 : decode cX1_readItem 70 = .ok (.iload 7, 2) := by decide +kernel
theorem dX1_readItem_72 : decode cX1_readItem 72 = .ok (.ifCond .eq 24, 3) := by decide +kernel
theorem dX1_readItem_75 : decode cX1_readItem 75 = .ok (.iload 5, 2) := by decide +kernel
theorem dX1_readItem_77 : decode cX1_readItem 77 = .ok (.aload_n 0, 1) := by decide +kernel
theorem dX1_readItem_78 : decode cX1_readItem 78 = .ok (.getfield 19, 3) := by decide +kernel
theorem dX1_readItem_81 : decode cX1_readItem 81 = .ok (.if_icmp .ge 15, 3) := by decide +kernel
theorem dX1_readItem_84 : decode cX1_readItem 84 = .ok (.aload_n 0, 1) := by decide +kernel
theorem dX1_readItem_85 : decode cX1_readItem 85 = .ok (.getfield 9, 3) := by decide +kernel
theorem dX1_readItem_88 : decode cX1_readItem 88 = .ok (.iload 5, 2) := by decide +kernel
theorem dX1_readItem_90 : decode cX1_readItem 90 = .ok (.caload, 1) := by decide +kernel
theorem dX1_readItem_91 : decode cX1_readItem 91 = .ok (.iload 8, 2) := by decide +kernel
theorem dX1_readItem_93 : decode cX1_readItem 93 = .ok (.if_icmp .eq 5, 3) := by decide +kernel
theorem dX1_readItem_96 : decode cX1_readItem 96 = .ok (.iconst (-1), 1) := by decide +kernel
theorem dX1_readItem_97 : decode cX1_readItem 97 = .ok (.ireturn, 1) := by decide +kernel
theorem dX1_readItem_98 : decode cX1_readItem 98 = .ok (.iinc 5 1, 3) := by decide +kernel
theorem dX1_readItem_101 : decode cX1_readItem 101 = .ok (.iinc 6 1, 3) := by decide +kernel
theorem dX1_readItem_104 : decode cX1_readItem 104 = .ok (.goto (-76), 3) := by decide +kernel
theorem dX1_readItem_107 : decode cX1_readItem 107 = .ok (.aload_n 2, 1) := by decide +kernel
theorem dX1_readItem_108 : decode cX1_readItem 108 = .ok (.iload_n 3, 1) := by decide +kernel
theorem dX1_readItem_109 : decode cX1_readItem 109 = .ok (.aload_n 0, 1) := by decide +kernel
theorem dX1_readItem_110 : decode cX1_readItem 110 = .ok (.getfield 15, 3) := by decide +kernel
theorem dX1_readItem_113 : decode cX1_readItem 113 = .ok (.invokevirtual 40, 3) := by decide +kernel
theorem dX1_readItem_116 : decode cX1_readItem 116 = .ok (.ifCond .eq 8, 3) := by decide +kernel
theorem dX1_readItem_119 : decode cX1_readItem 119 = .ok (.iload 5, 2) := by decide +kernel
theorem dX1_readItem_121 : decode cX1_readItem 121 = .ok (.goto 4, 3) := by decide +kernel
theorem dX1_readItem_124 : decode cX1_readItem 124 = .ok (.iconst (-1), 1) := by decide +kernel
theorem dX1_readItem_125 : decode cX1_readItem 125 = .ok (.ireturn, 1) := by decide +kernel
theorem dX1_numbersBehind_0 : decode cX1_numbersBehind 0 = .ok (.iload_n 0, 1) := by decide +kernel
theorem dX1_numbersBehind_1 : decode cX1_numbersBehind 1 = .ok (.bipush 109, 2) := by decide +kernel
theorem dX1_numbersBehind_3 : decode cX1_numbersBehind 3 = .ok (.if_icmp .ne 5, 3) := by decide +kernel
theorem dX1_numbersBehind_6 : decode cX1_numbersBehind 6 = .ok (.iconst 4, 1) := by decide +kernel
theorem dX1_numbersBehind_7 : decode cX1_numbersBehind 7 = .ok (.ireturn, 1) := by decide +kernel
theorem dX1_numbersBehind_8 : decode cX1_numbersBehind 8 = .ok (.iload_n 0, 1) := by decide +kernel
theorem dX1_numbersBehind_9 : decode cX1_numbersBehind 9 = .ok (.bipush 122, 2) := by decide +kernel
theorem dX1_numbersBehind_11 : decode cX1_numbersBehind 11 = .ok (.if_icmp .eq 9, 3) := by decide +kernel
theorem dX1_numbersBehind_14 : decode cX1_numbersBehind 14 = .ok (.iload_n 0, 1) := by decide +kernel
theorem dX1_numbersBehind_15 : decode cX1_numbersBehind 15 = .ok (.bipush 101, 2) := by decide +kernel
theorem dX1_numbersBehind_17 : decode cX1_numbersBehind 17 = .ok (.if_icmp .ne 7, 3) := by decide +kernel
theorem dX1_numbersBehind_20 : decode cX1_numbersBehind 20 = .ok (.iconst 1, 1) := by decide +kernel
theorem dX1_numbersBehind_21 : decode cX1_numbersBehind 21 = .ok (.goto 4, 3) := by decide +kernel
theorem dX1_numbersBehind_24 : decode cX1_numbersBehind 24 = .ok (.iconst 0, 1) := by decide +kernel
theorem dX1_numbersBehind_25 : decode cX1_numbersBehind 25 = .ok (.ireturn, 1) := by decide +kernel
theorem dX1_readNumber_0 : decode cX1_readNumber 0 = .ok (.iconst 0, 1) := by decide +kernel
theorem dX1_readNumber_1 : decode cX1_readNumber 1 = .ok (.istore_n 3, 1) := by decide +kernel
theorem dX1_readNumber_2 : decode cX1_readNumber 2 = .ok (.iconst 0, 1) := by decide +kernel
theorem dX1_readNumber_3 : decode cX1_readNumber 3 = .ok (.istore 4, 2) := by decide +kernel
theorem dX1_readNumber_5 : decode cX1_readNumber 5 = .ok (.iload 4, 2) := by decide +kernel
theorem dX1_readNumber_7 : decode cX1_readNumber 7 = .ok (.iconst 2, 1) := by decide +kernel
theorem dX1_readNumber_8 : decode cX1_readNumber 8 = .ok (.if_icmp .ge 38, 3) := by decide +kernel
theorem dX1_readNumber_11 : decode cX1_readNumber 11 = .ok (.aload_n 0, 1) := by decide +kernel
theorem dX1_readNumber_12 : decode cX1_readNumber 12 = .ok (.iload_n 1, 1) := by decide +kernel
theorem dX1_readNumber_13 : decode cX1_readNumber 13 = .ok (.iload 4, 2) := by decide +kernel
theorem dX1_readNumber_15 : decode cX1_readNumber 15 = .ok (.iadd, 1) := by decide +kernel
theorem dX1_readNumber_16 : decode cX1_readNumber 16 = .ok (.invokevirtual 44, 3) := by decide +kernel
theorem dX1_readNumber_19 : decode cX1_readNumber 19 = .ok (.ifCond .eq 27, 3) := by decide +kernel
theorem dX1_readNumber_22 : decode cX1_readNumber 22 = .ok (.iload_n 3, 1) := by decide +kernel
theorem dX1_readNumber_23 : decode cX1_readNumber 23 = .ok (.bipush 10, 2) := by decide +kernel
theorem dX1_readNumber_25 : decode cX1_readNumber 25 = .ok (.imul, 1) := by decide +kernel
theorem dX1_readNumber_26 : decode cX1_readNumber 26 = .ok (.aload_n 0, 1) := by decide +kernel
theorem dX1_readNumber_27 : decode cX1_readNumber 27 = .ok (.getfield 9, 3) := by decide +kernel
theorem dX1_readNumber_30 : decode cX1_readNumber 30 = .ok (.iload_n 1, 1) := by decide +kernel
theorem dX1_readNumber_31 : decode cX1_readNumber 31 = .ok (.iload 4, 2) := by decide +kernel
theorem dX1_readNumber_33 : decode cX1_readNumber 33 = .ok (.iadd, 1) := by decide +kernel
theorem dX1_readNumber_34 : decode cX1_readNumber 34 = .ok (.caload, 1) := by decide +kernel
theorem dX1_readNumber_35 : decode cX1_readNumber 35 = .ok (.bipush 48, 2) := by decide +kernel
theorem dX1_readNumber_37 : decode cX1_readNumber 37 = .ok (.isub, 1) := by decide +kernel
theorem dX1_readNumber_38 : decode cX1_readNumber 38 = .ok (.iadd, 1) := by decide +kernel
theorem dX1_readNumber_39 : decode cX1_readNumber 39 = .ok (.istore_n 3, 1) := by decide +kernel
theorem dX1_readNumber_40 : decode cX1_readNumber 40 = .ok (.iinc 4 1, 3) := by decide +kernel
theorem dX1_readNumber_43 : decode cX1_readNumber 43 = .ok (.goto (-38), 3) := by decide +kernel
theorem dX1_readNumber_46 : decode cX1_readNumber 46 = .ok (.aload_n 0, 1) := by decide +kernel
theorem dX1_readNumber_47 : decode cX1_readNumber 47 = .ok (.getfield 15, 3) := by decide +kernel
theorem dX1_readNumber_50 : decode cX1_readNumber 50 = .ok (.iload_n 2, 1) := by decide +kernel
theorem dX1_readNumber_51 : decode cX1_readNumber 51 = .ok (.iload_n 3, 1) := by decide +kernel
theorem dX1_readNumber_52 : decode cX1_readNumber 52 = .ok (.iastore, 1) := by decide +kernel
theorem dX1_readNumber_53 : decode cX1_readNumber 53 = .ok (.iload 4, 2) := by decide +kernel
theorem dX1_readNumber_55 : decode cX1_readNumber 55 = .ok (.ireturn, 1) := by decide +kernel
theorem dX1_isFigure_0 : decode cX1_isFigure 0 = .ok (.iload_n 1, 1) := by decide +kernel
theorem dX1_isFigure_1 : decode cX1_isFigure 1 = .ok (.aload_n 0, 1) := by decide +kernel
theorem dX1_isFigure_2 : decode cX1_isFigure 2 = .ok (.getfield 19, 3) := by decide +kernel
theorem dX1_isFigure_5 : decode cX1_isFigure 5 = .ok (.if_icmp .ge 29, 3) := by decide +kernel
theorem dX1_isFigure_8 : decode cX1_isFigure 8 = .ok (.aload_n 0, 1) := by decide +kernel
theorem dX1_isFigure_9 : decode cX1_isFigure 9 = .ok (.getfield 9, 3) := by decide +kernel
theorem dX1_isFigure_12 : decode cX1_isFigure 12 = .ok (.iload_n 1, 1) := by decide +kernel
theorem dX1_isFigure_13 : decode cX1_isFigure 13 = .ok (.caload, 1) := by decide +kernel
theorem dX1_isFigure_14 : decode cX1_isFigure 14 = .ok (.bipush 48, 2) := by decide +kernel
theorem dX1_isFigure_16 : decode cX1_isFigure 16 = .ok (.if_icmp .lt 18, 3) := by decide +kernel
theorem dX1_isFigure_19 : decode cX1_isFigure 19 = .ok (.aload_n 0, 1) := by decide +kernel
theorem dX1_isFigure_20 : decode cX1_isFigure 20 = .ok (.getfield 9, 3) := by decide +kernel
theorem dX1_isFigure_23 : decode cX1_isFigure 23 = .ok (.iload_n 1, 1) := by decide +kernel
theorem dX1_isFigure_24 : decode cX1_isFigure 24 = .ok (.caload, 1) := by decide +kernel
theorem dX1_isFigure_25 : decode cX1_isFigure 25 = .ok (.bipush 57, 2) := by decide +kernel
theorem dX1_isFigure_27 : decode cX1_isFigure 27 = .ok (.if_icmp .gt 7, 3) := by decide +kernel
theorem dX1_isFigure_30 : decode cX1_isFigure 30 = .ok (.iconst 1, 1) := by decide +kernel
theorem dX1_isFigure_31 : decode cX1_isFigure 31 = .ok (.goto 4, 3) := by decide +kernel
theorem dX1_isFigure_34 : decode cX1_isFigure 34 = .ok (.iconst 0, 1) := by decide +kernel
theorem dX1_isFigure_35 : decode cX1_isFigure 35 = .ok (.ireturn, 1) := by decide +kernel
theorem dX2_init_0 : decode cX2_init 0 = .ok (.aload_n 0, 1) := by decide +kernel
theorem dX2_init_1 : decode cX2_init 1 = .ok (.invokespecial 3, 3) := by decide +kernel
theorem dX2_init_4 : decode cX2_init 4 = .ok (.aload_n 0, 1) := by decide +kernel
theorem dX2_init_5 : decode cX2_init 5 = .ok (.bipush 8, 2) := by decide +kernel
theorem dX2_init_7 : decode cX2_init 7 = .ok (.newarray .int, 2) := by decide +kernel
theorem dX2_init_9 : decode cX2_init 9 = .ok (.putfield 9, 3) := by decide +kernel
theorem dX2_init_12 : decode cX2_init 12 = .ok (.aload_n 0, 1) := by decide +kernel
theorem dX2_init_13 : decode cX2_init 13 = .ok (.bipush 8, 2) := by decide +kernel
theorem dX2_init_15 : decode cX2_init 15 = .ok (.newarray .int, 2) := by decide +kernel
theorem dX2_init_17 : decode cX2_init 17 = .ok (.putfield 15, 3) := by decide +kernel
theorem dX2_init_20 : decode cX2_init 20 = .ok (.aload_n 0, 1) := by decide +kernel
theorem dX2_init_21 : decode cX2_init 21 = .ok (.bipush 8, 2) := by decide +kernel
theorem dX2_init_23 : decode cX2_init 23 = .ok (.newarray .int, 2) := by decide +kernel
theorem dX2_init_25 : decode cX2_init 25 = .ok (.putfield 18, 3) := by decide +kernel
theorem dX2_init_28 : decode cX2_init 28 = .ok (.aload_n 0, 1) := by decide +kernel
theorem dX2_init_29 : decode cX2_init 29 = .ok (.bipush 8, 2) := by decide +kernel
theorem dX2_init_31 : decode cX2_init 31 = .ok (.newarray .int, 2) := by decide +kernel
theorem dX2_init_33 : decode cX2_init 33 = .ok (.putfield 21, 3) := by decide +kernel
theorem dX2_init_36 : decode cX2_init 36 = .ok (.return_, 1) := by decide +kernel
theorem dX2_clear_0 : decode cX2_clear 0 = .ok (.aload_n 0, 1) := by decide +kernel
theorem dX2_clear_1 : decode cX2_clear 1 = .ok (.iconst 0, 1) := by decide +kernel
theorem dX2_clear_2 : decode cX2_clear 2 = .ok (.putfield 24, 3) := by decide +kernel
theorem dX2_clear_5 : decode cX2_clear 5 = .ok (.aload_n 0, 1) := by decide +kernel
theorem dX2_clear_6 : decode cX2_clear 6 = .ok (.iconst 0, 1) := by decide +kernel
theorem dX2_clear_7 : decode cX2_clear 7 = .ok (.putfield 28, 3) := by decide +kernel
theorem dX2_clear_10 : decode cX2_clear 10 = .ok (.aload_n 0, 1) := by decide +kernel
theorem dX2_clear_11 : decode cX2_clear 11 = .ok (.iconst 0, 1) := by decide +kernel
theorem dX2_clear_12 : decode cX2_clear 12 = .ok (.putfield 31, 3) := by decide +kernel
theorem dX2_clear_15 : decode cX2_clear 15 = .ok (.return_, 1) := by decide +kernel
theorem dX2_take_0 : decode cX2_take 0 = .ok (.iload_n 1, 1) := by decide +kernel
theorem dX2_take_1 : decode cX2_take 1 = .ok (.bipush 109, 2) := by decide +kernel
theorem dX2_take_3 : decode cX2_take 3 = .ok (.if_icmp .ne 20, 3) := by decide +kernel
theorem dX2_take_6 : decode cX2_take 6 = .ok (.aload_n 0, 1) := by decide +kernel
theorem dX2_take_7 : decode cX2_take 7 = .ok (.aload_n 2, 1) := by decide +kernel
theorem dX2_take_8 : decode cX2_take 8 = .ok (.iconst 0, 1) := by decide +kernel
theorem dX2_take_9 : decode cX2_take 9 = .ok (.iaload, 1) := by decide +kernel
theorem dX2_take_10 : decode cX2_take 10 = .ok (.aload_n 2, 1) := by decide +kernel
theorem dX2_take_11 : decode cX2_take 11 = .ok (.iconst 1, 1) := by decide +kernel
theorem dX2_take_12 : decode cX2_take 12 = .ok (.iaload, 1) := by decide +kernel
theorem dX2_take_13 : decode cX2_take 13 = .ok (.aload_n 2, 1) := by decide +kernel
theorem dX2_take_14 : decode cX2_take 14 = .ok (.iconst 2, 1) := by decide +kernel
theorem dX2_take_15 : decode cX2_take 15 = .ok (.iaload, 1) := by decide +kernel
theorem dX2_take_16 : decode cX2_take 16 = .ok (.aload_n 2, 1) := by decide +kernel
theorem dX2_take_17 : decode cX2_take 17 = .ok (.iconst 3, 1) := by decide +kernel
theorem dX2_take_18 : decode cX2_take 18 = .ok (.iaload, 1) := by decide +kernel
theorem dX2_take_19 : decode cX2_take 19 = .ok (.invokevirtual 34, 3) := by decide +kernel
theorem dX2_take_22 : decode cX2_take 22 = .ok (.ireturn, 1) := by decide +kernel
theorem dX2_take_23 : decode cX2_take 23 = .ok (.iload_n 1, 1) := by decide +kernel
theorem dX2_take_24 : decode cX2_take 24 = .ok (.bipush 122, 2) := by decide +kernel
theorem dX2_take_26 : decode cX2_take 26 = .ok (.if_icmp .ne 12, 3) := by decide +kernel
theorem dX2_take_29 : decode cX2_take 29 = .ok (.aload_n 0, 1) := by decide +kernel
theorem dX2_take_30 : decode cX2_take 30 = .ok (.aload_n 2, 1) := by decide +kernel
theorem dX2_take_31 : decode cX2_take 31 = .ok (.iconst 0, 1) := by decide +kernel
theorem dX2_take_32 : decode cX2_take 32 = .ok (.iaload, 1) := by decide +kernel
theorem dX2_take_33 : decode cX2_take 33 = .ok (.putfield 28, 3) := by decide +kernel
theorem dX2_take_36 : decode cX2_take 36 = .ok (.iconst 1, 1) := by decide +kernel
theorem dX2_take_37 : decode cX2_take 37 = .ok (.ireturn, 1) := by decide +kernel
theorem dX2_take_38 : decode cX2_take 38 = .ok (.aload_n 2, 1) := by decide +kernel
theorem dX2_take_39 : decode cX2_take 39 = .ok (.iconst 0, 1) := by decide +kernel
theorem dX2_take_40 : decode cX2_take 40 = .ok (.iaload, 1) := by decide +kernel
theorem dX2_take_41 : decode cX2_take 41 = .ok (.iconst 1, 1) := by decide +kernel
theorem dX2_take_42 : decode cX2_take 42 = .ok (.if_icmp .le 5, 3) := by decide +kernel
theorem dX2_take_45 : decode cX2_take 45 = .ok (.iconst 0, 1) := by decide +kernel
theorem dX2_take_46 : decode cX2_take 46 = .ok (.ireturn, 1) := by decide +kernel
theorem dX2_take_47 : decode cX2_take 47 = .ok (.aload_n 0, 1) := by decide +kernel
theorem dX2_take_48 : decode cX2_take 48 = .ok (.aload_n 2, 1) := by decide +kernel
theorem dX2_take_49 : decode cX2_take 49 = .ok (.iconst 0, 1) := by decide +kernel
theorem dX2_take_50 : decode cX2_take 50 = .ok (.iaload, 1) := by decide +kernel
theorem dX2_take_51 : decode cX2_take 51 = .ok (.putfield 31, 3) := by decide +kernel
theorem dX2_take_54 : decode cX2_take 54 = .ok (.iconst 1, 1) := by decide +kernel
theorem dX2_take_55 : decode cX2_take 55 = .ok (.ireturn, 1) := by decide +kernel
theorem dX2_takeMan_0 : decode cX2_takeMan 0 = .ok (.aload_n 0, 1) := by decide +kernel
theorem dX2_takeMan_1 : decode cX2_takeMan 1 = .ok (.getfield 24, 3) := by decide +kernel
theorem dX2_takeMan_4 : decode cX2_takeMan 4 = .ok (.bipush 8, 2) := by decide +kernel
theorem dX2_takeMan_6 : decode cX2_takeMan 6 = .ok (.if_icmp .ge 26, 3) := by decide +kernel
theorem dX2_takeMan_9 : decode cX2_takeMan 9 = .ok (.iload_n 1, 1) := by decide +kernel
theorem dX2_takeMan_10 : decode cX2_takeMan 10 = .ok (.iconst 3, 1) := by decide +kernel
theorem dX2_takeMan_11 : decode cX2_takeMan 11 = .ok (.if_icmp .gt 21, 3) := by decide +kernel
theorem dX2_takeMan_14 : decode cX2_takeMan 14 = .ok (.iload_n 2, 1) := by decide +kernel
theorem dX2_takeMan_15 : decode cX2_takeMan 15 = .ok (.iconst 4, 1) := by decide +kernel
theorem dX2_takeMan_16 : decode cX2_takeMan 16 = .ok (.if_icmp .ge 16, 3) := by decide +kernel
theorem dX2_takeMan_19 : decode cX2_takeMan 19 = .ok (.iload_n 3, 1) := by decide +kernel
theorem dX2_takeMan_20 : decode cX2_takeMan 20 = .ok (.bipush 8, 2) := by decide +kernel
theorem dX2_takeMan_22 : decode cX2_takeMan 22 = .ok (.if_icmp .ge 10, 3) := by decide +kernel
theorem dX2_takeMan_25 : decode cX2_takeMan 25 = .ok (.iload 4, 2) := by decide +kernel
theorem dX2_takeMan_27 : decode cX2_takeMan 27 = .ok (.bipush 10, 2) := by decide +kernel
theorem dX2_takeMan_29 : decode cX2_takeMan 29 = .ok (.if_icmp .le 5, 3) := by decide +kernel
theorem dX2_takeMan_32 : decode cX2_takeMan 32 = .ok (.iconst 0, 1) := by decide +kernel
theorem dX2_takeMan_33 : decode cX2_takeMan 33 = .ok (.ireturn, 1) := by decide +kernel
theorem dX2_takeMan_34 : decode cX2_takeMan 34 = .ok (.aload_n 0, 1) := by decide +kernel
theorem dX2_takeMan_35 : decode cX2_takeMan 35 = .ok (.getfield 9, 3) := by decide +kernel
theorem dX2_takeMan_38 : decode cX2_takeMan 38 = .ok (.aload_n 0, 1) := by decide +kernel
theorem dX2_takeMan_39 : decode cX2_takeMan 39 = .ok (.getfield 24, 3) := by decide +kernel
theorem dX2_takeMan_42 : decode cX2_takeMan 42 = .ok (.iload_n 1, 1) := by decide +kernel
theorem dX2_takeMan_43 : decode cX2_takeMan 43 = .ok (.iastore, 1) := by decide +kernel
theorem dX2_takeMan_44 : decode cX2_takeMan 44 = .ok (.aload_n 0, 1) := by decide +kernel
theorem dX2_takeMan_45 : decode cX2_takeMan 45 = .ok (.getfield 15, 3) := by decide +kernel
theorem dX2_takeMan_48 : decode cX2_takeMan 48 = .ok (.aload_n 0, 1) := by decide +kernel
theorem dX2_takeMan_49 : decode cX2_takeMan 49 = .ok (.getfield 24, 3) := by decide +kernel
theorem dX2_takeMan_52 : decode cX2_takeMan 52 = .ok (.iload_n 2, 1) := by decide +kernel
theorem dX2_takeMan_53 : decode cX2_takeMan 53 = .ok (.iastore, 1) := by decide +kernel
theorem dX2_takeMan_54 : decode cX2_takeMan 54 = .ok (.aload_n 0, 1) := by decide +kernel
theorem dX2_takeMan_55 : decode cX2_takeMan 55 = .ok (.getfield 18, 3) := by decide +kernel
theorem dX2_takeMan_58 : decode cX2_takeMan 58 = .ok (.aload_n 0, 1) := by decide +kernel
theorem dX2_takeMan_59 : decode cX2_takeMan 59 = .ok (.getfield 24, 3) := by decide +kernel
theorem dX2_takeMan_62 : decode cX2_takeMan 62 = .ok (.iload_n 3, 1) := by decide +kernel
theorem dX2_takeMan_63 : decode cX2_takeMan 63 = .ok (.iastore, 1) := by decide +kernel
theorem dX2_takeMan_64 : decode cX2_takeMan 64 = .ok (.aload_n 0, 1) := by decide +kernel
theorem dX2_takeMan_65 : decode cX2_takeMan 65 = .ok (.getfield 21, 3) := by decide +kernel
theorem dX2_takeMan_68 : decode cX2_takeMan 68 = .ok (.aload_n 0, 1) := by decide +kernel
theorem dX2_takeMan_69 : decode cX2_takeMan 69 = .ok (.getfield 24, 3) := by decide +kernel
theorem dX2_takeMan_72 : decode cX2_takeMan 72 = .ok (.iload 4, 2) := by decide +kernel
theorem dX2_takeMan_74 : decode cX2_takeMan 74 = .ok (.iastore, 1) := by decide +kernel
theorem dX2_takeMan_75 : decode cX2_takeMan 75 = .ok (.aload_n 0, 1) := by decide +kernel
theorem dX2_takeMan_76 : decode cX2_takeMan 76 = .ok (.dup, 1) := by decide +kernel
theorem dX2_takeMan_77 : decode cX2_takeMan 77 = .ok (.getfield 24, 3) := by decide +kernel
theorem dX2_takeMan_80 : decode cX2_takeMan 80 = .ok (.iconst 1, 1) := by decide +kernel
theorem dX2_takeMan_81 : decode cX2_takeMan 81 = .ok (.iadd, 1) := by decide +kernel
theorem dX2_takeMan_82 : decode cX2_takeMan 82 = .ok (.putfield 24, 3) := by decide +kernel
theorem dX2_takeMan_85 : decode cX2_takeMan 85 = .ok (.iconst 1, 1) := by decide +kernel
theorem dX2_takeMan_86 : decode cX2_takeMan 86 = .ok (.ireturn, 1) := by decide +kernel
theorem dX2_canBeLaid_0 : decode cX2_canBeLaid 0 = .ok (.iconst 0, 1) := by decide +kernel
theorem dX2_canBeLaid_1 : decode cX2_canBeLaid 1 = .ok (.istore_n 1, 1) := by decide +kernel
theorem dX2_canBeLaid_2 : decode cX2_canBeLaid 2 = .ok (.iload_n 1, 1) := by decide +kernel
theorem dX2_canBeLaid_3 : decode cX2_canBeLaid 3 = .ok (.aload_n 0, 1) := by decide +kernel
theorem dX2_canBeLaid_4 : decode cX2_canBeLaid 4 = .ok (.getfield 24, 3) := by decide +kernel
theorem dX2_canBeLaid_7 : decode cX2_canBeLaid 7 = .ok (.if_icmp .ge 24, 3) := by decide +kernel
theorem dX2_canBeLaid_10 : decode cX2_canBeLaid 10 = .ok (.aload_n 0, 1) := by decide +kernel
theorem dX2_canBeLaid_11 : decode cX2_canBeLaid 11 = .ok (.getfield 18, 3) := by decide +kernel
theorem dX2_canBeLaid_14 : decode cX2_canBeLaid 14 = .ok (.iload_n 1, 1) := by decide +kernel
theorem dX2_canBeLaid_15 : decode cX2_canBeLaid 15 = .ok (.iaload, 1) := by decide +kernel
theorem dX2_canBeLaid_16 : decode cX2_canBeLaid 16 = .ok (.aload_n 0, 1) := by decide +kernel
theorem dX2_canBeLaid_17 : decode cX2_canBeLaid 17 = .ok (.getfield 24, 3) := by decide +kernel
theorem dX2_canBeLaid_20 : decode cX2_canBeLaid 20 = .ok (.if_icmp .lt 5, 3) := by decide +kernel
theorem dX2_canBeLaid_23 : decode cX2_canBeLaid 23 = .ok (.iconst 0, 1) := by decide +kernel
theorem dX2_canBeLaid_24 : decode cX2_canBeLaid 24 = .ok (.ireturn, 1) := by decide +kernel
theorem dX2_canBeLaid_25 : decode cX2_canBeLaid 25 = .ok (.iinc 1 1, 3) := by decide +kernel
theorem dX2_canBeLaid_28 : decode cX2_canBeLaid 28 = .ok (.goto (-26), 3) := by decide +kernel
theorem dX2_canBeLaid_31 : decode cX2_canBeLaid 31 = .ok (.aload_n 0, 1) := by decide +kernel
theorem dX2_canBeLaid_32 : decode cX2_canBeLaid 32 = .ok (.getfield 24, 3) := by decide +kernel
theorem dX2_canBeLaid_35 : decode cX2_canBeLaid 35 = .ok (.ifCond .le 7, 3) := by decide +kernel
theorem dX2_canBeLaid_38 : decode cX2_canBeLaid 38 = .ok (.iconst 1, 1) := by decide +kernel
theorem dX2_canBeLaid_39 : decode cX2_canBeLaid 39 = .ok (.goto 4, 3) := by decide +kernel
theorem dX2_canBeLaid_42 : decode cX2_canBeLaid 42 = .ok (.iconst 0, 1) := by decide +kernel
theorem dX2_canBeLaid_43 : decode cX2_canBeLaid 43 = .ok (.ireturn, 1) := by decide +kernel
theorem dX3_init_0 : decode cX3_init 0 = .ok (.aload_n 0, 1) := by decide +kernel
theorem dX3_init_1 : decode cX3_init 1 = .ok (.invokespecial 3, 3) := by decide +kernel
theorem dX3_init_4 : decode cX3_init 4 = .ok (.aload_n 0, 1) := by decide +kernel
theorem dX3_init_5 : decode cX3_init 5 = .ok (.bipush 8, 2) := by decide +kernel
theorem dX3_init_7 : decode cX3_init 7 = .ok (.newarray .int, 2) := by decide +kernel
theorem dX3_init_9 : decode cX3_init 9 = .ok (.putfield 9, 3) := by decide +kernel
theorem dX3_init_12 : decode cX3_init 12 = .ok (.aload_n 0, 1) := by decide +kernel
theorem dX3_init_13 : decode cX3_init 13 = .ok (.bipush 8, 2) := by decide +kernel
theorem dX3_init_15 : decode cX3_init 15 = .ok (.newarray .int, 2) := by decide +kernel
theorem dX3_init_17 : decode cX3_init 17 = .ok (.putfield 15, 3) := by decide +kernel
theorem dX3_init_20 : decode cX3_init 20 = .ok (.return_, 1) := by decide +kernel
theorem dX3_begin_0 : decode cX3_begin 0 = .ok (.aload_n 1, 1) := by decide +kernel
theorem dX3_begin_1 : decode cX3_begin 1 = .ok (.getfield 18, 3) := by decide +kernel
theorem dX3_begin_4 : decode cX3_begin 4 = .ok (.iconst 0, 1) := by decide +kernel
theorem dX3_begin_5 : decode cX3_begin 5 = .ok (.aload_n 0, 1) := by decide +kernel
theorem dX3_begin_6 : decode cX3_begin 6 = .ok (.getfield 9, 3) := by decide +kernel
theorem dX3_begin_9 : decode cX3_begin 9 = .ok (.iconst 0, 1) := by decide +kernel
theorem dX3_begin_10 : decode cX3_begin 10 = .ok (.bipush 8, 2) := by decide +kernel
theorem dX3_begin_12 : decode cX3_begin 12 = .ok (.invokestatic 21, 3) := by decide +kernel
theorem dX3_begin_15 : decode cX3_begin 15 = .ok (.aload_n 1, 1) := by decide +kernel
theorem dX3_begin_16 : decode cX3_begin 16 = .ok (.getfield 27, 3) := by decide +kernel
theorem dX3_begin_19 : decode cX3_begin 19 = .ok (.iconst 0, 1) := by decide +kernel
theorem dX3_begin_20 : decode cX3_begin 20 = .ok (.aload_n 0, 1) := by decide +kernel
theorem dX3_begin_21 : decode cX3_begin 21 = .ok (.getfield 15, 3) := by decide +kernel
theorem dX3_begin_24 : decode cX3_begin 24 = .ok (.iconst 0, 1) := by decide +kernel
theorem dX3_begin_25 : decode cX3_begin 25 = .ok (.bipush 8, 2) := by decide +kernel
theorem dX3_begin_27 : decode cX3_begin 27 = .ok (.invokestatic 21, 3) := by decide +kernel
theorem dX3_begin_30 : decode cX3_begin 30 = .ok (.aload_n 0, 1) := by decide +kernel
theorem dX3_begin_31 : decode cX3_begin 31 = .ok (.aload_n 1, 1) := by decide +kernel
theorem dX3_begin_32 : decode cX3_begin 32 = .ok (.getfield 28, 3) := by decide +kernel
theorem dX3_begin_35 : decode cX3_begin 35 = .ok (.putfield 32, 3) := by decide +kernel
theorem dX3_begin_38 : decode cX3_begin 38 = .ok (.aload_n 0, 1) := by decide +kernel
theorem dX3_begin_39 : decode cX3_begin 39 = .ok (.iconst 0, 1) := by decide +kernel
theorem dX3_begin_40 : decode cX3_begin 40 = .ok (.putfield 33, 3) := by decide +kernel
theorem dX3_begin_43 : decode cX3_begin 43 = .ok (.aload_n 0, 1) := by decide +kernel
theorem dX3_begin_44 : decode cX3_begin 44 = .ok (.iconst 0, 1) := by decide +kernel
theorem dX3_begin_45 : decode cX3_begin 45 = .ok (.putfield 36, 3) := by decide +kernel
theorem dX3_begin_48 : decode cX3_begin 48 = .ok (.aload_n 0, 1) := by decide +kernel
theorem dX3_begin_49 : decode cX3_begin 49 = .ok (.iconst 0, 1) := by decide +kernel
theorem dX3_begin_50 : decode cX3_begin 50 = .ok (.putfield 39, 3) := by decide +kernel
theorem dX3_begin_53 : decode cX3_begin 53 = .ok (.aload_n 0, 1) := by decide +kernel
theorem dX3_begin_54 : decode cX3_begin 54 = .ok (.iconst 0, 1) := by decide +kernel
theorem dX3_begin_55 : decode cX3_begin 55 = .ok (.putfield 42, 3) := by decide +kernel
theorem dX3_begin_58 : decode cX3_begin 58 = .ok (.aload_n 0, 1) := by decide +kernel
theorem dX3_begin_59 : decode cX3_begin 59 = .ok (.iconst 0, 1) := by decide +kernel
theorem dX3_begin_60 : decode cX3_begin 60 = .ok (.putfield 45, 3) := by decide +kernel
theorem dX3_begin_63 : decode cX3_begin 63 = .ok (.return_, 1) := by decide +kernel
theorem dX3_copy_0 : decode cX3_copy 0 = .ok (.aload_n 1, 1) := by decide +kernel
theorem dX3_copy_1 : decode cX3_copy 1 = .ok (.getfield 9, 3) := by decide +kernel
theorem dX3_copy_4 : decode cX3_copy 4 = .ok (.iconst 0, 1) := by decide +kernel
theorem dX3_copy_5 : decode cX3_copy 5 = .ok (.aload_n 0, 1) := by decide +kernel
theorem dX3_copy_6 : decode cX3_copy 6 = .ok (.getfield 9, 3) := by decide +kernel
theorem dX3_copy_9 : decode cX3_copy 9 = .ok (.iconst 0, 1) := by decide +kernel
theorem dX3_copy_10 : decode cX3_copy 10 = .ok (.bipush 8, 2) := by decide +kernel
theorem dX3_copy_12 : decode cX3_copy 12 = .ok (.invokestatic 21, 3) := by decide +kernel
theorem dX3_copy_15 : decode cX3_copy 15 = .ok (.aload_n 1, 1) := by decide +kernel
theorem dX3_copy_16 : decode cX3_copy 16 = .ok (.getfield 15, 3) := by decide +kernel
theorem dX3_copy_19 : decode cX3_copy 19 = .ok (.iconst 0, 1) := by decide +kernel
theorem dX3_copy_20 : decode cX3_copy 20 = .ok (.aload_n 0, 1) := by decide +kernel
theorem dX3_copy_21 : decode cX3_copy 21 = .ok (.getfield 15, 3) := by decide +kernel
theorem dX3_copy_24 : decode cX3_copy 24 = .ok (.iconst 0, 1) := by decide +kernel
theorem dX3_copy_25 : decode cX3_copy 25 = .ok (.bipush 8, 2) := by decide +kernel
theorem dX3_copy_27 : decode cX3_copy 27 = .ok (.invokestatic 21, 3) := by decide +kernel
theorem dX3_copy_30 : decode cX3_copy 30 = .ok (.aload_n 0, 1) := by decide +kernel
theorem dX3_copy_31 : decode cX3_copy 31 = .ok (.aload_n 1, 1) := by decide +kernel
theorem dX3_copy_32 : decode cX3_copy 32 = .ok (.getfield 32, 3) := by decide +kernel
theorem dX3_copy_35 : decode cX3_copy 35 = .ok (.putfield 32, 3) := by decide +kernel
theorem dX3_copy_38 : decode cX3_copy 38 = .ok (.aload_n 0, 1) := by decide +kernel
theorem dX3_copy_39 : decode cX3_copy 39 = .ok (.aload_n 1, 1) := by decide +kernel
theorem dX3_copy_40 : decode cX3_copy 40 = .ok (.getfield 33, 3) := by decide +kernel
theorem dX3_copy_43 : decode cX3_copy 43 = .ok (.putfield 33, 3) := by decide +kernel
theorem dX3_copy_46 : decode cX3_copy 46 = .ok (.aload_n 0, 1) := by decide +kernel
theorem dX3_copy_47 : decode cX3_copy 47 = .ok (.aload_n 1, 1) := by decide +kernel
theorem dX3_copy_48 : decode cX3_copy 48 = .ok (.getfield 36, 3) := by decide +kernel
theorem dX3_copy_51 : decode cX3_copy 51 = .ok (.putfield 36, 3) := by decide +kernel
theorem dX3_copy_54 : decode cX3_copy 54 = .ok (.aload_n 0, 1) := by decide +kernel
theorem dX3_copy_55 : decode cX3_copy 55 = .ok (.aload_n 1, 1) := by decide +kernel
theorem dX3_copy_56 : decode cX3_copy 56 = .ok (.getfield 39, 3) := by decide +kernel
theorem dX3_copy_59 : decode cX3_copy 59 = .ok (.putfield 39, 3) := by decide +kernel
theorem dX3_copy_62 : decode cX3_copy 62 = .ok (.aload_n 0, 1) := by decide +kernel
theorem dX3_copy_63 : decode cX3_copy 63 = .ok (.aload_n 1, 1) := by decide +kernel
theorem dX3_copy_64 : decode cX3_copy 64 = .ok (.getfield 42, 3) := by decide +kernel
theorem dX3_copy_67 : decode cX3_copy 67 = .ok (.putfield 42, 3) := by decide +kernel
theorem dX3_copy_70 : decode cX3_copy 70 = .ok (.aload_n 0, 1) := by decide +kernel
theorem dX3_copy_71 : decode cX3_copy 71 = .ok (.aload_n 1, 1) := by decide +kernel
theorem dX3_copy_72 : decode cX3_copy 72 = .ok (.getfield 45, 3) := by decide +kernel
theorem dX3_copy_75 : decode cX3_copy 75 = .ok (.putfield 45, 3) := by decide +kernel
theorem dX3_copy_78 : decode cX3_copy 78 = .ok (.return_, 1) := by decide +kernel
end
section
/-! THE PICTURE. A memory of rows of ints and of references; which row is what (z_T) stands fast: the cells come in the order in which the two constructors make them. -/
abbrev z_M : Type := Nat × Nat × (Nat → Nat → Int32) × (Nat → Nat → Option Nat)
abbrev z_R : Type := Option (Int32 × z_M)
/-- launch, class ids, slots, ids of array classes (by kind), the first address, addresses of what was there before -/
abbrev z_X : Type := Launch × (Nat → ClassId) × (Nat → Nat → Nat) × (Nat → ClassId) × Nat × (Nat → Nat)
/-- kind (0 to 5: the class in vwCl; 6 int[], 7 char[], 8 Standing[]) and length -/
def z_T : List (Nat × Nat) := [(4, 10), (1, 3), (7, 200), (6, 4), (2, 7), (6, 8), (6, 8), (6, 8), (6, 8), (2, 7), (6, 8), (6, 8), (6, 8), (6, 8), (3, 8), (6, 8), (6, 8), (3, 8), (6, 8), (6, 8), (0, 2), (8, 8), (3, 8), (6, 8), (6, 8), (3, 8), (6, 8), (6, 8), (3, 8), (6, 8), (6, 8), (3, 8), (6, 8), (6, 8), (3, 8), (6, 8), (6, 8), (3, 8), (6, 8), (6, 8), (3, 8), (6, 8), (6, 8), (3, 8), (6, 8), (6, 8), (0, 2), (8, 2), (3, 8), (6, 8), (6, 8), (3, 8), (6, 8), (6, 8), (6, 8), (6, 8), (6, 3), (5, 14), (6, 200), (6, 35), (6, 35), (6, 22), (6, 176), (6, 44), (6, 22)]
def z_k (a : Nat) : Nat := (z_T.getD a (99, 0)).1
def z_n (a : Nat) : Nat := (z_T.getD a (99, 0)).2
/-- is the field an int -/
def z_i (c k : Nat) : Bool := match c with
  | 0 => [1].contains k
  | 1 => [1].contains k
  | 2 => [0, 1, 2].contains k
  | 3 => [2, 3, 4, 5, 6, 7].contains k
  | 5 => [1, 6, 8, 9, 10, 11, 13].contains k
  | _ => false
def z_ad (X : z_X) (a : Nat) : Nat := X.2.2.2.2.1 + a
def z_A (X : z_X) : Nat → Prop := fun q => X.2.2.2.2.1 ≤ q
def z_v (X : z_X) (m : z_M) (a k : Nat) : Value := if z_i (z_k a) k = true then .int (m.2.2.1 a k) else va_rf ((m.2.2.2 a k).map (z_ad X))
def z_E (X : z_X) (m : z_M) (a : Nat) : va_E :=
  if z_k a = 6 ∨ z_k a = 7 then .inl (X.2.2.2.1 (z_k a), z_n a, .inl (m.2.2.1 a))
  else if z_k a = 8 then .inl (X.2.2.2.1 8, z_n a, .inr (.inr (.inr (.inr (fun j => (m.2.2.2 a j).map (z_ad X))))))
  else .inr (z_k a, (List.range (z_n a)).map (z_v X m a))
def z_H (X : z_X) (m : z_M) (H : Heap) : Prop := H.size = X.2.2.2.2.1 + m.1 ∧ ∀ a, a < m.1 → va_at (X.2.1, X.2.2.1) vwCl (z_ad X a, z_E X m a) H
def z_ty (X : z_X) : List (ClassId × FieldType) := [(X.2.2.2.1 6, .int), (X.2.2.2.1 7, .char), (X.2.2.2.1 8, .object "HayFootStraw$Standing")]
/-- the two tables of numbers that the class keeps -/
def z_tn (t : Nat) : Nat := if t = 0 then 3 else 6
def z_tb (t j : Nat) : Int32 := if t = 0 then ([3, 1, 2] : List Int32).getD j 0 else ([1, 3, 9, 27, 81, 243] : List Int32).getD j 0
/-- the first squad's text, by its bytes -/
def z_tx : List Int32 := [109, 48, 44, 48, 44, 48, 44, 48, 59, 109, 49, 44, 48, 44, 48, 44, 49, 48, 59, 109, 50, 44, 48, 44, 49, 44, 48, 59, 109, 50, 44, 48, 44, 50, 44, 51, 59, 109, 51, 44, 48, 44, 48, 44, 48, 59, 109, 49, 44, 48, 44, 53, 44, 53, 59, 109, 50, 44, 48, 44, 51, 44, 54, 59, 122, 52, 59]
def z_txS : String := "m0,0,0,0;m1,0,0,10;m2,0,1,0;m2,0,2,3;m3,0,0,0;m1,0,5,5;m2,0,3,6;z4;"
/-- calls of private constructors -/
def z_nest : List (String × Nat × MethodName) := [(RX0, 21, yX3_init), (RX4, 9, yX1_init), (RX4, 18, yX2_init), (RX4, 28, yX3_init)]
def z_S (X : z_X) (U : State) (H : Heap) : Prop :=
  (va_Z "HayFootStraw" "TURNS" "[I" (.ref (X.2.2.2.2.2 0)) (z_A X) U H ∧ va_Z "HayFootStraw" "ROWS" "[I" (.ref (X.2.2.2.2.2 1)) (z_A X) U H) ∧
  (∀ t, t < 2 → va_T .int (X.2.2.2.2.2 t) (z_tn t) (fun j => .int (z_tb t j)) (z_A X) U H) ∧
  va_Z "java/lang/String" "COMPACT_STRINGS" "Z" (.int 1) (z_A X) U H ∧
  vk_S 1 [z_tx.length] [z_tx] (fun _ => X.2.2.2.2.2 2) (fun _ => X.2.2.2.2.2 3) (z_A X) U H ∧
  vk_R "HayFootStraw" 58 z_txS (X.2.2.2.2.2 2) U ∧ va_AO "HayFootStraw$Standing" U ∧
  va_Zq "jdk/internal/util/Preconditions" "SIOOBE_FORMATTER" "Ljava/util/function/BiFunction;" (z_A X) U H ∧ ∀ q ∈ z_nest, va_Nw (.methodLinkNest q.1 q.2.1 q.2.2 "HayFootStraw") U
abbrev z_rm (d n z : Nat) : Room := { frames := d, cells := n, slots := z, locals := 36 * d }
/-- the words that keep -/
def z_ws : List Cond := lw_tbl.filter goodWord
/-- Java's remainder -/
def z_mI (x y : Int32) : Int32 := x - x / y * y
def z_mL (x y : Int64) : Int64 := x - x / y * y
theorem z_good (w : Cond) (h : w ∈ z_ws) : goodWord w = true := (List.mem_filter.mp h).2
theorem z_goodIn {y : MethodName} {cc : ByteArray} {nL : Nat} {rt : Option FieldType} {ws : List Cond} (h : Cond.code y cc nL rt ∈ z_ws) (hw : ∀ w ∈ z_ws, w ∈ ws) : GoodIn ws (Cond.code y cc nL rt :: z_ws) := by
  intro w hm
  rcases List.mem_cons.mp hm with rfl | hm
  · exact ⟨hw _ h, good_of_word (z_good _ h)⟩
  · exact ⟨hw _ hm, good_of_word (z_good _ hm)⟩
def z_En (X : z_X) (y : MethodName) (cc : ByteArray) (nL : Nat) (rt : Option FieldType) (p : Program) (s : State) (m : MethodId) (args : Array Value) (meth : Method) (c : Code) : Prop :=
  CallFix p m c cc nL s args z_ws y.cls ∧ meth.sig.returnType = rt ∧ meth.locks = false ∧ (y.name = "<init>" → meth.name = "<init>") ∧ va_K (X.2.1, X.2.2.1) vwCl (z_ty X) s ∧ X.2.2.2.2.1 ≤ s.heap.size ∧ z_S X s s.heap
def z_Q (X : z_X) (rt : Option FieldType) (r : Int32) (m2 : z_M) : Array Value → State → Outcome → State → Prop := fun _ st oc t =>
  oc = .returned (if rt = none then none else some (.int r)) ∧ z_H X m2 t.heap ∧ va_F (z_A X) st t
/-- from here the machine comes to what o tells -/
def z_Sim (X : z_X) (y : MethodName) (cc : ByteArray) (nL : Nat) (rt : Option FieldType) (d : Nat) (pc : Nat) (lv : List (Nat × Value)) (st : List Value) (mm : z_M) (o : z_R) : Prop :=
  ∀ (r : Int32) (m2 : z_M), o = some (r, m2) → (mm.1 ≤ m2.1 ∧ mm.2.1 ≤ m2.2.1) ∧
    ∀ (p : Program) (e : Env) (s : State) (m : MethodId) (args : Array Value) (below : List Frame) (meth : Method) (c : Code) (n0 z0 : Nat) (H : Heap) (locs : List Loc) (ls : Array Slot),
      z_En X y cc nL rt p s m args meth c → n0 ≤ mm.1 → z0 ≤ mm.2.1 → z_H X mm H → va_S (z_A X) s.heap H locs → lv_has ls nL lv →
      W p X.1 e (z_rm d (m2.1 - n0) (m2.2.1 - z0)) s m args below meth c H locs (mm.1 - n0) (mm.2.1 - z0) (MQ below (z_Q X rt r m2) args s (m2.1 - n0) (m2.2.1 - z0) (z_A X)) (F0 m pc ls st)
def z_Pre (X : z_X) (mm : z_M) (U : State) : Prop := z_H X mm U.heap ∧ va_K (X.2.1, X.2.2.1) vwCl (z_ty X) U ∧ z_S X U U.heap
/-- a method's contract -/
def z_Ct (X : z_X) (y : MethodName) (cc : ByteArray) (nL : Nat) (rt : Option FieldType) (d : Nat) (av : List Value) (mm : z_M) (o : z_R) : Prop :=
  ∀ (r : Int32) (m2 : z_M), o = some (r, m2) → (mm.1 ≤ m2.1 ∧ mm.2.1 ≤ m2.2.1) ∧
    Met X.1 y (Cond.code y cc nL rt :: z_ws) (z_rm d (m2.1 - mm.1) (m2.2.1 - mm.2.1)) (va_Pc av (z_Pre X mm)) (z_Q X rt r m2) (m2.1 - mm.1) (m2.2.1 - mm.2.1) (z_A X)
theorem z_S.to {X : z_X} {s U : State} {H : Heap} {locs : List Loc} (h : z_S X s s.heap) (hS : va_S (z_A X) s.heap H locs) (hW : s.WarmedH U.vm) : z_S X U H := by
  obtain ⟨⟨h1, h2⟩, h3, h4, h5, h6, h7, h8, h9⟩ := h
  have ha := hW.alike
  exact ⟨⟨(h1.moved ha).kept hS.2.1, (h2.moved ha).kept hS.2.1⟩, fun t ht => ((h3 t ht).moved ha).kept hS.2.1, (h4.moved ha).kept hS.2.1, (h5.moved ha).kept hS.2.1, h6.warm hW, h7.moved ha, (h8.moved ha).kept hS.2.1, fun q hq => (h9 q hq).warmM hW⟩
theorem z_S.call {X : z_X} {U : State} {g : JFrame} {mk : MethodId} {a : Array Value} (h : z_S X U U.heap) : z_S X (U.calling g mk a) (U.calling g mk a).heap := by
  obtain ⟨⟨h1, h2⟩, h3, h4, h5, h6, h7, h8, h9⟩ := h
  have ha : U.vm.Alike (U.calling g mk a).vm := Vm.Alike.refl U.vm
  exact ⟨⟨h1.moved ha, h2.moved ha⟩, fun t ht => (h3 t ht).moved ha, h4.moved ha, h5.moved ha, h6.same rfl, h7.moved ha, h8.moved ha, fun q hq => (h9 q hq).same rfl rfl⟩
theorem z_blind (X : z_X) (av : List Value) (mm : z_M) : FrameBlind (va_Pc av (z_Pre X mm)) := by
  intro a U g mk h
  obtain ⟨h1, h2, h3, h4⟩ := h
  exact ⟨h1, h2, va_K.moved (u := U) (U := U.calling g mk a) (Vm.Alike.refl U.vm) h3, h4.call⟩
/-- a contract out of the walk -/
theorem z_Ct.of {X : z_X} {y : MethodName} {cc : ByteArray} {nL : Nat} {rt : Option FieldType} {d : Nat} {av : List Value} {mm : z_M} {o : z_R} (hy : plainName y.cls = true) (hn : (lg_sl av).length ≤ nL) (K : z_Sim X y cc nL rt d 0 (lv_args 0 av) [] mm o) : z_Ct X y cc nL rt d av mm o := by
  intro r m2 ho
  obtain ⟨hm, hW⟩ := K r m2 ho
  refine ⟨hm, Met.ofW (cc := cc) (maxL := nL) (ret := rt) hy rfl ?_⟩
  intro p e s m args below meth c s₁ B hml hv
  obtain ⟨rfl, hP, hK, hSt⟩ := hv
  have hts := atoms_spec (ws := Cond.code y cc nL rt :: z_ws) B.pre
  have hen : z_En X y cc nL rt p s m av.toArray meth c := ⟨⟨B.exec, B.bytes, hml, findClass_of_methodNamed B.named, fun w hw => hts w (List.mem_cons_of_mem _ hw)⟩, B.returns, B.notSynchronized, fun hi => (name_of_methodNamed B.named B.method).1.trans hi, hK, by rw [hP.1]; exact Nat.le_add_right _ _, hSt⟩
  have hl := lv_entry av (n := nL) hn
  rw [lg_entry_eq]
  have h := hW p e s m av.toArray below meth c mm.1 mm.2.1 s.heap [] _ hen (Nat.le_refl _) (Nat.le_refl _) hP va_S.rf hl
  rw [Nat.sub_self, Nat.sub_self] at h
  exact h
section
variable {X : z_X} {y : MethodName} {cc : ByteArray} {nL : Nat} {rt : Option FieldType} {d : Nat} {pc : Nat} {lv lv' : List (Nat × Value)} {st : List Value} {mm : z_M} {o : z_R}
theorem z_sub (ks : List Nat) (h : lv_pick lv ks = lv') (K : z_Sim X y cc nL rt d pc lv' st mm o) : z_Sim X y cc nL rt d pc lv st mm o := by
  intro r m2 ho
  obtain ⟨a, b⟩ := K r m2 ho
  exact ⟨a, fun p e s m args below meth c n0 z0 H locs ls hE h1 h2 hH hS hl => b p e s m args below meth c n0 z0 H locs ls hE h1 h2 hH hS (lv_sub hl ks h)⟩
theorem z_none : z_Sim X y cc nL rt d pc lv st mm none := by
  intro r m2 ho
  cases ho
/-- a step that touches no heap -/
theorem z_one {pc' : Nat} {st' : List Value} (h : ∀ (p : Program) (e : Env) (R : Room) (s : State) (m : MethodId) (args : Array Value) (below : List Frame) (meth : Method) (c : Code) (H : Heap) (locs : List Loc) (cells slots : Nat) (Q : State → Prop) (ls : Array Slot),
      p.tables.exec = Jvm.exec → c.code = cc → s.vm.findClass y.cls = some m.cls → (∀ w ∈ z_ws, w.before args s = true) → lv_has ls nL lv → (∀ ls' : Array Slot, lv_has ls' nL lv' → W p X.1 e R s m args below meth c H locs cells slots Q (F0 m pc' ls' st')) → W p X.1 e R s m args below meth c H locs cells slots Q (F0 m pc ls st))
    (K : z_Sim X y cc nL rt d pc' lv' st' mm o) : z_Sim X y cc nL rt d pc lv st mm o := by
  intro r m2 ho
  obtain ⟨a, b⟩ := K r m2 ho
  exact ⟨a, fun p e s m args below meth c n0 z0 H locs ls hE h1 h2 hH hS hl => h _ _ _ _ _ _ _ _ _ _ _ _ _ _ _ hE.1.1 hE.1.2.1 hE.1.2.2.2.1 hE.1.2.2.2.2 hl (fun ls' hl' => b p e s m args below meth c n0 z0 H locs ls' hE h1 h2 hH hS hl')⟩

theorem z_iconst {n : Int} {v : Int32} (hd : decode cc pc = .ok (.iconst n, 1)) (hv : Int32.ofInt n = v) (K : z_Sim X y cc nL rt d (pc + 1) lv (.int v :: st) mm o) : z_Sim X y cc nL rt d pc lv st mm o :=
  z_one (fun _ _ _ _ _ _ _ _ _ _ _ _ _ _ ls hx hb _ _ hl k => lv_iconst hx hb hd hv (k ls hl)) K
theorem z_bipush {n : Int} {v : Int32} (hd : decode cc pc = .ok (.bipush n, 2)) (hv : (Int8.ofInt n).toInt32 = v) (K : z_Sim X y cc nL rt d (pc + 2) lv (.int v :: st) mm o) : z_Sim X y cc nL rt d pc lv st mm o :=
  z_one (fun _ _ _ _ _ _ _ _ _ _ _ _ _ _ ls hx hb _ _ hl k => lv_bipush hx hb hd hv (k ls hl)) K
theorem z_sipush {n : Int} {v : Int32} (hd : decode cc pc = .ok (.sipush n, 3)) (hv : (Int16.ofInt n).toInt32 = v) (K : z_Sim X y cc nL rt d (pc + 3) lv (.int v :: st) mm o) : z_Sim X y cc nL rt d pc lv st mm o :=
  z_one (fun _ _ _ _ _ _ _ _ _ _ _ _ _ _ ls hx hb _ _ hl k => lv_sipush hx hb hd hv (k ls hl)) K
theorem z_lconst {n : Fin 2} {v : Int64} (hd : decode cc pc = .ok (.lconst n, 1)) (hv : Int64.ofNat (n : Nat) = v) (K : z_Sim X y cc nL rt d (pc + 1) lv (.long v :: st) mm o) : z_Sim X y cc nL rt d pc lv st mm o :=
  z_one (fun _ _ _ _ _ _ _ _ _ _ _ _ _ _ ls hx hb _ _ hl k => lv_lconst hx hb hd hv (k ls hl)) K
theorem z_ldc2 {ix : Nat} {v : Int64} (hd : decode cc pc = .ok (.ldc2_w ix, 3)) (hw : Cond.constantLong y.cls ix v ∈ z_ws) (K : z_Sim X y cc nL rt d (pc + 3) lv (.long v :: st) mm o) : z_Sim X y cc nL rt d pc lv st mm o :=
  z_one (fun _ _ _ _ _ _ _ _ _ _ _ _ _ _ ls hx hb ho hts hl k => lv_ldc2 hx hb ho (hts _ hw) hd (k ls hl)) K
theorem z_ldc {ix : Nat} {v : Int32} (hd : decode cc pc = .ok (.ldc ix, 2)) (hw : Cond.constant y.cls ix v ∈ z_ws) (K : z_Sim X y cc nL rt d (pc + 2) lv (.int v :: st) mm o) : z_Sim X y cc nL rt d pc lv st mm o :=
  z_one (fun _ _ _ _ _ _ _ _ _ _ _ _ _ _ ls hx hb ho hts hl k => lv_ldc hx hb ho (hts _ hw) hd (k ls hl)) K
theorem z_ldcw {ix : Nat} {v : Int32} (hd : decode cc pc = .ok (.ldc_w ix, 3)) (hw : Cond.constant y.cls ix v ∈ z_ws) (K : z_Sim X y cc nL rt d (pc + 3) lv (.int v :: st) mm o) : z_Sim X y cc nL rt d pc lv st mm o :=
  z_one (fun _ _ _ _ _ _ _ _ _ _ _ _ _ _ ls hx hb ho hts hl k => lv_ldcw hx hb ho (hts _ hw) hd (k ls hl)) K
theorem z_iload_n {k : Fin 4} {i : Nat} {x : Int32} (hd : decode cc pc = .ok (.iload_n k, 1)) (hi : (k : Nat) = i) (j : Nat) (hj : lv[j]? = some (i, .int x)) (K : z_Sim X y cc nL rt d (pc + 1) lv (.int x :: st) mm o) : z_Sim X y cc nL rt d pc lv st mm o :=
  z_one (fun _ _ _ _ _ _ _ _ _ _ _ _ _ _ ls hx hb _ _ hl k => lv_iload_n hx hb hd hi (lv_at hl j hj) (k ls hl)) K
theorem z_iload {i : Nat} {x : Int32} (hd : decode cc pc = .ok (.iload i, 2)) (j : Nat) (hj : lv[j]? = some (i, .int x)) (K : z_Sim X y cc nL rt d (pc + 2) lv (.int x :: st) mm o) : z_Sim X y cc nL rt d pc lv st mm o :=
  z_one (fun _ _ _ _ _ _ _ _ _ _ _ _ _ _ ls hx hb _ _ hl k => lv_iload hx hb hd (lv_at hl j hj) (k ls hl)) K
theorem z_lload_n {k : Fin 4} {i : Nat} {x : Int64} (hd : decode cc pc = .ok (.lload_n k, 1)) (hi : (k : Nat) = i) (j : Nat) (hj : lv[j]? = some (i, .long x)) (K : z_Sim X y cc nL rt d (pc + 1) lv (.long x :: st) mm o) : z_Sim X y cc nL rt d pc lv st mm o :=
  z_one (fun _ _ _ _ _ _ _ _ _ _ _ _ _ _ ls hx hb _ _ hl k => lv_lload_n hx hb hd hi (lv_at hl j hj) (k ls hl)) K
theorem z_lload {i : Nat} {x : Int64} (hd : decode cc pc = .ok (.lload i, 2)) (j : Nat) (hj : lv[j]? = some (i, .long x)) (K : z_Sim X y cc nL rt d (pc + 2) lv (.long x :: st) mm o) : z_Sim X y cc nL rt d pc lv st mm o :=
  z_one (fun _ _ _ _ _ _ _ _ _ _ _ _ _ _ ls hx hb _ _ hl k => lv_lload hx hb hd (lv_at hl j hj) (k ls hl)) K
theorem z_aload_n {k : Fin 4} {i : Nat} {x : Nat} (hd : decode cc pc = .ok (.aload_n k, 1)) (hi : (k : Nat) = i) (j : Nat) (hj : lv[j]? = some (i, .ref x)) (K : z_Sim X y cc nL rt d (pc + 1) lv (.ref x :: st) mm o) : z_Sim X y cc nL rt d pc lv st mm o :=
  z_one (fun _ _ _ _ _ _ _ _ _ _ _ _ _ _ ls hx hb _ _ hl k => lv_aload_n hx hb hd hi (lv_at hl j hj) (k ls hl)) K
theorem z_aload {i : Nat} {x : Nat} (hd : decode cc pc = .ok (.aload i, 2)) (j : Nat) (hj : lv[j]? = some (i, .ref x)) (K : z_Sim X y cc nL rt d (pc + 2) lv (.ref x :: st) mm o) : z_Sim X y cc nL rt d pc lv st mm o :=
  z_one (fun _ _ _ _ _ _ _ _ _ _ _ _ _ _ ls hx hb _ _ hl k => lv_aload hx hb hd (lv_at hl j hj) (k ls hl)) K
theorem z_istore_n {k : Fin 4} {i : Nat} {x : Int32} (hd : decode cc pc = .ok (.istore_n k, 1)) (hi : (k : Nat) = i) (hn : i < nL) (hl : (i, Value.int x) :: lv.filter (fun q => !(q.1 == i) && !(q.1 + 1 == i && q.2.category == 2)) = lv') (K : z_Sim X y cc nL rt d (pc + 1) lv' st mm o) : z_Sim X y cc nL rt d pc lv (.int x :: st) mm o :=
  z_one (fun _ _ _ _ _ _ _ _ _ _ _ _ _ _ ls hx hb _ _ h k => lv_istore_n hx hb hd hi h hn hl k) K
theorem z_istore {i : Nat} {x : Int32} (hd : decode cc pc = .ok (.istore i, 2)) (hn : i < nL) (hl : (i, Value.int x) :: lv.filter (fun q => !(q.1 == i) && !(q.1 + 1 == i && q.2.category == 2)) = lv') (K : z_Sim X y cc nL rt d (pc + 2) lv' st mm o) : z_Sim X y cc nL rt d pc lv (.int x :: st) mm o :=
  z_one (fun _ _ _ _ _ _ _ _ _ _ _ _ _ _ ls hx hb _ _ h k => lv_istore hx hb hd h hn hl k) K
theorem z_lstore_n {k : Fin 4} {i : Nat} {x : Int64} (hd : decode cc pc = .ok (.lstore_n k, 1)) (hi : (k : Nat) = i) (hn : i + 1 < nL) (hl : (i, Value.long x) :: lv.filter (fun q => !(q.1 == i) && (!(q.1 == i + 1) && !(q.1 + 1 == i && q.2.category == 2))) = lv') (K : z_Sim X y cc nL rt d (pc + 1) lv' st mm o) : z_Sim X y cc nL rt d pc lv (.long x :: st) mm o :=
  z_one (fun _ _ _ _ _ _ _ _ _ _ _ _ _ _ ls hx hb _ _ h k => lv_lstore_n hx hb hd hi h hn hl k) K
theorem z_lstore {i : Nat} {x : Int64} (hd : decode cc pc = .ok (.lstore i, 2)) (hn : i + 1 < nL) (hl : (i, Value.long x) :: lv.filter (fun q => !(q.1 == i) && (!(q.1 == i + 1) && !(q.1 + 1 == i && q.2.category == 2))) = lv') (K : z_Sim X y cc nL rt d (pc + 2) lv' st mm o) : z_Sim X y cc nL rt d pc lv (.long x :: st) mm o :=
  z_one (fun _ _ _ _ _ _ _ _ _ _ _ _ _ _ ls hx hb _ _ h k => lv_lstore hx hb hd h hn hl k) K
theorem z_astore_n {k : Fin 4} {i : Nat} {x : Nat} (hd : decode cc pc = .ok (.astore_n k, 1)) (hi : (k : Nat) = i) (hn : i < nL) (hl : (i, Value.ref x) :: lv.filter (fun q => !(q.1 == i) && !(q.1 + 1 == i && q.2.category == 2)) = lv') (K : z_Sim X y cc nL rt d (pc + 1) lv' st mm o) : z_Sim X y cc nL rt d pc lv (.ref x :: st) mm o :=
  z_one (fun _ _ _ _ _ _ _ _ _ _ _ _ _ _ ls hx hb _ _ h k => lv_astore_n hx hb hd hi h hn hl k) K
theorem z_astore {i : Nat} {x : Nat} (hd : decode cc pc = .ok (.astore i, 2)) (hn : i < nL) (hl : (i, Value.ref x) :: lv.filter (fun q => !(q.1 == i) && !(q.1 + 1 == i && q.2.category == 2)) = lv') (K : z_Sim X y cc nL rt d (pc + 2) lv' st mm o) : z_Sim X y cc nL rt d pc lv (.ref x :: st) mm o :=
  z_one (fun _ _ _ _ _ _ _ _ _ _ _ _ _ _ ls hx hb _ _ h k => lv_astore hx hb hd h hn hl k) K
theorem z_iinc {i k : Nat} {n : Int} {x v : Int32} (hd : decode cc pc = .ok (.iinc i n, 3)) (hk : lv[k]? = some (i, .int x)) (hv : x + Int32.ofInt n = v) (hn : i < nL) (hl : (i, Value.int v) :: lv.filter (fun q => !(q.1 == i) && !(q.1 + 1 == i && q.2.category == 2)) = lv') (K : z_Sim X y cc nL rt d (pc + 3) lv' st mm o) : z_Sim X y cc nL rt d pc lv st mm o :=
  z_one (fun _ _ _ _ _ _ _ _ _ _ _ _ _ _ ls hx hb _ _ h kk => lv_iinc hx hb hd h hk hv hn hl kk) K
theorem z_iadd {x y1 : Int32} (hd : decode cc pc = .ok (.iadd, 1)) (K : z_Sim X y cc nL rt d (pc + 1) lv (.int (x + y1) :: st) mm o) : z_Sim X y cc nL rt d pc lv (.int y1 :: .int x :: st) mm o :=
  z_one (fun _ _ _ _ _ _ _ _ _ _ _ _ _ _ ls hx hb _ _ hl k => lv_iadd hx hb hd (k ls hl)) K
theorem z_isub {x y1 : Int32} (hd : decode cc pc = .ok (.isub, 1)) (K : z_Sim X y cc nL rt d (pc + 1) lv (.int (x - y1) :: st) mm o) : z_Sim X y cc nL rt d pc lv (.int y1 :: .int x :: st) mm o :=
  z_one (fun _ _ _ _ _ _ _ _ _ _ _ _ _ _ ls hx hb _ _ hl k => lv_isub hx hb hd (k ls hl)) K
theorem z_imul {x y1 : Int32} (hd : decode cc pc = .ok (.imul, 1)) (K : z_Sim X y cc nL rt d (pc + 1) lv (.int (x * y1) :: st) mm o) : z_Sim X y cc nL rt d pc lv (.int y1 :: .int x :: st) mm o :=
  z_one (fun _ _ _ _ _ _ _ _ _ _ _ _ _ _ ls hx hb _ _ hl k => lv_imul hx hb hd (k ls hl)) K
theorem z_iand {x y1 : Int32} (hd : decode cc pc = .ok (.iand, 1)) (K : z_Sim X y cc nL rt d (pc + 1) lv (.int (x &&& y1) :: st) mm o) : z_Sim X y cc nL rt d pc lv (.int y1 :: .int x :: st) mm o :=
  z_one (fun _ _ _ _ _ _ _ _ _ _ _ _ _ _ ls hx hb _ _ hl k => lv_iand hx hb hd (k ls hl)) K
theorem z_ior {x y1 : Int32} (hd : decode cc pc = .ok (.ior, 1)) (K : z_Sim X y cc nL rt d (pc + 1) lv (.int (x ||| y1) :: st) mm o) : z_Sim X y cc nL rt d pc lv (.int y1 :: .int x :: st) mm o :=
  z_one (fun _ _ _ _ _ _ _ _ _ _ _ _ _ _ ls hx hb _ _ hl k => lv_ior hx hb hd (k ls hl)) K
theorem z_ixor {x y1 : Int32} (hd : decode cc pc = .ok (.ixor, 1)) (K : z_Sim X y cc nL rt d (pc + 1) lv (.int (x ^^^ y1) :: st) mm o) : z_Sim X y cc nL rt d pc lv (.int y1 :: .int x :: st) mm o :=
  z_one (fun _ _ _ _ _ _ _ _ _ _ _ _ _ _ ls hx hb _ _ hl k => lv_ixor hx hb hd (k ls hl)) K
theorem z_ishl {x y1 : Int32} (hd : decode cc pc = .ok (.ishl, 1)) (K : z_Sim X y cc nL rt d (pc + 1) lv (.int (x <<< (y1 &&& 31)) :: st) mm o) : z_Sim X y cc nL rt d pc lv (.int y1 :: .int x :: st) mm o :=
  z_one (fun _ _ _ _ _ _ _ _ _ _ _ _ _ _ ls hx hb _ _ hl k => lv_ishl hx hb hd (k ls hl)) K
theorem z_ishr {x y1 : Int32} (hd : decode cc pc = .ok (.ishr, 1)) (K : z_Sim X y cc nL rt d (pc + 1) lv (.int (x >>> (y1 &&& 31)) :: st) mm o) : z_Sim X y cc nL rt d pc lv (.int y1 :: .int x :: st) mm o :=
  z_one (fun _ _ _ _ _ _ _ _ _ _ _ _ _ _ ls hx hb _ _ hl k => lv_ishr hx hb hd (k ls hl)) K
theorem z_ladd {x y1 : Int64} (hd : decode cc pc = .ok (.ladd, 1)) (K : z_Sim X y cc nL rt d (pc + 1) lv (.long (x + y1) :: st) mm o) : z_Sim X y cc nL rt d pc lv (.long y1 :: .long x :: st) mm o :=
  z_one (fun _ _ _ _ _ _ _ _ _ _ _ _ _ _ ls hx hb _ _ hl k => lv_ladd hx hb hd (k ls hl)) K
theorem z_lmul {x y1 : Int64} (hd : decode cc pc = .ok (.lmul, 1)) (K : z_Sim X y cc nL rt d (pc + 1) lv (.long (x * y1) :: st) mm o) : z_Sim X y cc nL rt d pc lv (.long y1 :: .long x :: st) mm o :=
  z_one (fun _ _ _ _ _ _ _ _ _ _ _ _ _ _ ls hx hb _ _ hl k => lv_lmul hx hb hd (k ls hl)) K
theorem z_idiv {x y1 : Int32} (hd : decode cc pc = .ok (.idiv, 1)) (hne : ¬ y1 = 0) (K : z_Sim X y cc nL rt d (pc + 1) lv (.int (x / y1) :: st) mm o) : z_Sim X y cc nL rt d pc lv (.int y1 :: .int x :: st) mm o :=
  z_one (fun _ _ _ _ _ _ _ _ _ _ _ _ _ _ ls hx hb _ _ hl k => lv_idiv hx hb hd hne (k ls hl)) K
theorem z_irem {x y1 : Int32} (hd : decode cc pc = .ok (.irem, 1)) (hne : ¬ y1 = 0) (K : z_Sim X y cc nL rt d (pc + 1) lv (.int (z_mI x y1) :: st) mm o) : z_Sim X y cc nL rt d pc lv (.int y1 :: .int x :: st) mm o :=
  z_one (fun _ _ _ _ _ _ _ _ _ _ _ _ _ _ ls hx hb _ _ hl k => lv_irem hx hb hd hne (k ls hl)) K
theorem z_ldiv {x y1 : Int64} (hd : decode cc pc = .ok (.ldiv, 1)) (hne : ¬ y1 = 0) (K : z_Sim X y cc nL rt d (pc + 1) lv (.long (x / y1) :: st) mm o) : z_Sim X y cc nL rt d pc lv (.long y1 :: .long x :: st) mm o :=
  z_one (fun _ _ _ _ _ _ _ _ _ _ _ _ _ _ ls hx hb _ _ hl k => lv_ldiv hx hb hd hne (k ls hl)) K
theorem z_lrem {x y1 : Int64} (hd : decode cc pc = .ok (.lrem, 1)) (hne : ¬ y1 = 0) (K : z_Sim X y cc nL rt d (pc + 1) lv (.long (z_mL x y1) :: st) mm o) : z_Sim X y cc nL rt d pc lv (.long y1 :: .long x :: st) mm o :=
  z_one (fun _ _ _ _ _ _ _ _ _ _ _ _ _ _ ls hx hb _ _ hl k => lv_lrem hx hb hd hne (k ls hl)) K
theorem z_iushr {x y1 : Int32} (hd : decode cc pc = .ok (.iushr, 1)) (K : z_Sim X y cc nL rt d (pc + 1) lv (.int (x.toUInt32 >>> (y1.toUInt32 &&& Int32.toUInt32 31)).toInt32 :: st) mm o) : z_Sim X y cc nL rt d pc lv (.int y1 :: .int x :: st) mm o :=
  z_one (fun _ _ _ _ _ _ _ _ _ _ _ _ _ _ ls hx hb _ _ hl k => lv_iushr hx hb hd rfl (k ls hl)) K
theorem z_i2l {x : Int32} (hd : decode cc pc = .ok (.i2l, 1)) (K : z_Sim X y cc nL rt d (pc + 1) lv (.long x.toInt64 :: st) mm o) : z_Sim X y cc nL rt d pc lv (.int x :: st) mm o :=
  z_one (fun _ _ _ _ _ _ _ _ _ _ _ _ _ _ ls hx hb _ _ hl k => lv_i2l hx hb hd rfl (k ls hl)) K
theorem z_l2i {x : Int64} (hd : decode cc pc = .ok (.l2i, 1)) (K : z_Sim X y cc nL rt d (pc + 1) lv (.int x.toInt32 :: st) mm o) : z_Sim X y cc nL rt d pc lv (.long x :: st) mm o :=
  z_one (fun _ _ _ _ _ _ _ _ _ _ _ _ _ _ ls hx hb _ _ hl k => lv_l2i hx hb hd rfl (k ls hl)) K
theorem z_i2c {x : Int32} (hd : decode cc pc = .ok (.i2c, 1)) (K : z_Sim X y cc nL rt d (pc + 1) lv (.int (x.toUInt32 % 65536).toInt32 :: st) mm o) : z_Sim X y cc nL rt d pc lv (.int x :: st) mm o :=
  z_one (fun _ _ _ _ _ _ _ _ _ _ _ _ _ _ ls hx hb _ _ hl k => lv_i2c hx hb hd rfl (k ls hl)) K
theorem z_dup {v : Value} (hd : decode cc pc = .ok (.dup, 1)) (hv : v.category = 1) (K : z_Sim X y cc nL rt d (pc + 1) lv (v :: v :: st) mm o) : z_Sim X y cc nL rt d pc lv (v :: st) mm o :=
  z_one (fun _ _ _ _ _ _ _ _ _ _ _ _ _ _ ls hx hb _ _ hl k => lv_dup hx hb hd hv (k ls hl)) K
theorem z_pop {v : Value} (hd : decode cc pc = .ok (.pop, 1)) (hv : v.category = 1) (K : z_Sim X y cc nL rt d (pc + 1) lv st mm o) : z_Sim X y cc nL rt d pc lv (v :: st) mm o :=
  z_one (fun _ _ _ _ _ _ _ _ _ _ _ _ _ _ ls hx hb _ _ hl k => lv_pop hx hb hd hv (k ls hl)) K
theorem z_dup2 {v w : Value} (hd : decode cc pc = .ok (.dup2, 1)) (hv : v.category = 1) (hw : w.category = 1) (K : z_Sim X y cc nL rt d (pc + 1) lv (v :: w :: v :: w :: st) mm o) : z_Sim X y cc nL rt d pc lv (v :: w :: st) mm o :=
  z_one (fun _ _ _ _ _ _ _ _ _ _ _ _ _ _ ls hx hb _ _ hl k => lv_dup2_11 hx hb hd hv hw (k ls hl)) K
theorem z_goto {off : Int} {tg : Nat} (hd : decode cc pc = .ok (.goto off, 3)) (ht : (pc : Int) + off = (tg : Int)) (K : z_Sim X y cc nL rt d tg lv st mm o) : z_Sim X y cc nL rt d pc lv st mm o :=
  z_one (fun _ _ _ _ _ _ _ _ _ _ _ _ _ _ ls hx hb _ _ hl k => lv_goto hx hb hd ht (k ls hl)) K
/-- both ways of a test -/
theorem z_if {c0 : Prop} [Decidable c0] {o1 o2 : z_R} (h1 : c0 → z_Sim X y cc nL rt d pc lv st mm o1) (h2 : ¬ c0 → z_Sim X y cc nL rt d pc lv st mm o2) : z_Sim X y cc nL rt d pc lv st mm (if c0 then o1 else o2) := by
  by_cases h : c0
  · rw [if_pos h]; exact h1 h
  · rw [if_neg h]; exact h2 h
theorem z_if_eq {x : Int32} {off : Int} {tg : Nat} {o1 o2 : z_R} (hd : decode cc pc = .ok (.ifCond .eq off, 3)) (ht : (pc : Int) + off = (tg : Int)) (K1 : z_Sim X y cc nL rt d tg lv st mm o1) (K2 : z_Sim X y cc nL rt d (pc + 3) lv st mm o2) : z_Sim X y cc nL rt d pc lv (.int x :: st) mm (if x = 0 then o1 else o2) :=
  z_if (fun h => z_one (fun _ _ _ _ _ _ _ _ _ _ _ _ _ _ ls hx hb _ _ hl k => lv_if_eq hx hb hd ht (fun _ => k ls hl) (fun q => absurd h q)) K1) (fun h => z_one (fun _ _ _ _ _ _ _ _ _ _ _ _ _ _ ls hx hb _ _ hl k => lv_if_eq hx hb hd ht (fun q => absurd q h) (fun _ => k ls hl)) K2)
theorem z_icmp_eq {x y1 : Int32} {off : Int} {tg : Nat} {o1 o2 : z_R} (hd : decode cc pc = .ok (.if_icmp .eq off, 3)) (ht : (pc : Int) + off = (tg : Int)) (K1 : z_Sim X y cc nL rt d tg lv st mm o1) (K2 : z_Sim X y cc nL rt d (pc + 3) lv st mm o2) : z_Sim X y cc nL rt d pc lv (.int y1 :: .int x :: st) mm (if x = y1 then o1 else o2) :=
  z_if (fun h => z_one (fun _ _ _ _ _ _ _ _ _ _ _ _ _ _ ls hx hb _ _ hl k => lv_icmp_eq hx hb hd ht (fun _ => k ls hl) (fun q => absurd h q)) K1) (fun h => z_one (fun _ _ _ _ _ _ _ _ _ _ _ _ _ _ ls hx hb _ _ hl k => lv_icmp_eq hx hb hd ht (fun q => absurd q h) (fun _ => k ls hl)) K2)
theorem z_if_ne {x : Int32} {off : Int} {tg : Nat} {o1 o2 : z_R} (hd : decode cc pc = .ok (.ifCond .ne off, 3)) (ht : (pc : Int) + off = (tg : Int)) (K1 : z_Sim X y cc nL rt d tg lv st mm o1) (K2 : z_Sim X y cc nL rt d (pc + 3) lv st mm o2) : z_Sim X y cc nL rt d pc lv (.int x :: st) mm (if x = 0 then o2 else o1) :=
  z_if (fun h => z_one (fun _ _ _ _ _ _ _ _ _ _ _ _ _ _ ls hx hb _ _ hl k => lv_if_ne hx hb hd ht (fun q => absurd h q) (fun _ => k ls hl)) K2) (fun h => z_one (fun _ _ _ _ _ _ _ _ _ _ _ _ _ _ ls hx hb _ _ hl k => lv_if_ne hx hb hd ht (fun _ => k ls hl) (fun q => absurd q h)) K1)
theorem z_icmp_ne {x y1 : Int32} {off : Int} {tg : Nat} {o1 o2 : z_R} (hd : decode cc pc = .ok (.if_icmp .ne off, 3)) (ht : (pc : Int) + off = (tg : Int)) (K1 : z_Sim X y cc nL rt d tg lv st mm o1) (K2 : z_Sim X y cc nL rt d (pc + 3) lv st mm o2) : z_Sim X y cc nL rt d pc lv (.int y1 :: .int x :: st) mm (if x = y1 then o2 else o1) :=
  z_if (fun h => z_one (fun _ _ _ _ _ _ _ _ _ _ _ _ _ _ ls hx hb _ _ hl k => lv_icmp_ne hx hb hd ht (fun q => absurd h q) (fun _ => k ls hl)) K2) (fun h => z_one (fun _ _ _ _ _ _ _ _ _ _ _ _ _ _ ls hx hb _ _ hl k => lv_icmp_ne hx hb hd ht (fun _ => k ls hl) (fun q => absurd q h)) K1)
theorem z_if_lt {x : Int32} {off : Int} {tg : Nat} {o1 o2 : z_R} (hd : decode cc pc = .ok (.ifCond .lt off, 3)) (ht : (pc : Int) + off = (tg : Int)) (K1 : z_Sim X y cc nL rt d tg lv st mm o1) (K2 : z_Sim X y cc nL rt d (pc + 3) lv st mm o2) : z_Sim X y cc nL rt d pc lv (.int x :: st) mm (if x < 0 then o1 else o2) :=
  z_if (fun h => z_one (fun _ _ _ _ _ _ _ _ _ _ _ _ _ _ ls hx hb _ _ hl k => lv_if_lt hx hb hd ht (fun _ => k ls hl) (fun q => absurd h q)) K1) (fun h => z_one (fun _ _ _ _ _ _ _ _ _ _ _ _ _ _ ls hx hb _ _ hl k => lv_if_lt hx hb hd ht (fun q => absurd q h) (fun _ => k ls hl)) K2)
theorem z_icmp_lt {x y1 : Int32} {off : Int} {tg : Nat} {o1 o2 : z_R} (hd : decode cc pc = .ok (.if_icmp .lt off, 3)) (ht : (pc : Int) + off = (tg : Int)) (K1 : z_Sim X y cc nL rt d tg lv st mm o1) (K2 : z_Sim X y cc nL rt d (pc + 3) lv st mm o2) : z_Sim X y cc nL rt d pc lv (.int y1 :: .int x :: st) mm (if x < y1 then o1 else o2) :=
  z_if (fun h => z_one (fun _ _ _ _ _ _ _ _ _ _ _ _ _ _ ls hx hb _ _ hl k => lv_icmp_lt hx hb hd ht (fun _ => k ls hl) (fun q => absurd h q)) K1) (fun h => z_one (fun _ _ _ _ _ _ _ _ _ _ _ _ _ _ ls hx hb _ _ hl k => lv_icmp_lt hx hb hd ht (fun q => absurd q h) (fun _ => k ls hl)) K2)
theorem z_if_ge {x : Int32} {off : Int} {tg : Nat} {o1 o2 : z_R} (hd : decode cc pc = .ok (.ifCond .ge off, 3)) (ht : (pc : Int) + off = (tg : Int)) (K1 : z_Sim X y cc nL rt d tg lv st mm o1) (K2 : z_Sim X y cc nL rt d (pc + 3) lv st mm o2) : z_Sim X y cc nL rt d pc lv (.int x :: st) mm (if 0 ≤ x then o1 else o2) :=
  z_if (fun h => z_one (fun _ _ _ _ _ _ _ _ _ _ _ _ _ _ ls hx hb _ _ hl k => lv_if_ge hx hb hd ht (fun _ => k ls hl) (fun q => absurd h q)) K1) (fun h => z_one (fun _ _ _ _ _ _ _ _ _ _ _ _ _ _ ls hx hb _ _ hl k => lv_if_ge hx hb hd ht (fun q => absurd q h) (fun _ => k ls hl)) K2)
theorem z_icmp_ge {x y1 : Int32} {off : Int} {tg : Nat} {o1 o2 : z_R} (hd : decode cc pc = .ok (.if_icmp .ge off, 3)) (ht : (pc : Int) + off = (tg : Int)) (K1 : z_Sim X y cc nL rt d tg lv st mm o1) (K2 : z_Sim X y cc nL rt d (pc + 3) lv st mm o2) : z_Sim X y cc nL rt d pc lv (.int y1 :: .int x :: st) mm (if y1 ≤ x then o1 else o2) :=
  z_if (fun h => z_one (fun _ _ _ _ _ _ _ _ _ _ _ _ _ _ ls hx hb _ _ hl k => lv_icmp_ge hx hb hd ht (fun _ => k ls hl) (fun q => absurd h q)) K1) (fun h => z_one (fun _ _ _ _ _ _ _ _ _ _ _ _ _ _ ls hx hb _ _ hl k => lv_icmp_ge hx hb hd ht (fun q => absurd q h) (fun _ => k ls hl)) K2)
theorem z_if_gt {x : Int32} {off : Int} {tg : Nat} {o1 o2 : z_R} (hd : decode cc pc = .ok (.ifCond .gt off, 3)) (ht : (pc : Int) + off = (tg : Int)) (K1 : z_Sim X y cc nL rt d tg lv st mm o1) (K2 : z_Sim X y cc nL rt d (pc + 3) lv st mm o2) : z_Sim X y cc nL rt d pc lv (.int x :: st) mm (if 0 < x then o1 else o2) :=
  z_if (fun h => z_one (fun _ _ _ _ _ _ _ _ _ _ _ _ _ _ ls hx hb _ _ hl k => lv_if_gt hx hb hd ht (fun _ => k ls hl) (fun q => absurd h q)) K1) (fun h => z_one (fun _ _ _ _ _ _ _ _ _ _ _ _ _ _ ls hx hb _ _ hl k => lv_if_gt hx hb hd ht (fun q => absurd q h) (fun _ => k ls hl)) K2)
theorem z_icmp_gt {x y1 : Int32} {off : Int} {tg : Nat} {o1 o2 : z_R} (hd : decode cc pc = .ok (.if_icmp .gt off, 3)) (ht : (pc : Int) + off = (tg : Int)) (K1 : z_Sim X y cc nL rt d tg lv st mm o1) (K2 : z_Sim X y cc nL rt d (pc + 3) lv st mm o2) : z_Sim X y cc nL rt d pc lv (.int y1 :: .int x :: st) mm (if y1 < x then o1 else o2) :=
  z_if (fun h => z_one (fun _ _ _ _ _ _ _ _ _ _ _ _ _ _ ls hx hb _ _ hl k => lv_icmp_gt hx hb hd ht (fun _ => k ls hl) (fun q => absurd h q)) K1) (fun h => z_one (fun _ _ _ _ _ _ _ _ _ _ _ _ _ _ ls hx hb _ _ hl k => lv_icmp_gt hx hb hd ht (fun q => absurd q h) (fun _ => k ls hl)) K2)
theorem z_if_le {x : Int32} {off : Int} {tg : Nat} {o1 o2 : z_R} (hd : decode cc pc = .ok (.ifCond .le off, 3)) (ht : (pc : Int) + off = (tg : Int)) (K1 : z_Sim X y cc nL rt d tg lv st mm o1) (K2 : z_Sim X y cc nL rt d (pc + 3) lv st mm o2) : z_Sim X y cc nL rt d pc lv (.int x :: st) mm (if x ≤ 0 then o1 else o2) :=
  z_if (fun h => z_one (fun _ _ _ _ _ _ _ _ _ _ _ _ _ _ ls hx hb _ _ hl k => lv_if_le hx hb hd ht (fun _ => k ls hl) (fun q => absurd h q)) K1) (fun h => z_one (fun _ _ _ _ _ _ _ _ _ _ _ _ _ _ ls hx hb _ _ hl k => lv_if_le hx hb hd ht (fun q => absurd q h) (fun _ => k ls hl)) K2)
theorem z_icmp_le {x y1 : Int32} {off : Int} {tg : Nat} {o1 o2 : z_R} (hd : decode cc pc = .ok (.if_icmp .le off, 3)) (ht : (pc : Int) + off = (tg : Int)) (K1 : z_Sim X y cc nL rt d tg lv st mm o1) (K2 : z_Sim X y cc nL rt d (pc + 3) lv st mm o2) : z_Sim X y cc nL rt d pc lv (.int y1 :: .int x :: st) mm (if x ≤ y1 then o1 else o2) :=
  z_if (fun h => z_one (fun _ _ _ _ _ _ _ _ _ _ _ _ _ _ ls hx hb _ _ hl k => lv_icmp_le hx hb hd ht (fun _ => k ls hl) (fun q => absurd h q)) K1) (fun h => z_one (fun _ _ _ _ _ _ _ _ _ _ _ _ _ _ ls hx hb _ _ hl k => lv_icmp_le hx hb hd ht (fun q => absurd q h) (fun _ => k ls hl)) K2)
theorem z_swOut {df lo hi : Int} {offs : Array Int} {ln : Nat} {x : Int32} {tg : Nat} (hd : decode cc pc = .ok (.tableswitch df lo hi offs, ln)) (h : x.toInt < lo ∨ hi < x.toInt) (ht : (pc : Int) + df = (tg : Int)) (K : z_Sim X y cc nL rt d tg lv st mm o) : z_Sim X y cc nL rt d pc lv (.int x :: st) mm o :=
  z_one (fun _ _ _ _ _ _ _ _ _ _ _ _ _ _ ls hx hb _ _ hl k => lv_tableOut hx hb hd h ht (k ls hl)) K
theorem z_swIn {df lo hi : Int} {offs : Array Int} {ln : Nat} {x : Int32} {off : Int} {tg : Nat} (hd : decode cc pc = .ok (.tableswitch df lo hi offs, ln)) (h1 : ¬ x.toInt < lo) (h2 : ¬ hi < x.toInt) (ho : offs[(x.toInt - lo).toNat]? = some off) (ht : (pc : Int) + off = (tg : Int)) (K : z_Sim X y cc nL rt d tg lv st mm o) : z_Sim X y cc nL rt d pc lv (.int x :: st) mm o :=
  z_one (fun _ _ _ _ _ _ _ _ _ _ _ _ _ _ ls hx hb _ _ hl k => lv_tableIn hx hb hd h1 h2 ho ht (k ls hl)) K
/-- a number gets a name -/
def z_lt (x : Int32) (k : Int32 → z_R) : z_R := k x
def z_lL (x : Int64) (k : Int64 → z_R) : z_R := k x
theorem z_nm {x : Int32} {k : Int32 → z_R} (K : ∀ v : Int32, z_Sim X y cc nL rt d pc lv (.int v :: st) mm (k v)) : z_Sim X y cc nL rt d pc lv (.int x :: st) mm (z_lt x k) := K x
theorem z_nm2 {x v0 : Int32} {k : Int32 → z_R} (K : ∀ v : Int32, z_Sim X y cc nL rt d pc lv (.int v :: .int v0 :: st) mm (k v)) : z_Sim X y cc nL rt d pc lv (.int x :: .int v0 :: st) mm (z_lt x k) := K x
theorem z_nmL {x : Int64} {k : Int64 → z_R} (K : ∀ v : Int64, z_Sim X y cc nL rt d pc lv (.long v :: st) mm (k v)) : z_Sim X y cc nL rt d pc lv (.long x :: st) mm (z_lL x k) := K x
end
end
section
/-! READS AND WRITES. Each row pairs an instruction with a word of the functional text. -/
def z_wI (m : z_M) (a j : Nat) (v : Int32) : z_M := (m.1, m.2.1, fun b k => if b = a ∧ k = j then v else m.2.2.1 b k, m.2.2.2)
def z_wP (m : z_M) (a j b0 : Nat) : z_M := (m.1, m.2.1, m.2.2.1, fun b k => if b = a ∧ k = j then some b0 else m.2.2.2 b k)
def z_wR (m : z_M) (a : Nat) (f : Nat → Int32) : z_M := (m.1, m.2.1, fun b k => if b = a then f k else m.2.2.1 b k, m.2.2.2)
def z_nw (m : z_M) : z_M := (m.1 + 1, m.2.1 + z_n m.1, fun b k => if b = m.1 then 0 else m.2.2.1 b k, fun b k => if b = m.1 then none else m.2.2.2 b k)
def z_gI (m : z_M) (a c j : Nat) (k : Int32 → z_R) : z_R := if a < m.1 ∧ z_k a = c then k (m.2.2.1 a j) else none
def z_gP (m : z_M) (a c j : Nat) (k : Nat → z_R) : z_R := if a < m.1 ∧ z_k a = c then (match m.2.2.2 a j with
  | some b => k b
  | none => none) else none
def z_sI (m : z_M) (a c j : Nat) (v : Int32) (k : z_M → z_R) : z_R := if a < m.1 ∧ z_k a = c then k (z_wI m a j v) else none
def z_sP (m : z_M) (a c j b : Nat) (k : z_M → z_R) : z_R := if a < m.1 ∧ z_k a = c then k (z_wP m a j b) else none
def z_al (m : z_M) (a : Nat) (i : Int32) (k : Int32 → z_R) : z_R := if a < m.1 ∧ z_k a = 6 ∧ 0 ≤ i.toInt ∧ i.toInt < z_n a then k (m.2.2.1 a i.toNatClampNeg) else none
def z_cl (m : z_M) (a : Nat) (i : Int32) (k : Int32 → z_R) : z_R := if a < m.1 ∧ z_k a = 7 ∧ 0 ≤ i.toInt ∧ i.toInt < z_n a then k (m.2.2.1 a i.toNatClampNeg) else none
def z_as (m : z_M) (a : Nat) (i v : Int32) (k : z_M → z_R) : z_R := if a < m.1 ∧ z_k a = 6 ∧ 0 ≤ i.toInt ∧ i.toInt < z_n a then k (z_wI m a i.toNatClampNeg v) else none
def z_cs (m : z_M) (a : Nat) (i v : Int32) (k : z_M → z_R) : z_R := if a < m.1 ∧ z_k a = 7 ∧ 0 ≤ i.toInt ∧ i.toInt < z_n a then k (z_wI m a i.toNatClampNeg (vp_nar .char v)) else none
def z_pl (m : z_M) (a : Nat) (i : Int32) (k : Nat → z_R) : z_R := if a < m.1 ∧ z_k a = 8 ∧ 0 ≤ i.toInt ∧ i.toInt < z_n a then (match m.2.2.2 a i.toNatClampNeg with
  | some b => k b
  | none => none) else none
def z_ps (m : z_M) (a : Nat) (i : Int32) (b : Nat) (k : z_M → z_R) : z_R := if a < m.1 ∧ z_k a = 8 ∧ (0 ≤ i.toInt ∧ i.toInt < z_n a) ∧ b < m.1 ∧ z_k b = 3 then k (z_wP m a i.toNatClampNeg b) else none
def z_ln (m : z_M) (a : Nat) (k : Int32 → z_R) : z_R := if a < m.1 ∧ (z_k a = 6 ∨ z_k a = 7 ∨ z_k a = 8) then k (Int32.ofNat (z_n a)) else none
def z_cp (m : z_M) (a : Nat) (sp : Int32) (b : Nat) (dp n : Int32) (k : z_M → z_R) : z_R :=
  if (a < m.1 ∧ z_k a = 6) ∧ (b < m.1 ∧ z_k b = 6) ∧ (¬ sp < 0 ∧ ¬ dp < 0 ∧ ¬ n < 0) ∧ sp.toNatClampNeg + n.toNatClampNeg ≤ z_n a ∧ dp.toNatClampNeg + n.toNatClampNeg ≤ z_n b then k (z_wR m b (va_cpy (m.2.2.1 a) (m.2.2.1 b) sp.toNatClampNeg dp.toNatClampNeg n.toNatClampNeg)) else none
def z_no (m : z_M) (c : Nat) (k : Nat → z_M → z_R) : z_R := if z_k m.1 = c then k m.1 (z_nw m) else none
def z_na (m : z_M) (c : Nat) (n : Int32) (k : Nat → z_M → z_R) : z_R := if z_k m.1 = c ∧ ¬ n < 0 ∧ n.toNatClampNeg = z_n m.1 then k m.1 (z_nw m) else none
def z_tl (t : Nat) (i : Int32) (k : Int32 → z_R) : z_R := if 0 ≤ i.toInt ∧ i.toInt < z_tn t then k (z_tb t i.toNatClampNeg) else none
def z_b (o : z_R) (k : Int32 → z_M → z_R) : z_R := match o with
  | some q => k q.1 q.2
  | none => none
def z_cv (m : z_M) (a c : Nat) (o : z_R) (k : Int32 → z_M → z_R) : z_R := if a < m.1 ∧ z_k a = c then z_b o k else none
def z_rz (r : Int32) (m : z_M) : z_R := if r = 0 ∨ r = 1 then some (r, m) else none
theorem z_b_some {o : z_R} {k : Int32 → z_M → z_R} {q : Int32 × z_M} (h : z_b o k = some q) : ∃ r m, o = some (r, m) ∧ k r m = some q := by
  cases o with
  | none => cases h
  | some x => exact ⟨x.1, x.2, rfl, h⟩
/-- what a class's rows need -/
def z_Cl (c : Nat) (C : String) (T : u_T) (N : Nat) (ty : Nat → FieldType) : Prop := vwCl[c]? = some (C, T, N) ∧ (∀ w ∈ u_ws C T N, w ∈ z_ws) ∧ (∀ k, k < N → parseFieldDescriptor (T k).2.2.1 = some (ty k)) ∧ (∀ a, a < N → ∀ b, b < N → a ≠ b → (T a).2.1 ≠ (T b).2.1) ∧ (∀ a, z_k a = c → z_n a = N) ∧ (∀ k, k < N → defaultValue (ty k) = if z_i c k = true then .int 0 else .null) ∧ c < 6
theorem z_cl_len {c N : Nat} (h : z_T.all (fun q => !(q.1 == c) || q.2 == N) = true) (hc : c < 99) : ∀ a, z_k a = c → z_n a = N := by
  intro a ha
  unfold z_k at ha
  unfold z_n
  rw [List.getD_eq_getElem?_getD] at ha ⊢
  cases hq : z_T[a]? with
  | none => rw [hq] at ha; simp at ha; omega
  | some q =>
    rw [hq] at ha
    have h2 := List.all_eq_true.mp h q (List.mem_of_getElem? hq)
    simp at ha h2 ⊢
    rcases h2 with h2 | h2
    · exact absurd ha h2
    · exact h2
set_option maxRecDepth 100000 in
theorem z_X0 : z_Cl 0 RX0 TX0 2 tyX0 := ⟨rfl, by decide +kernel, tyX0_ok, nmX0, z_cl_len (by decide +kernel) (by decide), by decide +kernel, by decide⟩
set_option maxRecDepth 100000 in
theorem z_X1 : z_Cl 1 RX1 TX1 3 tyX1 := ⟨rfl, by decide +kernel, tyX1_ok, nmX1, z_cl_len (by decide +kernel) (by decide), by decide +kernel, by decide⟩
set_option maxRecDepth 100000 in
theorem z_X2 : z_Cl 2 RX2 TX2 7 tyX2 := ⟨rfl, by decide +kernel, tyX2_ok, nmX2, z_cl_len (by decide +kernel) (by decide), by decide +kernel, by decide⟩
set_option maxRecDepth 100000 in
theorem z_X3 : z_Cl 3 RX3 TX3 8 tyX3 := ⟨rfl, by decide +kernel, tyX3_ok, nmX3, z_cl_len (by decide +kernel) (by decide), by decide +kernel, by decide⟩
set_option maxRecDepth 100000 in
theorem z_X4 : z_Cl 4 RX4 TX4 10 tyX4 := ⟨rfl, by decide +kernel, tyX4_ok, nmX4, z_cl_len (by decide +kernel) (by decide), by decide +kernel, by decide⟩
set_option maxRecDepth 100000 in
theorem z_X5 : z_Cl 5 RX5 TX5 14 tyX5 := ⟨rfl, by decide +kernel, tyX5_ok, nmX5, z_cl_len (by decide +kernel) (by decide), by decide +kernel, by decide⟩
theorem z_E_obj {X : z_X} {m : z_M} {a c : Nat} (h : z_k a = c) (hc : c < 6) : z_E X m a = .inr (c, (List.range (z_n a)).map (z_v X m a)) := by
  unfold z_E
  rw [if_neg (by omega), if_neg (by omega), h]
theorem z_E_int {X : z_X} {m : z_M} {a : Nat} (h : z_k a = 6) : z_E X m a = .inl (X.2.2.2.1 6, z_n a, .inl (m.2.2.1 a)) := by
  unfold z_E
  rw [if_pos (by omega), h]
theorem z_E_chr {X : z_X} {m : z_M} {a : Nat} (h : z_k a = 7) : z_E X m a = .inl (X.2.2.2.1 7, z_n a, .inl (m.2.2.1 a)) := by
  unfold z_E
  rw [if_pos (by omega), h]
theorem z_E_ref {X : z_X} {m : z_M} {a : Nat} (h : z_k a = 8) : z_E X m a = .inl (X.2.2.2.1 8, z_n a, .inr (.inr (.inr (.inr (fun j => (m.2.2.2 a j).map (z_ad X)))))) := by
  unfold z_E
  rw [if_neg (by omega), if_pos h]
theorem z_E_congr {X : z_X} {m m' : z_M} {a : Nat} (h1 : m'.2.2.1 a = m.2.2.1 a) (h2 : m'.2.2.2 a = m.2.2.2 a) : z_E X m' a = z_E X m a := by
  have hv : z_v X m' a = z_v X m a := by
    funext k
    unfold z_v
    rw [h1, h2]
  unfold z_E
  rw [h1, h2, hv]
theorem z_ad_inj {X : z_X} {a b : Nat} (h : z_ad X a = z_ad X b) : a = b := by
  unfold z_ad at h
  omega
theorem z_adA (X : z_X) (a : Nat) : z_A X (z_ad X a) := Nat.le_add_right _ _
/-- one cell changes -/
theorem z_H.set {X : z_X} {m m' : z_M} {H H1 : Heap} {a : Nat} (h : z_H X m H) (hn : m'.1 = m.1) (hb : ∀ b, b ≠ a → m'.2.2.1 b = m.2.2.1 b ∧ m'.2.2.2 b = m.2.2.2 b) (ha : va_at (X.2.1, X.2.2.1) vwCl (z_ad X a, z_E X m' a) H1) (hz : H1.size = H.size) (hq : ∀ q : Nat, q ≠ z_ad X a → H1[q]? = H[q]?) : z_H X m' H1 := by
  refine ⟨by rw [hz, h.1, hn], fun b hb' => ?_⟩
  by_cases e : b = a
  · subst e
    exact ha
  · rw [z_E_congr (hb b e).1 (hb b e).2]
    exact (h.2 b (by omega)).kept (hq _ (fun z => e (z_ad_inj z)))
theorem z_one_P {X : z_X} {m : z_M} {H : Heap} {a : Nat} (h : z_H X m H) (ha : a < m.1) {e : va_E} (he : z_E X m a = e) : va_P (X.2.1, X.2.2.1) vwCl [(z_ad X a, e)] H := by
  intro k q hk
  cases k with
  | zero => cases hk; rw [← he]; exact h.2 a ha
  | succ k => simp at hk
section
variable {X : z_X} {y : MethodName} {cc : ByteArray} {nL : Nat} {rt : Option FieldType} {d : Nat} {pc : Nat} {lv lv' : List (Nat × Value)} {st : List Value} {mm : z_M} {o : z_R}
/-- a step that reads the heap -/
theorem z_rd {pc' : Nat} {st' : List Value} (h : ∀ (p : Program) (e : Env) (R : Room) (s : State) (m : MethodId) (args : Array Value) (below : List Frame) (meth : Method) (c : Code) (H : Heap) (locs : List Loc) (cells slots : Nat) (Q : State → Prop) (ls : Array Slot),
      z_En X y cc nL rt p s m args meth c → z_H X mm H → va_S (z_A X) s.heap H locs → W p X.1 e R s m args below meth c H locs cells slots Q (F0 m pc' ls st') → W p X.1 e R s m args below meth c H locs cells slots Q (F0 m pc ls st))
    (K : z_Sim X y cc nL rt d pc' lv st' mm o) : z_Sim X y cc nL rt d pc lv st mm o := by
  intro r m2 ho
  obtain ⟨a, b⟩ := K r m2 ho
  exact ⟨a, fun p e s m args below meth c n0 z0 H locs ls hE h1 h2 hH hS hl => h _ _ _ _ _ _ _ _ _ _ _ _ _ _ _ hE hH hS (b p e s m args below meth c n0 z0 H locs ls hE h1 h2 hH hS hl)⟩
theorem z_getI {a c j ix N : Nat} {C ref nm ds : String} {T : u_T} {ty : Nat → FieldType} {fin : Bool} {k : Int32 → z_R} (hc : z_Cl c C T N ty) (hj : j < N) (hT : T j = (ref, nm, ds, fin)) (hi : z_i c j = true) (hw : Cond.fieldLink y.cls ix ref nm ds ∈ z_ws) (hd : decode cc pc = .ok (.getfield ix, 3))
    (K : ∀ v : Int32, z_Sim X y cc nL rt d (pc + 3) lv (.int v :: st) mm (k v)) : z_Sim X y cc nL rt d pc lv (.ref (z_ad X a) :: st) mm (z_gI mm a c j k) := by
  unfold z_gI
  refine z_if (fun hg => ?_) (fun _ => z_none)
  obtain ⟨g1, g2⟩ := hg
  refine z_rd (fun p e R s m args below meth c0 H locs cells slots Q ls hE hH hS kk => ?_) (K _)
  refine va_get (D := (X.2.1, X.2.2.1)) (C := C) (T := T) (N := N) (ref := ref) hE.1.1 hE.1.2.1 hE.1.2.2.2.2 hc.2.1 hE.1.2.2.2.1 hE.2.2.2.2.1 (z_one_P hH g1 (z_E_obj g2 hc.2.2.2.2.2.2)) 0 rfl hc.1 j hj (by rw [hT]; exact hE.1.2.2.2.2 _ hw) (by rw [hT]; exact fun _ h => h) ?_ hd kk
  rw [List.getElem?_map, List.getElem?_range (by rw [hc.2.2.2.2.1 a g2]; exact hj)]
  simp [z_v, g2, hi]
theorem z_getP {a c j ix N : Nat} {C ref nm ds : String} {T : u_T} {ty : Nat → FieldType} {fin : Bool} {k : Nat → z_R} (hc : z_Cl c C T N ty) (hj : j < N) (hT : T j = (ref, nm, ds, fin)) (hi : z_i c j = false) (hw : Cond.fieldLink y.cls ix ref nm ds ∈ z_ws) (hd : decode cc pc = .ok (.getfield ix, 3))
    (K : ∀ b : Nat, z_Sim X y cc nL rt d (pc + 3) lv (.ref (z_ad X b) :: st) mm (k b)) : z_Sim X y cc nL rt d pc lv (.ref (z_ad X a) :: st) mm (z_gP mm a c j k) := by
  unfold z_gP
  refine z_if (fun hg => ?_) (fun _ => z_none)
  obtain ⟨g1, g2⟩ := hg
  cases hb : mm.2.2.2 a j with
  | none => exact z_none
  | some b =>
    refine z_rd (fun p e R s m args below meth c0 H locs cells slots Q ls hE hH hS kk => ?_) (K b)
    refine va_get (D := (X.2.1, X.2.2.1)) (C := C) (T := T) (N := N) (ref := ref) hE.1.1 hE.1.2.1 hE.1.2.2.2.2 hc.2.1 hE.1.2.2.2.1 hE.2.2.2.2.1 (z_one_P hH g1 (z_E_obj g2 hc.2.2.2.2.2.2)) 0 rfl hc.1 j hj (by rw [hT]; exact hE.1.2.2.2.2 _ hw) (by rw [hT]; exact fun _ h => h) ?_ hd kk
    rw [List.getElem?_map, List.getElem?_range (by rw [hc.2.2.2.2.1 a g2]; exact hj)]
    simp [z_v, g2, hi, hb, va_rf]
theorem z_iald {a : Nat} {i : Int32} {k : Int32 → z_R} (hd : decode cc pc = .ok (.iaload, 1)) (K : ∀ v : Int32, z_Sim X y cc nL rt d (pc + 1) lv (.int v :: st) mm (k v)) : z_Sim X y cc nL rt d pc lv (.int i :: .ref (z_ad X a) :: st) mm (z_al mm a i k) := by
  unfold z_al
  refine z_if (fun hg => ?_) (fun _ => z_none)
  obtain ⟨g1, g2, g3⟩ := hg
  refine z_rd (fun p e R s m args below meth c0 H locs cells slots Q ls hE hH hS kk => ?_) (K _)
  exact va_iald (D := (X.2.1, X.2.2.1)) hE.1.1 hE.1.2.1 hE.2.2.2.2.1 (z_one_P hH g1 (z_E_int g2)) 0 0 rfl rfl (vp_in_iff.mpr g3) hd kk
theorem z_cald {a : Nat} {i : Int32} {k : Int32 → z_R} (hd : decode cc pc = .ok (.caload, 1)) (K : ∀ v : Int32, z_Sim X y cc nL rt d (pc + 1) lv (.int v :: st) mm (k v)) : z_Sim X y cc nL rt d pc lv (.int i :: .ref (z_ad X a) :: st) mm (z_cl mm a i k) := by
  unfold z_cl
  refine z_if (fun hg => ?_) (fun _ => z_none)
  obtain ⟨g1, g2, g3⟩ := hg
  refine z_rd (fun p e R s m args below meth c0 H locs cells slots Q ls hE hH hS kk => ?_) (K _)
  exact va_cald (D := (X.2.1, X.2.2.1)) hE.1.1 hE.1.2.1 hE.2.2.2.2.1 (z_one_P hH g1 (z_E_chr g2)) 0 1 rfl rfl (vp_in_iff.mpr g3) hd kk
theorem z_aald {a : Nat} {i : Int32} {k : Nat → z_R} (hd : decode cc pc = .ok (.aaload, 1)) (K : ∀ b : Nat, z_Sim X y cc nL rt d (pc + 1) lv (.ref (z_ad X b) :: st) mm (k b)) : z_Sim X y cc nL rt d pc lv (.int i :: .ref (z_ad X a) :: st) mm (z_pl mm a i k) := by
  unfold z_pl
  refine z_if (fun hg => ?_) (fun _ => z_none)
  obtain ⟨g1, g2, g3⟩ := hg
  cases hb : mm.2.2.2 a i.toNatClampNeg with
  | none => exact z_none
  | some b =>
    refine z_rd (fun p e R s m args below meth c0 H locs cells slots Q ls hE hH hS kk => ?_) (K b)
    refine va_aldq (D := (X.2.1, X.2.2.1)) (C := "HayFootStraw$Standing") hE.1.1 hE.1.2.1 hE.2.2.2.2.1 (z_one_P hH g1 (z_E_ref g2)) 0 2 rfl rfl (vp_in_iff.mpr g3) hd ?_
    simp only [hb, Option.map_some, va_rf]
    exact kk
theorem z_alen {a : Nat} {k : Int32 → z_R} (hd : decode cc pc = .ok (.arraylength, 1)) (K : ∀ v : Int32, z_Sim X y cc nL rt d (pc + 1) lv (.int v :: st) mm (k v)) : z_Sim X y cc nL rt d pc lv (.ref (z_ad X a) :: st) mm (z_ln mm a k) := by
  unfold z_ln
  refine z_if (fun hg => ?_) (fun _ => z_none)
  obtain ⟨g1, g2⟩ := hg
  refine z_rd (fun p e R s m args below meth c0 H locs cells slots Q ls hE hH hS kk => ?_) (K _)
  rcases g2 with g2 | g2 | g2
  · exact va_alen (D := (X.2.1, X.2.2.1)) (ty := .int) hE.1.1 hE.1.2.1 hE.2.2.2.2.1 (z_one_P hH g1 (z_E_int g2)) 0 0 rfl rfl rfl hd kk
  · exact va_alen (D := (X.2.1, X.2.2.1)) (ty := .char) hE.1.1 hE.1.2.1 hE.2.2.2.2.1 (z_one_P hH g1 (z_E_chr g2)) 0 1 rfl rfl rfl hd kk
  · exact va_alen (D := (X.2.1, X.2.2.1)) (ty := .object "HayFootStraw$Standing") hE.1.1 hE.1.2.1 hE.2.2.2.2.1 (z_one_P hH g1 (z_E_ref g2)) 0 2 rfl rfl rfl hd kk
end
end
section
/-! WRITES, MAKING, CALLS, RETURNS -/
section
variable {X : z_X} {y : MethodName} {cc : ByteArray} {nL : Nat} {rt : Option FieldType} {d : Nat} {pc : Nat} {lv lv' : List (Nat × Value)} {st : List Value} {mm : z_M} {o : z_R}
/-- a step that writes the heap, and makes nothing -/
theorem z_wr {pc' : Nat} {st' : List Value} {mm' : z_M} (hn : mm'.1 = mm.1) (hz : mm'.2.1 = mm.2.1) (h : ∀ (p : Program) (e : Env) (R : Room) (s : State) (m : MethodId) (args : Array Value) (below : List Frame) (meth : Method) (c : Code) (H : Heap) (locs : List Loc) (cells slots : Nat) (Q : State → Prop) (ls : Array Slot),
      z_En X y cc nL rt p s m args meth c → 1 ≤ R.frames ∨ d = 0 → 36 ≤ R.locals ∨ d = 0 → ls.size = nL → z_H X mm H → va_S (z_A X) s.heap H locs → (∀ (H1 : Heap) (locs1 : List Loc), z_H X mm' H1 → va_S (z_A X) s.heap H1 locs1 → W p X.1 e R s m args below meth c H1 locs1 cells slots Q (F0 m pc' ls st')) → W p X.1 e R s m args below meth c H locs cells slots Q (F0 m pc ls st))
    (K : z_Sim X y cc nL rt d pc' lv st' mm' o) : z_Sim X y cc nL rt d pc lv st mm o := by
  intro r m2 ho
  obtain ⟨a, b⟩ := K r m2 ho
  rw [hn, hz] at a
  refine ⟨a, fun p e s m args below meth c n0 z0 H locs ls hE h1 h2 hH hS hl => h _ _ _ _ _ _ _ _ _ _ _ _ _ _ _ hE ?_ ?_ hl.1 hH hS (fun H1 locs1 hH1 hS1 => ?_)⟩
  · show 1 ≤ d ∨ d = 0
    omega
  · show 36 ≤ 36 * d ∨ d = 0
    omega
  · have := b p e s m args below meth c n0 z0 H1 locs1 ls hE (by omega) (by omega) hH1 hS1 hl
    rw [hn, hz] at this
    exact this
theorem z_putA {a c j N : Nat} {C : String} {T : u_T} {ty : Nat → FieldType} {m' : z_M} {H1 : Heap} {cell : Cell} {s : State} {args : Array Value} {v : Value} (hc : z_Cl c C T N ty) (hts : ∀ w ∈ z_ws, w.before args s = true) (hK : va_K (X.2.1, X.2.2.1) vwCl (z_ty X) s) (g2 : z_k a = c) (hj : j < N)
    (q2 : cell.cls = X.2.1 c) (q3 : cell.vm = .none) (q4 : ∀ k, k < N → cell.slots[X.2.2.1 c k]? = some (vp_V ((List.range (z_n a)).map (z_v X mm a)) k)) (e1 : H1[z_ad X a]? = some (cell.setSlot (X.2.2.1 c j) v)) (hv : z_v X m' a j = v) (ho : ∀ k, k ≠ j → z_v X m' a k = z_v X mm a k) : va_at (X.2.1, X.2.2.1) vwCl (z_ad X a, z_E X m' a) H1 := by
  rw [z_E_obj g2 hc.2.2.2.2.2.2]
  have hap := va_apart (own := C) (D := (X.2.1, X.2.2.1)) hts hc.2.1 ty hc.2.2.1 hc.2.2.2.1 hK hc.1
  have hlen : z_n a = N := hc.2.2.2.2.1 a g2
  refine ⟨_, hc.1, t_OB.to (V := updV (vp_V ((List.range (z_n a)).map (z_v X mm a))) j v) ⟨_, e1, q2, q3, t_set q4 hap hj v⟩ (fun k hk => ?_)⟩
  have hk2 : k < z_n a := by rw [hlen]; exact hk
  by_cases e : k = j
  · subst e
    simp [updV, vp_V, hk2, hv]
  · simp [updV, vp_V, e, hk2, ho k e]
theorem z_put {a c j ix N : Nat} {C ref nm ds : String} {T : u_T} {ty : Nat → FieldType} {t0 : FieldType} {m' : z_M} {v : Value} (hc : z_Cl c C T N ty) (hj : j < N) (hT : T j = (ref, nm, ds, false)) (hw : Cond.fieldLink y.cls ix ref nm ds ∈ z_ws) (ht : parseFieldDescriptor ds = some t0) (hnar : narrow t0 v = v) (hfit : fits t0 v = true)
    (hn : m'.1 = mm.1) (hz : m'.2.1 = mm.2.1) (hb : ∀ b, b ≠ a → m'.2.2.1 b = mm.2.2.1 b ∧ m'.2.2.2 b = mm.2.2.2 b) (g1 : a < mm.1) (g2 : z_k a = c) (hv : z_v X m' a j = v) (ho : ∀ k, k ≠ j → z_v X m' a k = z_v X mm a k) (hd : decode cc pc = .ok (.putfield ix, 3))
    (K : z_Sim X y cc nL rt d (pc + 3) lv st m' o) : z_Sim X y cc nL rt d pc lv (v :: .ref (z_ad X a) :: st) mm o := by
  refine z_wr hn hz (fun p e R s m args below meth c0 H locs cells slots Q ls hE _ _ _ hH hS kk => ?_) K
  have hts := hE.1.2.2.2.2
  have hK := hE.2.2.2.2.1
  have hat := hH.2 a g1
  rw [z_E_obj g2 hc.2.2.2.2.2.2] at hat
  obtain ⟨r, h1, cell, q1, q2, q3, q4⟩ := hat
  have hr : r = (C, T, N) := Option.some.inj (h1.symm.trans hc.1)
  subst hr
  obtain ⟨hSl, hfc, kC, hkC, hkind⟩ := hK.1 c _ hc.1
  obtain ⟨cf, kf, fi, f, hi, hsl⟩ := hSl j hj
  have hlay := hts _ (hc.2.1 _ (u_in_lay hj))
  unfold u_lay at hlay
  dsimp only at hi hsl hfc hkC q4
  rw [hT] at hlay hi
  have hst := (u_facts hfc hkC (u_lays hts hc.2.1 hj) (by rw [hT]; exact hi)).1
  have h6 := u_store hfc hkC hkind hlay hi ht hnar hfit
  refine W.putK hE.1.1 hE.1.2.1 (f := f) ⟨hE.1.2.2.2.1, hts _ hw, ⟨_, _, _, hi⟩, hst⟩ (by rw [q2]; exact h6) q1 q3 (by rw [hsl]; exact k2_hasslot (q4 j hj)) rfl rfl hd fun H' e1 e2 e3 => ?_
  rw [hsl] at e1 ⊢
  exact kk H' _ (hH.set hn hb (z_putA hc hts hK g2 hj q2 q3 q4 e1 hv ho) e2 e3) (hS.put e2 e3 (z_adA X a))
theorem z_putF {a c j ix N : Nat} {C ref nm ds : String} {T : u_T} {ty : Nat → FieldType} {t0 : FieldType} {m' : z_M} {v : Value} (hc : z_Cl c C T N ty) (hj : j < N) (hT : T j = (ref, nm, ds, true)) (hyi : y.name = "<init>") (hyc : ref = y.cls) (hw : Cond.fieldLink y.cls ix ref nm ds ∈ z_ws) (ht : parseFieldDescriptor ds = some t0) (hnar : narrow t0 v = v) (hfit : fits t0 v = true)
    (hn : m'.1 = mm.1) (hz : m'.2.1 = mm.2.1) (hb : ∀ b, b ≠ a → m'.2.2.1 b = mm.2.2.1 b ∧ m'.2.2.2 b = mm.2.2.2 b) (g1 : a < mm.1) (g2 : z_k a = c) (hv : z_v X m' a j = v) (ho : ∀ k, k ≠ j → z_v X m' a k = z_v X mm a k) (hd : decode cc pc = .ok (.putfield ix, 3))
    (K : z_Sim X y cc nL rt d (pc + 3) lv st m' o) : z_Sim X y cc nL rt d pc lv (v :: .ref (z_ad X a) :: st) mm o := by
  refine z_wr hn hz (fun p e R s m args below meth c0 H locs cells slots Q ls hE _ _ _ hH hS kk => ?_) K
  have hts := hE.1.2.2.2.2
  have hK := hE.2.2.2.2.1
  have hat := hH.2 a g1
  rw [z_E_obj g2 hc.2.2.2.2.2.2] at hat
  obtain ⟨r, h1, cell, q1, q2, q3, q4⟩ := hat
  have hr : r = (C, T, N) := Option.some.inj (h1.symm.trans hc.1)
  subst hr
  obtain ⟨hSl, hfc, kC, hkC, hkind⟩ := hK.1 c _ hc.1
  obtain ⟨cf, kf, fi, f, hi, hsl⟩ := hSl j hj
  have hlay := hts _ (hc.2.1 _ (u_in_lay hj))
  unfold u_lay at hlay
  dsimp only at hi hsl hfc hkC q4
  rw [hT] at hlay hi
  have hst := (u_facts hfc hkC (u_lays hts hc.2.1 hj) (by rw [hT]; exact hi)).1
  have hcf : m.cls = cf := by
    obtain ⟨_, _, c', _, _, _, -, -, hf', -, -, -, hown2, -⟩ := Cond.laysFinal_spec hlay
    have e1 : c' = cf := by have := hi.symm.trans hf'; simp at this; exact this.1.symm
    have hown2' : s.vm.findClass y.cls = some c' := by rw [← hyc]; exact hown2
    rw [← e1]; exact Option.some.inj (hE.1.2.2.2.1.symm.trans hown2')
  have h6 := u_fits hfc hkC hkind (Or.inr hlay) hi ht hnar hfit
  refine W.putFinK hE.1.1 hE.1.2.1 hE.1.2.2.2.1 (hts _ hw) hi hst hcf (hE.2.2.2.1 hyi) (by rw [q2]; exact h6) q1 q3 (by rw [hsl]; exact k2_hasslot (q4 j hj)) rfl rfl hd fun H' e1 e2 e3 => ?_
  rw [hsl] at e1 ⊢
  exact kk H' _ (hH.set hn hb (z_putA hc hts hK g2 hj q2 q3 q4 e1 hv ho) e2 e3) (hS.put e2 e3 (z_adA X a))
theorem z_wI_b {m : z_M} {a j : Nat} {v : Int32} : ∀ b, b ≠ a → (z_wI m a j v).2.2.1 b = m.2.2.1 b ∧ (z_wI m a j v).2.2.2 b = m.2.2.2 b := fun b hb => ⟨by funext k; simp [z_wI, hb], rfl⟩
theorem z_wP_b {m : z_M} {a j w : Nat} : ∀ b, b ≠ a → (z_wP m a j w).2.2.1 b = m.2.2.1 b ∧ (z_wP m a j w).2.2.2 b = m.2.2.2 b := fun b hb => ⟨rfl, by funext k; simp [z_wP, hb]⟩
theorem z_wR_b {m : z_M} {a : Nat} {f : Nat → Int32} : ∀ b, b ≠ a → (z_wR m a f).2.2.1 b = m.2.2.1 b ∧ (z_wR m a f).2.2.2 b = m.2.2.2 b := fun b hb => ⟨by funext k; simp [z_wR, hb], rfl⟩
theorem z_setI {a c j ix N : Nat} {C ref nm : String} {T : u_T} {ty : Nat → FieldType} {v : Int32} {k : z_M → z_R} (hc : z_Cl c C T N ty) (hj : j < N) (hT : T j = (ref, nm, "I", false)) (hi : z_i c j = true) (hw : Cond.fieldLink y.cls ix ref nm "I" ∈ z_ws) (hd : decode cc pc = .ok (.putfield ix, 3))
    (K : z_Sim X y cc nL rt d (pc + 3) lv st (z_wI mm a j v) (k (z_wI mm a j v))) : z_Sim X y cc nL rt d pc lv (.int v :: .ref (z_ad X a) :: st) mm (z_sI mm a c j v k) := by
  unfold z_sI
  refine z_if (fun hg => ?_) (fun _ => z_none)
  obtain ⟨g1, g2⟩ := hg
  exact z_put (t0 := .int) (m' := z_wI mm a j v) hc hj hT hw (by decide +kernel) rfl rfl rfl rfl z_wI_b g1 g2 (by simp [z_v, g2, hi, z_wI]) (fun q hq => by simp [z_v, z_wI, hq]) hd K
theorem z_setP {a c j ix N w : Nat} {C ref nm ds : String} {T : u_T} {ty : Nat → FieldType} {t0 : FieldType} {k : z_M → z_R} (hc : z_Cl c C T N ty) (hj : j < N) (hT : T j = (ref, nm, ds, false)) (hi : z_i c j = false) (hw : Cond.fieldLink y.cls ix ref nm ds ∈ z_ws) (ht : parseFieldDescriptor ds = some t0) (hnar : ∀ q : Nat, narrow t0 (.ref q) = .ref q) (hfit : ∀ q : Nat, fits t0 (.ref q) = true) (hd : decode cc pc = .ok (.putfield ix, 3))
    (K : z_Sim X y cc nL rt d (pc + 3) lv st (z_wP mm a j w) (k (z_wP mm a j w))) : z_Sim X y cc nL rt d pc lv (.ref (z_ad X w) :: .ref (z_ad X a) :: st) mm (z_sP mm a c j w k) := by
  unfold z_sP
  refine z_if (fun hg => ?_) (fun _ => z_none)
  obtain ⟨g1, g2⟩ := hg
  exact z_put (m' := z_wP mm a j w) hc hj hT hw ht (hnar _) (hfit _) rfl rfl z_wP_b g1 g2 (by simp [z_v, g2, hi, z_wP, va_rf]) (fun q hq => by simp [z_v, z_wP, hq]) hd K
theorem z_setF {a c j ix N w : Nat} {C ref nm ds : String} {T : u_T} {ty : Nat → FieldType} {t0 : FieldType} {k : z_M → z_R} (hc : z_Cl c C T N ty) (hj : j < N) (hT : T j = (ref, nm, ds, true)) (hyi : y.name = "<init>") (hyc : ref = y.cls) (hi : z_i c j = false) (hw : Cond.fieldLink y.cls ix ref nm ds ∈ z_ws) (ht : parseFieldDescriptor ds = some t0) (hnar : ∀ q : Nat, narrow t0 (.ref q) = .ref q) (hfit : ∀ q : Nat, fits t0 (.ref q) = true) (hd : decode cc pc = .ok (.putfield ix, 3))
    (K : z_Sim X y cc nL rt d (pc + 3) lv st (z_wP mm a j w) (k (z_wP mm a j w))) : z_Sim X y cc nL rt d pc lv (.ref (z_ad X w) :: .ref (z_ad X a) :: st) mm (z_sP mm a c j w k) := by
  unfold z_sP
  refine z_if (fun hg => ?_) (fun _ => z_none)
  obtain ⟨g1, g2⟩ := hg
  exact z_putF (m' := z_wP mm a j w) hc hj hT hyi hyc hw ht (hnar _) (hfit _) rfl rfl z_wP_b g1 g2 (by simp [z_v, g2, hi, z_wP, va_rf]) (fun q hq => by simp [z_v, z_wP, hq]) hd K
theorem z_iast {a : Nat} {i v : Int32} {k : z_M → z_R} (hd : decode cc pc = .ok (.iastore, 1)) (K : z_Sim X y cc nL rt d (pc + 1) lv st (z_wI mm a i.toNatClampNeg v) (k (z_wI mm a i.toNatClampNeg v))) : z_Sim X y cc nL rt d pc lv (.int v :: .int i :: .ref (z_ad X a) :: st) mm (z_as mm a i v k) := by
  unfold z_as
  refine z_if (fun hg => ?_) (fun _ => z_none)
  obtain ⟨g1, g2, g3⟩ := hg
  have hin := vp_in_iff.mpr g3
  refine z_wr (mm' := z_wI mm a i.toNatClampNeg v) rfl rfl (fun p e R s m args below meth c0 H locs cells slots Q ls hE _ _ _ hH hS kk => ?_) K
  have hat := hH.2 a g1
  rw [z_E_int g2] at hat
  refine W.iast hE.1.1 hE.1.2.1 hat ((hE.2.2.2.2.1.2 0 _ rfl).1 (z_n a) (fun j => .int (mm.2.2.1 a j))) (fun q => by cases q) (by show ¬ (i < 0 ∨ (arrV _ _ _).slots.size ≤ _); rw [arrV_size]; exact hin) rfl rfl hd fun H1 e z oq => ?_
  refine kk H1 _ (hH.set rfl z_wI_b ?_ z oq) (hS.put z oq (z_adA X a))
  rw [z_E_int g2]
  show H1[z_ad X a]? = some (vp_cell _ _)
  rw [e]
  rw [vp_cell_i, vp_cell_i, arrV_store]
  congr 2
  funext q
  by_cases hq : q = i.toNatClampNeg
  · subst hq
    simp [updV, z_wI]
  · simp [updV, z_wI, hq]
theorem z_cast {a : Nat} {i v : Int32} {k : z_M → z_R} (hd : decode cc pc = .ok (.castore, 1)) (K : z_Sim X y cc nL rt d (pc + 1) lv st (z_wI mm a i.toNatClampNeg (vp_nar .char v)) (k (z_wI mm a i.toNatClampNeg (vp_nar .char v)))) : z_Sim X y cc nL rt d pc lv (.int v :: .int i :: .ref (z_ad X a) :: st) mm (z_cs mm a i v k) := by
  unfold z_cs
  refine z_if (fun hg => ?_) (fun _ => z_none)
  obtain ⟨g1, g2, g3⟩ := hg
  have hin := vp_in_iff.mpr g3
  refine z_wr (mm' := z_wI mm a i.toNatClampNeg (vp_nar .char v)) rfl rfl (fun p e R s m args below meth c0 H locs cells slots Q ls hE _ _ _ hH hS kk => ?_) K
  have hat := hH.2 a g1
  rw [z_E_chr g2] at hat
  refine W.cast hE.1.1 hE.1.2.1 hat ((hE.2.2.2.2.1.2 1 _ rfl).1 (z_n a) (fun j => .int (mm.2.2.1 a j))) (fun q => by cases q) (by show ¬ (i < 0 ∨ (arrV _ _ _).slots.size ≤ _); rw [arrV_size]; exact hin) rfl rfl hd fun H1 e z oq => ?_
  refine kk H1 _ (hH.set rfl z_wI_b ?_ z oq) (hS.put z oq (z_adA X a))
  rw [z_E_chr g2]
  show H1[z_ad X a]? = some (vp_cell _ _)
  rw [e]
  rw [vp_cell_i, vp_cell_i, arrV_store]
  congr 2
  funext q
  by_cases hq : q = i.toNatClampNeg
  · subst hq
    simp [updV, z_wI, vp_nar]
    rfl
  · simp [updV, z_wI, hq]
theorem z_aast {a b : Nat} {i : Int32} {k : z_M → z_R} (hd : decode cc pc = .ok (.aastore, 1)) (K : z_Sim X y cc nL rt d (pc + 1) lv st (z_wP mm a i.toNatClampNeg b) (k (z_wP mm a i.toNatClampNeg b))) : z_Sim X y cc nL rt d pc lv (.ref (z_ad X b) :: .int i :: .ref (z_ad X a) :: st) mm (z_ps mm a i b k) := by
  unfold z_ps
  refine z_if (fun hg => ?_) (fun _ => z_none)
  obtain ⟨g1, g2, g3, g4, g5⟩ := hg
  have hin := vp_in_iff.mpr g3
  have h0 : ¬ i < 0 := fun q => hin (Or.inl q)
  have hlt : i.toNatClampNeg < z_n a := Nat.not_le.mp fun q => hin (Or.inr q)
  refine z_wr (mm' := z_wP mm a i.toNatClampNeg b) rfl rfl (fun p e R s m args below meth c0 H locs cells slots Q ls hE _ _ _ hH hS kk => ?_) K
  have hat := hH.2 a g1
  rw [z_E_ref g2] at hat
  have hbt := hH.2 b g4
  rw [z_E_obj g5 (by decide)] at hbt
  have hK := hE.2.2.2.2.1
  obtain ⟨r', hr', cellV, c1, c2, c3, -⟩ := hbt
  have hcls := (hK.1 3 (RX3, TX3, 8) rfl).2
  obtain ⟨kA, comp, k1, k2, k3, -⟩ := (hK.2 2 (X.2.2.2.1 8, .object "HayFootStraw$Standing") rfl).2
  have hcomp : comp = X.2.1 3 := Option.some.inj (k3.symm.trans hcls.1)
  subst hcomp
  obtain ⟨kC, hkC, -⟩ := hcls.2
  refine W.aast hE.1.1 hE.1.2.1 hat (fun q h => by cases h) (fun h => by cases h) k1 k2 rfl hkC ⟨h0, by show _ < (arrV _ _ _).slots.size; rw [arrV_size]; exact hlt⟩ c1 (fun q h => by rw [c3] at h; cases h) (by rw [c2]; exact hkC) (by rw [c2]; exact va_assign hcls) rfl rfl hd fun H1 e z oq => ?_
  refine kk H1 _ (hH.set rfl z_wP_b ?_ z oq) (hS.put z oq (z_adA X a))
  rw [z_E_ref g2]
  show H1[z_ad X a]? = some (vp_cell _ _)
  rw [e]
  rw [vp_cell_q, vp_cell_q, arrV_store]
  congr 2
  funext q
  by_cases hq : q = i.toNatClampNeg
  · subst hq
    simp [updV, z_wP, va_rf]
  · simp [updV, z_wP, hq]
theorem z_copy {a b ix : Nat} {sp dp n : Int32} {k : z_M → z_R} (hd0 : 1 ≤ d) (hw : Cond.methodLink y.cls ix arraycopyName ∈ z_ws) (h36 : (st.map fun v => v.category).sum + (nativeFrameWords "java/lang/System" "arraycopy" 5 + 11) ≤ 36) (hd : decode cc pc = .ok (.invokestatic ix, 3))
    (K : ∀ m' : z_M, z_Sim X y cc nL rt d (pc + 3) lv st m' (k m')) : z_Sim X y cc nL rt d pc lv (.int n :: .int dp :: .ref (z_ad X b) :: .int sp :: .ref (z_ad X a) :: st) mm (z_cp mm a sp b dp n k) := by
  unfold z_cp
  refine z_if (fun hg => ?_) (fun _ => z_none)
  obtain ⟨⟨g1, g2⟩, ⟨g3, g4⟩, ⟨h1, h2, h3⟩, h4, h5⟩ := hg
  refine z_wr (mm' := z_wR mm b (va_cpy (mm.2.2.1 a) (mm.2.2.1 b) sp.toNatClampNeg dp.toNatClampNeg n.toNatClampNeg)) rfl rfl (fun p e R s m args below meth c0 H locs cells slots Q ls hE hR1 hR2 hls hH hS kk => ?_) (K _)
  have nn : ∀ z : Int32, ¬ z < 0 → z.toInt = (z.toNatClampNeg : Int) := by
    intro z hz
    have hz0 : (0 : Int) ≤ z.toInt := by
      have := Int32.not_lt.mp hz
      simpa using Int32.le_iff_toInt_le.mp this
    show z.toInt = ((z.toInt.toNat : Nat) : Int)
    omega
  have hc0 := hH.2 a g1
  rw [z_E_int g2] at hc0
  have hc1 := hH.2 b g3
  rw [z_E_int g4] at hc1
  have hc0 : H[z_ad X a]? = some (vp_cell (X.2.2.2.1 6) (z_n a, .inl (mm.2.2.1 a))) := hc0
  have hc1 : H[z_ad X b]? = some (vp_cell (X.2.2.2.1 6) (z_n b, .inl (mm.2.2.1 b))) := hc1
  have hts := hE.1.2.2.2.2
  intro T hT Y
  obtain ⟨-, k0, hk0, cm0, hkk0⟩ := (hE.2.2.2.2.1.2 0 _ rfl).1 (z_n a) (fun j => .int (mm.2.2.1 a j))
  obtain ⟨-, k1, hk1, cm1, hkk1⟩ := (hE.2.2.2.2.1.2 0 _ rfl).1 (z_n b) (fun j => .int (mm.2.2.1 b j))
  obtain ⟨vm', X', step⟩ := Y.arraycopy hE.1.1 hE.1.2.2.2.1 (hts _ hw) (hts (.native arraycopyName) (by decide +kernel)) (hts (.static arraycopyName) (by decide +kernel)) (hts (.initialized "java/lang/System") (by decide +kernel)) (src := z_ad X a) (dst := z_ad X b) (cs := vp_cell (X.2.2.2.1 6) (z_n a, .inl (mm.2.2.1 a))) (cd := vp_cell (X.2.2.2.1 6) (z_n b, .inl (mm.2.2.1 b))) (srcPos := sp) (destPos := dp) (n := n) (by rw [hT]; exact hc0) (by rw [hT]; exact hc1)
    (fun _ h => by cases h) (fun _ h => by cases h) (fun h => by cases h) (fun h => by cases h) hk0 hk1 hkk0 hkk1 (by simp [refKind]) h1 h2 h3
    (by rw [nn sp h1, nn n h3]; show ¬ _ > ((arrV _ (z_n a) (fun j => .int (mm.2.2.1 a j))).slots.size : Int); rw [arrV_size]; omega)
    (by rw [nn dp h2, nn n h3]; show ¬ _ > ((arrV _ (z_n b) (fun j => .int (mm.2.2.1 b j))).slots.size : Int); rw [arrV_size]; omega)
    (fun vm₁ _ i hi => by
      have e : (vp_cell (X.2.2.2.1 6) (z_n a, .inl (mm.2.2.1 a))).slots.getD (sp.toNatClampNeg + i) .null = .int (mm.2.2.1 a (sp.toNatClampNeg + i)) := by
        show (arrV _ (z_n a) (fun j => .int (mm.2.2.1 a j))).slots.getD _ _ = _
        rw [Array.getD_eq_getD_getElem?, arrV_read _ _ (by omega)]
        rfl
      refine ⟨?_, ?_⟩
      · rw [e]
        rfl
      · rw [e]
        exact trivial)
    (g := F0 m pc ls (.int n :: .int dp :: .ref (z_ad X b) :: .int sp :: .ref (z_ad X a) :: st)) rfl (by rw [hE.1.2.2.1]; exact hls) (rest := st) rfl (by rw [hE.1.2.1]; exact hd) (by omega) (by show 2 * 0 + _ + _ ≤ _; omega)
  have e1 : copied (vp_cell (X.2.2.2.1 6) (z_n a, .inl (mm.2.2.1 a))) (vp_cell (X.2.2.2.1 6) (z_n b, .inl (mm.2.2.1 b))) sp dp n = vp_cell (X.2.2.2.1 6) (z_n b, .inl (va_cpy (mm.2.2.1 a) (mm.2.2.1 b) sp.toNatClampNeg dp.toNatClampNeg n.toNatClampNeg)) := va_copied (fun z => .int z) _ _ _ _ h4
  rw [e1] at X' step
  have hl : z_ad X b < H.size := (Array.getElem?_eq_some_iff.mp hc1).1
  generalize hce : vp_cell (X.2.2.2.1 6) (z_n b, .inl (va_cpy (mm.2.2.1 a) (mm.2.2.1 b) sp.toNatClampNeg dp.toNatClampNeg n.toNatClampNeg)) = ce at X' step
  have hheap : ((T.setVm vm').setCell (z_ad X b) ce).heap = H.setIfInBounds (z_ad X b) ce := by rw [← hT]; rfl
  have oq : ∀ q : Nat, q ≠ z_ad X b → (H.setIfInBounds (z_ad X b) ce)[q]? = H[q]? := fun q hq => by simp [Array.getElem?_setIfInBounds, Ne.symm hq]
  have hat : va_at (X.2.1, X.2.2.1) vwCl (z_ad X b, z_E X (z_wR mm b (va_cpy (mm.2.2.1 a) (mm.2.2.1 b) sp.toNatClampNeg dp.toNatClampNeg n.toNatClampNeg)) b) (H.setIfInBounds (z_ad X b) ce) := by
    rw [z_E_int g4]
    show (H.setIfInBounds (z_ad X b) ce)[z_ad X b]? = some (vp_cell _ _)
    rw [← hce]
    simp [Array.getElem?_setIfInBounds, hl, z_wR]
  obtain ⟨t, a1, b1⟩ := kk _ _ (hH.set rfl z_wR_b hat (by simp) oq) ⟨by simp; exact hS.1, fun q g1 g2 => by
      rw [oq q (fun e => g2 (by rw [e]; exact z_adA X b))]
      exact hS.2.1 q g1 g2, fun q hq => by
      rcases List.mem_append.mp hq with h | h
      · exact hS.2.2 q h
      · obtain ⟨z, -, hz⟩ := List.mem_map.mp h
        rw [← hz]
        exact z_adA X b⟩ _ hheap X'
  exact ⟨t, step t a1, b1⟩
end
end
section
/-! MAKING, TABLES, RETURNS, CALLS -/
theorem z_n200 (a : Nat) : z_n a ≤ 200 := by
  unfold z_n
  rw [List.getD_eq_getElem?_getD]
  cases hq : z_T[a]? with
  | none => simp
  | some q =>
    have h2 := List.all_eq_true.mp (show z_T.all (fun q => decide (q.2 ≤ 200)) = true by decide +kernel) q (List.mem_of_getElem? hq)
    simpa using h2
theorem z_bytes (a : Nat) {c : Nat} (h : c ≤ 4) : z_n a * c ≤ 536870912 := Nat.le_trans (Nat.mul_le_mul (z_n200 a) h) (by decide)
section
variable {X : z_X} {y : MethodName} {cc : ByteArray} {nL : Nat} {rt : Option FieldType} {d : Nat} {pc : Nat} {lv lv' : List (Nat × Value)} {st : List Value} {mm : z_M} {o : z_R}
theorem z_H.new {m : z_M} {H H1 : Heap} (h : z_H X m H) (hz : H1.size = H.size + 1) (ho : ∀ q : Nat, q < H.size → H1[q]? = H[q]?) (ha : va_at (X.2.1, X.2.2.1) vwCl (z_ad X m.1, z_E X (z_nw m) m.1) H1) : z_H X (z_nw m) H1 := by
  refine ⟨by rw [hz, h.1]; rfl, fun b hb => ?_⟩
  by_cases e : b = m.1
  · subst e
    exact ha
  · have hlt : b < m.1 := by
      have : b < m.1 + 1 := hb
      omega
    rw [z_E_congr (m := m) (by funext k; simp [z_nw, e]) (by funext k; simp [z_nw, e])]
    exact (h.2 b hlt).kept (ho _ (h.2 b hlt).lt)
theorem z_S.push {A : Nat → Prop} {H0 H H1 : Heap} {locs : List Loc} (hS : va_S A H0 H locs) (hz : H1.size = H.size + 1) (ho : ∀ q : Nat, q < H.size → H1[q]? = H[q]?) : va_S A H0 H1 locs :=
  ⟨Nat.le_trans hS.1 (by omega), fun x h1 h2 => (ho x (Nat.lt_of_lt_of_le h1 hS.1)).trans (hS.2.1 x h1 h2), hS.2.2⟩
/-- a step that makes a cell -/
theorem z_mk {pc' : Nat} {st0 st' : List Value} {k : Nat → z_M → z_R} (h : ∀ (p : Program) (e : Env) (R : Room) (s : State) (m : MethodId) (args : Array Value) (below : List Frame) (meth : Method) (c : Code) (H : Heap) (locs : List Loc) (cells slots : Nat) (Q : State → Prop) (ls : Array Slot),
      z_En X y cc nL rt p s m args meth c → z_H X mm H → va_S (z_A X) s.heap H locs → cells + 1 ≤ R.cells → slots + z_n mm.1 ≤ R.slots → (∀ H1 : Heap, z_H X (z_nw mm) H1 → va_S (z_A X) s.heap H1 locs → W p X.1 e R s m args below meth c H1 locs (cells + 1) (slots + z_n mm.1) Q (F0 m pc' ls (.ref (z_ad X mm.1) :: st'))) → W p X.1 e R s m args below meth c H locs cells slots Q (F0 m pc ls st0))
    (K : z_Sim X y cc nL rt d pc' lv (.ref (z_ad X mm.1) :: st') (z_nw mm) (k mm.1 (z_nw mm))) : z_Sim X y cc nL rt d pc lv st0 mm (k mm.1 (z_nw mm)) := by
  intro r m2 ho
  obtain ⟨⟨a1, a2⟩, b⟩ := K r m2 ho
  have a1 : mm.1 + 1 ≤ m2.1 := a1
  have a2 : mm.2.1 + z_n mm.1 ≤ m2.2.1 := a2
  refine ⟨⟨by omega, by omega⟩, fun p e s m args below meth c n0 z0 H locs ls hE h1 h2 hH hS hl => h _ _ _ _ _ _ _ _ _ _ _ _ _ _ _ hE hH hS ?_ ?_ (fun H1 hH1 hS1 => ?_)⟩
  · show mm.1 - n0 + 1 ≤ m2.1 - n0
    omega
  · show mm.2.1 - z0 + z_n mm.1 ≤ m2.2.1 - z0
    omega
  · have hh := b p e s m args below meth c n0 z0 H1 locs ls hE (by show n0 ≤ mm.1 + 1; omega) (by show z0 ≤ mm.2.1 + z_n mm.1; omega) hH1 hS1 hl
    have e1 : (z_nw mm).1 - n0 = mm.1 - n0 + 1 := by show mm.1 + 1 - n0 = _; omega
    have e2 : (z_nw mm).2.1 - z0 = mm.2.1 - z0 + z_n mm.1 := by show mm.2.1 + z_n mm.1 - z0 = _; omega
    rw [e1, e2] at hh
    exact hh
theorem z_new {c ix N : Nat} {C : String} {T : u_T} {ty : Nat → FieldType} {k : Nat → z_M → z_R} (hc : z_Cl c C T N ty) (hw : Cond.classLink y.cls ix C ∈ z_ws) (hw2 : Cond.instantiable C N ∈ z_ws) (hw3 : Cond.initialized C ∈ z_ws) (hd : decode cc pc = .ok (.new ix, 3))
    (K : ∀ (a : Nat) (m' : z_M), z_Sim X y cc nL rt d (pc + 3) lv (.ref (z_ad X a) :: st) m' (k a m')) : z_Sim X y cc nL rt d pc lv st mm (z_no mm c k) := by
  unfold z_no
  refine z_if (fun g2 => ?_) (fun _ => z_none)
  refine z_mk (fun p e R s m args below meth c0 H locs cells slots Q ls hE hH hS hcells hslots kk => ?_) (K mm.1 (z_nw mm))
  have hts := hE.1.2.2.2.2
  have hKn := hE.2.2.2.2.1.1 c _ hc.1
  have hlen : z_n mm.1 = N := hc.2.2.2.2.1 _ g2
  rw [hlen] at hslots kk
  refine W.newcK (h := z_ad X mm.1) hE.1.1 hE.1.2.1 hE.1.2.2.2.1 (hts _ hw) (hts _ hw2) (hts _ hw3) rfl hd hcells hslots hKn.2.1 hH.1 fun H1 kC hkC e1 z1 o1 => ?_
  have z1 : H1.size = H.size + 1 := by rw [hH.1]; exact z1
  have o1 : ∀ q : Nat, q < H.size → H1[q]? = H[q]? := fun q hq => o1 q (by rw [hH.1] at hq; exact hq)
  refine kk H1 (hH.new z1 o1 ?_) (z_S.push hS z1 o1)
  rw [z_E_obj g2 hc.2.2.2.2.2.2]
  refine ⟨_, hc.1, (u_born ty hts hc.2.1 hKn hkC e1 hc.2.2.1).to (fun j hj => ?_)⟩
  have hj2 : j < z_n mm.1 := by rw [hlen]; exact hj
  rw [hc.2.2.2.2.2.1 j hj]
  by_cases hi : z_i c j = true
  · simp [vp_V, hj2, z_v, g2, hi, z_nw]
  · simp [vp_V, hj2, z_v, g2, hi, z_nw, va_rf]
theorem z_newI {n : Int32} {k : Nat → z_M → z_R} (hd : decode cc pc = .ok (.newarray .int, 2))
    (K : ∀ (a : Nat) (m' : z_M), z_Sim X y cc nL rt d (pc + 2) lv (.ref (z_ad X a) :: st) m' (k a m')) : z_Sim X y cc nL rt d pc lv (.int n :: st) mm (z_na mm 6 n k) := by
  unfold z_na
  refine z_if (fun hg => ?_) (fun _ => z_none)
  obtain ⟨g2, g3, g4⟩ := hg
  refine z_mk (fun p e R s m args below meth c0 H locs cells slots Q ls hE hH hS hcells hslots kk => ?_) (K mm.1 (z_nw mm))
  have hts := hE.1.2.2.2.2
  refine va_newaK (atype := .int) (h := z_ad X mm.1) hE.1.1 hE.1.2.1 (hts (.arrayClass .int) (by decide +kernel)) rfl hd rfl g3 g4 ?_ hcells hslots hH.1 ?_
  · have h1 : componentBytes (newarray.typeOf ArrayType.int) ≤ 4 := by decide
    exact z_bytes mm.1 h1
  intro H1 cA e1 z1 o1 _ hcA
  have z1 : H1.size = H.size + 1 := by rw [hH.1]; exact z1
  have o1 : ∀ q : Nat, q < H.size → H1[q]? = H[q]? := fun q hq => o1 q (by rw [hH.1] at hq; exact hq)
  refine kk H1 (hH.new z1 o1 ?_) (z_S.push hS z1 o1)
  rw [z_E_int g2]
  have hc2 : s.vm.findClass ("[" ++ FieldType.int.toString) = some (X.2.2.2.1 6) := (hE.2.2.2.2.1.2 0 (X.2.2.2.1 6, .int) rfl).2
  have ecA : cA = X.2.2.2.1 6 := Option.some.inj (hcA.symm.trans hc2)
  subst ecA
  show H1[z_ad X mm.1]? = some (vp_cell _ _)
  rw [e1, vp_cell_i]
  congr 2
  funext q
  simp [z_nw]
  rfl
theorem z_newC {n : Int32} {k : Nat → z_M → z_R} (hd : decode cc pc = .ok (.newarray .char, 2))
    (K : ∀ (a : Nat) (m' : z_M), z_Sim X y cc nL rt d (pc + 2) lv (.ref (z_ad X a) :: st) m' (k a m')) : z_Sim X y cc nL rt d pc lv (.int n :: st) mm (z_na mm 7 n k) := by
  unfold z_na
  refine z_if (fun hg => ?_) (fun _ => z_none)
  obtain ⟨g2, g3, g4⟩ := hg
  refine z_mk (fun p e R s m args below meth c0 H locs cells slots Q ls hE hH hS hcells hslots kk => ?_) (K mm.1 (z_nw mm))
  have hts := hE.1.2.2.2.2
  refine va_newaK (atype := .char) (h := z_ad X mm.1) hE.1.1 hE.1.2.1 (hts (.arrayClass .char) (by decide +kernel)) rfl hd rfl g3 g4 ?_ hcells hslots hH.1 ?_
  · have h1 : componentBytes (newarray.typeOf ArrayType.char) ≤ 4 := by decide
    exact z_bytes mm.1 h1
  intro H1 cA e1 z1 o1 _ hcA
  have z1 : H1.size = H.size + 1 := by rw [hH.1]; exact z1
  have o1 : ∀ q : Nat, q < H.size → H1[q]? = H[q]? := fun q hq => o1 q (by rw [hH.1] at hq; exact hq)
  refine kk H1 (hH.new z1 o1 ?_) (z_S.push hS z1 o1)
  rw [z_E_chr g2]
  have hc2 : s.vm.findClass ("[" ++ FieldType.char.toString) = some (X.2.2.2.1 7) := (hE.2.2.2.2.1.2 1 (X.2.2.2.1 7, .char) rfl).2
  have ecA : cA = X.2.2.2.1 7 := Option.some.inj (hcA.symm.trans hc2)
  subst ecA
  show H1[z_ad X mm.1]? = some (vp_cell _ _)
  rw [e1, vp_cell_i]
  congr 2
  funext q
  simp [z_nw]
  rfl
theorem z_newR {ix : Nat} {n : Int32} {k : Nat → z_M → z_R} (hw : Cond.classLink y.cls ix "HayFootStraw$Standing" ∈ z_ws) (hd : decode cc pc = .ok (.anewarray ix, 3)) 
    (K : ∀ (a : Nat) (m' : z_M), z_Sim X y cc nL rt d (pc + 3) lv (.ref (z_ad X a) :: st) m' (k a m')) : z_Sim X y cc nL rt d pc lv (.int n :: st) mm (z_na mm 8 n k) := by
  unfold z_na
  refine z_if (fun hg => ?_) (fun _ => z_none)
  obtain ⟨g2, g3, g4⟩ := hg
  refine z_mk (fun p e R s m args below meth c0 H locs cells slots Q ls hE hH hS hcells hslots kk => ?_) (K mm.1 (z_nw mm))
  have hts := hE.1.2.2.2.2
  rw [← g4] at hslots kk
  refine W.anew hE.1.1 hE.1.2.1 hE.1.2.2.2.1 (hts _ hw) (va_AO.use hE.2.2.2.2.2.2.2.2.2.2.2.1) rfl hd rfl g3 (by rw [g4]; exact z_bytes _ (by decide)) hcells hslots fun cA kA comp f1 f2 f3 f4 => ?_
  generalize hH1 : H.push ({ cls := cA, slots := Array.replicate n.toNatClampNeg .null, vm := .none } : Cell) = H1
  have z1 : H1.size = H.size + 1 := by rw [← hH1, Array.size_push]
  have e1 : H1[H.size]? = some (arrV cA n.toNatClampNeg (fun _ => .null)) := by rw [← hH1, Array.getElem?_push_size, ← arrV_new]
  have o1 : ∀ q : Nat, q < H.size → H1[q]? = H[q]? := fun q hq => by rw [← hH1, Array.getElem?_push, if_neg (Nat.ne_of_lt hq)]
  have hsz : H.size = z_ad X mm.1 := hH.1
  rw [hsz] at e1
  have kk2 := kk H1 (hH.new z1 o1 ?_) (z_S.push hS z1 o1)
  · rw [← hsz] at kk2
    exact kk2
  rw [z_E_ref g2]
  obtain ⟨kA', comp', r1, r2, r3, hc2⟩ := (hE.2.2.2.2.1.2 2 (X.2.2.2.1 8, .object "HayFootStraw$Standing") rfl).2
  have ecA : cA = X.2.2.2.1 8 := Option.some.inj (f1.symm.trans hc2)
  subst ecA
  show H1[z_ad X mm.1]? = some (vp_cell _ _)
  rw [e1, vp_cell_q, g4]
  congr 2
  funext q
  simp [z_nw, va_rf]
theorem z_gets0 {ix : Nat} (hw : Cond.fieldLink y.cls ix "HayFootStraw" "TURNS" "[I" ∈ z_ws) (hd : decode cc pc = .ok (.getstatic ix, 3)) (K : z_Sim X y cc nL rt d (pc + 3) lv (.ref (X.2.2.2.2.2 0) :: st) mm o) : z_Sim X y cc nL rt d pc lv st mm o :=
  z_rd (fun p e R s m args below meth c0 H locs cells slots Q ls hE hH hS kk => va_gets hE.1.1 hE.1.2.1 hE.2.2.2.2.2.2.1.1 hS hE.1.2.2.2.1 (hE.1.2.2.2.2 _ hw) (fun _ h => h) hd kk) K
theorem z_gets1 {ix : Nat} (hw : Cond.fieldLink y.cls ix "HayFootStraw" "ROWS" "[I" ∈ z_ws) (hd : decode cc pc = .ok (.getstatic ix, 3)) (K : z_Sim X y cc nL rt d (pc + 3) lv (.ref (X.2.2.2.2.2 1) :: st) mm o) : z_Sim X y cc nL rt d pc lv st mm o :=
  z_rd (fun p e R s m args below meth c0 H locs cells slots Q ls hE hH hS kk => va_gets hE.1.1 hE.1.2.1 hE.2.2.2.2.2.2.1.2 hS hE.1.2.2.2.1 (hE.1.2.2.2.2 _ hw) (fun _ h => h) hd kk) K
theorem z_tald {t : Nat} {i : Int32} {k : Int32 → z_R} (ht : t < 2) (hd : decode cc pc = .ok (.iaload, 1)) (K : ∀ v : Int32, z_Sim X y cc nL rt d (pc + 1) lv (.int v :: st) mm (k v)) : z_Sim X y cc nL rt d pc lv (.int i :: .ref (X.2.2.2.2.2 t) :: st) mm (z_tl t i k) := by
  unfold z_tl
  refine z_if (fun hg => ?_) (fun _ => z_none)
  exact z_rd (fun p e R s m args below meth c0 H locs cells slots Q ls hE hH hS kk => va_ti hE.1.1 hE.1.2.1 (hE.2.2.2.2.2.2.2.1 t ht) hS (vp_in_iff.mpr hg) rfl hd kk) (K _)
theorem z_iret {v : Int32} (hd : decode cc pc = .ok (.ireturn, 1)) : z_Sim X y cc nL (some .int) d pc lv [.int v] mm (some (v, mm)) := by
  intro r m2 ho
  cases ho
  exact ⟨⟨Nat.le_refl _, Nat.le_refl _⟩, fun p e s m args below meth c n0 z0 H locs ls hE h1 h2 hH hS hl => W.iret hE.1.1 hE.1.2.1 hE.2.1 (fun t ht _ => ⟨rfl, by rw [ht]; exact hH, hS.F ht⟩) hS.2.2 hd hE.2.2.1⟩
theorem z_zret {v : Int32} (hd : decode cc pc = .ok (.ireturn, 1)) : z_Sim X y cc nL (some .boolean) d pc lv [.int v] mm (z_rz v mm) := by
  unfold z_rz
  refine z_if (fun hg => ?_) (fun _ => z_none)
  intro r m2 ho
  cases ho
  exact ⟨⟨Nat.le_refl _, Nat.le_refl _⟩, fun p e s m args below meth c n0 z0 H locs ls hE h1 h2 hH hS hl => W.zret hE.1.1 hE.1.2.1 hE.2.1 (by rcases hg with h | h <;> rw [h] <;> rfl) (fun t ht _ => ⟨rfl, by rw [ht]; exact hH, hS.F ht⟩) hS.2.2 hd hE.2.2.1⟩
theorem z_zret0 (hd : decode cc pc = .ok (.ireturn, 1)) : z_Sim X y cc nL (some .boolean) d pc lv [.int 0] mm (some (0, mm)) := z_zret (v := 0) hd
theorem z_zret1 (hd : decode cc pc = .ok (.ireturn, 1)) : z_Sim X y cc nL (some .boolean) d pc lv [.int 1] mm (some (1, mm)) := z_zret (v := 1) hd
theorem z_vret (hd : decode cc pc = .ok (.return_, 1)) : z_Sim X y cc nL none d pc lv [] mm (some (0, mm)) := by
  intro r m2 ho
  cases ho
  exact ⟨⟨Nat.le_refl _, Nat.le_refl _⟩, fun p e s m args below meth c n0 z0 H locs ls hE h1 h2 hH hS hl => W.vret hE.1.1 hE.1.2.1 hE.2.1 (fun t ht _ => ⟨rfl, by rw [ht]; exact hH, hS.F ht⟩) hS.2.2 hd hE.2.2.1⟩
theorem z_oinit {a ix : Nat} (hd1 : 1 ≤ d) (h36 : (st.map fun v => v.category).sum + 12 ≤ 36) (hw : Cond.methodLink y.cls ix Lib.objectInit ∈ z_ws) (hd : decode cc pc = .ok (.invokespecial ix, 3)) (K : z_Sim X y cc nL rt d (pc + 3) lv st mm o) : z_Sim X y cc nL rt d pc lv (.ref a :: st) mm o := by
  intro r m2 ho
  obtain ⟨a1, b⟩ := K r m2 ho
  refine ⟨a1, fun p e s m args below meth c n0 z0 H locs ls hE h1 h2 hH hS hl => ?_⟩
  have hts := hE.1.2.2.2.2
  refine W.objInit hE.1.1 hE.1.2.1 hE.1.2.2.2.1 (hts _ hw) (hts (.instanceMethod Lib.objectInit) (by decide +kernel)) (hts (.code Lib.objectInit ⟨#[0xb1]⟩ 1 none) (by decide +kernel)) rfl (by rw [hE.1.2.2.1]; exact hl.1) rfl hd hd1 (by show 2 * 0 + _ + 12 ≤ 36 * d; omega) ?_
  exact b p e s m args below meth c n0 z0 H locs ls hE h1 h2 hH hS hl
/-- behind a call -/
theorem z_behind {p : Program} {e : Env} {R : Room} {s : State} {m : MethodId} {args : Array Value} {below : List Frame} {meth : Method} {c : Code} {H : Heap} {locs : List Loc} {cells slots mc ms : Nat} {Q : State → Prop} {ls : Array Slot} {st0 rest : List Value} {a : Array Value} {rt2 : Option FieldType} {r1 : Int32} {m1 : z_M}
    (hr : va_Run p X.1 e R s m args below meth c H locs cells slots mc ms (F0 m pc ls st0) rest (z_Q X rt2 r1 m1 a) (z_A X)) (hS : va_S (z_A X) s.heap H locs)
    (kk : ∀ (H1 : Heap) (locs1 : List Loc), z_H X m1 H1 → va_S (z_A X) s.heap H1 locs1 → W p X.1 e R s m args below meth c H1 locs1 (cells + mc) (slots + ms) Q (F0 m (pc + 3) ls ((if rt2 = none then none else some (Value.int r1)).toList ++ rest))) : W p X.1 e R s m args below meth c H locs cells slots Q (F0 m pc ls st0) := by
  intro T hT Y
  obtain ⟨v, st₀, t, T', L, h0, Y', hL, e1, e2, ⟨hv, hp, hz, hk⟩, stp⟩ := hr T hT Y
  cases hv
  rw [h0] at hz hk
  obtain ⟨t2, a1, b1⟩ := kk T'.heap (locs ++ L) (by rw [e1]; exact hp) ⟨Nat.le_trans hS.1 (by rw [e1]; exact hz), fun q h1 h2 => by rw [e1, hk q (Nat.lt_of_lt_of_le h1 hS.1) h2]; exact hS.2.1 q h1 h2, fun q hq => by
      rcases List.mem_append.mp hq with h | h
      · exact hS.2.2 q h
      · exact hL q h⟩ T' rfl Y'
  exact ⟨t2, stp t2 a1, b1⟩
/-- what the tables say of a method -/
def z_Mw (y2 : MethodName) (c2 : ByteArray) (n2 : Nat) (rt2 : Option FieldType) (np : Nat) : Prop := Cond.code y2 c2 n2 rt2 ∈ z_ws ∧ Cond.initialized y2.cls ∈ z_ws ∧ (y2.cls ≠ "java/lang/invoke/MethodHandle" ∧ y2.cls ≠ "java/lang/invoke/VarHandle" ∧ (parseMethodDescriptor y2.desc).map (fun d => d.parameters.length) = some np)
theorem z_pre {U s : State} {H : Heap} {locs : List Loc} {av : List Value} (hK : va_K (X.2.1, X.2.2.1) vwCl (z_ty X) s) (hSt : z_S X s s.heap) (hH : z_H X mm H) (hS : va_S (z_A X) s.heap H locs) (hU : U.heap = H) (hW : s.WarmedH U.vm) : va_Pc av (z_Pre X mm) av.toArray U := ⟨rfl, by rw [hU]; exact hH, va_K.moved hW.alike hK, by rw [hU]; exact hSt.to hS hW⟩
/-- any call, by its run -/
theorem z_call {y2 : MethodName} {c2 : ByteArray} {n2 : Nat} {rt2 : Option FieldType} {d2 : Nat} {av : List Value} {oc : z_R} {k : Int32 → z_M → z_R} {st0 rest : List Value} (hC : z_Ct X y2 c2 n2 rt2 d2 av mm oc)
    (run : ∀ (r1 : Int32) (m1 : z_M) (p : Program) (e : Env) (R : Room) (s : State) (m : MethodId) (args : Array Value) (below : List Frame) (meth : Method) (c : Code) (H : Heap) (locs : List Loc) (cells slots : Nat) (ls : Array Slot), z_En X y cc nL rt p s m args meth c → z_H X mm H → va_S (z_A X) s.heap H locs → ls.size = nL → R.frames = d → R.locals = 36 * d → cells + (m1.1 - mm.1) ≤ R.cells ∧ slots + (m1.2.1 - mm.2.1) ≤ R.slots → 
      Met X.1 y2 (Cond.code y2 c2 n2 rt2 :: z_ws) (z_rm d2 (m1.1 - mm.1) (m1.2.1 - mm.2.1)) (va_Pc av (z_Pre X mm)) (z_Q X rt2 r1 m1) (m1.1 - mm.1) (m1.2.1 - mm.2.1) (z_A X) →
      va_Run p X.1 e R s m args below meth c H locs cells slots (m1.1 - mm.1) (m1.2.1 - mm.2.1) (F0 m pc ls st0) rest (z_Q X rt2 r1 m1 av.toArray) (z_A X))
    (K : ∀ (r1 : Int32) (m1 : z_M), z_Sim X y cc nL rt d (pc + 3) lv ((if rt2 = none then none else some (Value.int r1)).toList ++ rest) m1 (k r1 m1)) : z_Sim X y cc nL rt d pc lv st0 mm (z_b oc k) := by
  intro r m2 ho
  obtain ⟨r1, m1, h1, h2⟩ := z_b_some ho
  obtain ⟨⟨q1, q2⟩, hM⟩ := hC r1 m1 h1
  obtain ⟨⟨q3, q4⟩, b⟩ := K r1 m1 r m2 h2
  refine ⟨⟨by omega, by omega⟩, fun p e s m args below meth c n0 z0 H locs ls hE g1 g2 hH hS hl => ?_⟩
  refine z_behind (run r1 m1 p e _ s m args below meth c H locs _ _ ls hE hH hS hl.1 rfl rfl ⟨?_, ?_⟩ hM) hS (fun H1 locs1 hH1 hS1 => ?_)
  · show mm.1 - n0 + (m1.1 - mm.1) ≤ m2.1 - n0
    omega
  · show mm.2.1 - z0 + (m1.2.1 - mm.2.1) ≤ m2.2.1 - z0
    omega
  · have hh := b p e s m args below meth c n0 z0 H1 locs1 ls hE (by omega) (by omega) hH1 hS1 hl
    have e1 : mm.1 - n0 + (m1.1 - mm.1) = m1.1 - n0 := by omega
    have e2 : mm.2.1 - z0 + (m1.2.1 - mm.2.1) = m1.2.1 - z0 := by omega
    rw [e1, e2]
    exact hh
theorem z_cV {y2 : MethodName} {c2 : ByteArray} {n2 np N : Nat} {rt2 : Option FieldType} {d2 a ci ix : Nat} {C : String} {T : u_T} {ty : Nat → FieldType} {As rest st0 : List Value} {oc : z_R} {k : Int32 → z_M → z_R} (hC : z_Ct X y2 c2 n2 rt2 d2 (.ref (z_ad X a) :: As) mm oc) (hM : z_Mw y2 c2 n2 rt2 np) (hI : Cond.instanceMethod y2 ∈ z_ws ∧ Cond.selects C y2 y2 ∈ z_ws) (hc : z_Cl ci C T N ty) (hl : Cond.methodLink y.cls ix y2 ∈ z_ws) (hnp : As.length = np) (hst : st0 = As.reverse ++ .ref (z_ad X a) :: rest) (hR : d2 + 1 ≤ d ∧ 8 + (n2 + 11) + 36 * d2 ≤ 36 * d) (h8 : (rest.map fun v => v.category).sum ≤ 8) (hd : decode cc pc = .ok (.invokevirtual ix, 3))
    (K : ∀ (r1 : Int32) (m1 : z_M), z_Sim X y cc nL rt d (pc + 3) lv ((if rt2 = none then none else some (Value.int r1)).toList ++ rest) m1 (k r1 m1)) : z_Sim X y cc nL rt d pc lv st0 mm (z_cv mm a ci oc k) := by
  unfold z_cv
  refine z_if (fun hg => ?_) (fun _ => z_none)
  obtain ⟨g1, g2⟩ := hg
  refine z_call hC (fun r1 m1 p e R s m args below meth c H locs cells slots ls hE hH hS hls hRf hRl hfit hMet => ?_) K
  have hts := hE.1.2.2.2.2
  have hat := z_one_P hH g1 (z_E_obj g2 hc.2.2.2.2.2.2)
  exact va_runV (C := C) (b := z_ad X a) (As := As) (rest := rest) (n := np) hE.1 hMet ⟨callB_of np hts (z_goodIn hM.1 (fun _ h => h)) rfl rfl rfl (hts _ hM.2.1) (hts _ hl) hM.2.2 ⟨by show d2 + 1 ≤ R.frames; omega, by show 8 + (n2 + 11) + 36 * d2 ≤ R.locals; omega⟩, hts _ hI.1, hts _ hI.2⟩ ⟨z_blind X _ mm, va_recv hE.2.2.2.2.1 hat hc.1 (q0 := 0) rfl, fun U hU hW => z_pre hE.2.2.2.2.1 hE.2.2.2.2.2.2 hH hS hU hW⟩ rfl hnp hls hst (lv_room h8) hd hfit
theorem z_cS {y2 : MethodName} {c2 : ByteArray} {n2 np : Nat} {rt2 : Option FieldType} {d2 ix : Nat} {As rest st0 : List Value} {oc : z_R} {k : Int32 → z_M → z_R} (hC : z_Ct X y2 c2 n2 rt2 d2 As mm oc) (hM : z_Mw y2 c2 n2 rt2 np) (hI : Cond.static y2 ∈ z_ws) (hl : Cond.methodLink y.cls ix y2 ∈ z_ws) (hnp : As.length = np) (hst : st0 = As.reverse ++ rest) (hR : d2 + 1 ≤ d ∧ 8 + (n2 + 11) + 36 * d2 ≤ 36 * d) (h8 : (rest.map fun v => v.category).sum ≤ 8) (hd : decode cc pc = .ok (.invokestatic ix, 3))
    (K : ∀ (r1 : Int32) (m1 : z_M), z_Sim X y cc nL rt d (pc + 3) lv ((if rt2 = none then none else some (Value.int r1)).toList ++ rest) m1 (k r1 m1)) : z_Sim X y cc nL rt d pc lv st0 mm (z_b oc k) := by
  refine z_call hC (fun r1 m1 p e R s m args below meth c H locs cells slots ls hE hH hS hls hRf hRl hfit hMet => ?_) K
  have hts := hE.1.2.2.2.2
  exact va_runS (As := As) (rest := rest) (n := np) hE.1 hMet ⟨callB_of np hts (z_goodIn hM.1 (fun _ h => h)) rfl rfl rfl (hts _ hM.2.1) (hts _ hl) hM.2.2 ⟨by show d2 + 1 ≤ R.frames; omega, by show 8 + (n2 + 11) + 36 * d2 ≤ R.locals; omega⟩, hts _ hI⟩ ⟨z_blind X _ mm, fun U hU hW => z_pre hE.2.2.2.2.1 hE.2.2.2.2.2.2 hH hS hU hW⟩ rfl hnp hls hst (lv_room h8) hd hfit
theorem z_cI {y2 : MethodName} {c2 : ByteArray} {n2 np : Nat} {d2 a ix : Nat} {As rest st0 : List Value} {oc : z_R} {k : Int32 → z_M → z_R} (hC : z_Ct X y2 c2 n2 none d2 (.ref a :: As) mm oc) (hM : z_Mw y2 c2 n2 none np) (hI : Cond.instanceMethod y2 ∈ z_ws) (hn2 : y2.name = "<init>") (hl : Cond.methodLink y.cls ix y2 ∈ z_ws) (hnp : As.length = np) (hst : st0 = As.reverse ++ .ref a :: rest) (hR : d2 + 1 ≤ d ∧ 8 + (n2 + 11) + 36 * d2 ≤ 36 * d) (h8 : (rest.map fun v => v.category).sum ≤ 8) (hd : decode cc pc = .ok (.invokespecial ix, 3))
    (K : ∀ (r1 : Int32) (m1 : z_M), z_Sim X y cc nL rt d (pc + 3) lv rest m1 (k r1 m1)) : z_Sim X y cc nL rt d pc lv st0 mm (z_b oc k) := by
  refine z_call hC (fun r1 m1 p e R s m args below meth c H locs cells slots ls hE hH hS hls hRf hRl hfit hMet => ?_) K
  have hts := hE.1.2.2.2.2
  exact va_runI (b := a) (As := As) (rest := rest) (n := np) hE.1 hMet ⟨callB_of np hts (z_goodIn hM.1 (fun _ h => h)) rfl rfl rfl (hts _ hM.2.1) (hts _ hl) hM.2.2 ⟨by show d2 + 1 ≤ R.frames; omega, by show 8 + (n2 + 11) + 36 * d2 ≤ R.locals; omega⟩, hn2, hts _ hI⟩ ⟨z_blind X _ mm, fun U hU hW => z_pre hE.2.2.2.2.1 hE.2.2.2.2.2.2 hH hS hU hW⟩ rfl hnp hls hst (lv_room h8) hd hfit
theorem z_cN {y2 : MethodName} {c2 : ByteArray} {n2 np : Nat} {d2 a ix : Nat} {As rest st0 : List Value} {oc : z_R} {k : Int32 → z_M → z_R} (hC : z_Ct X y2 c2 n2 none d2 (.ref a :: As) mm oc) (hM : z_Mw y2 c2 n2 none np) (hI : Cond.instanceMethod y2 ∈ z_ws) (hn2 : y2.name = "<init>") (hl : (y.cls, ix, y2) ∈ z_nest) (hnp : As.length = np) (hst : st0 = As.reverse ++ .ref a :: rest) (hR : d2 + 1 ≤ d ∧ 8 + (n2 + 11) + 36 * d2 ≤ 36 * d) (h8 : (rest.map fun v => v.category).sum ≤ 8) (hd : decode cc pc = .ok (.invokespecial ix, 3))
    (K : ∀ (r1 : Int32) (m1 : z_M), z_Sim X y cc nL rt d (pc + 3) lv rest m1 (k r1 m1)) : z_Sim X y cc nL rt d pc lv st0 mm (z_b oc k) := by
  refine z_call hC (fun r1 m1 p e R s m args below meth c H locs cells slots ls hE hH hS hls hRf hRl hfit hMet => ?_) K
  have hts := hE.1.2.2.2.2
  have hc : Cond.code y2 c2 n2 none ∈ (Cond.code y2 c2 n2 none :: z_ws) := List.mem_cons_self
  refine va_runIN (host := "HayFootStraw") (b := a) (As := As) (rest := rest) (n := np) hE.1 hMet ⟨⟨⟨rfl, rfl, by show d2 + 1 ≤ R.frames; omega, by show 8 + (n2 + 11) + 36 * d2 ≤ R.locals; omega, pay_in hts (z_goodIn hM.1 (fun _ h => h)), hc⟩, hts _ hM.1, hts _ hM.2.1, ⟨hM.2.2.1, hM.2.2.2.1⟩, fun sig h => ?_, va_Nw.use rfl (hE.2.2.2.2.2.2.2.2.2.2.2.2.2 _ hl)⟩, hn2, hts _ hI⟩ ⟨z_blind X _ mm, fun U hU hW => z_pre hE.2.2.2.2.1 hE.2.2.2.2.2.2 hH hS hU hW⟩ rfl hnp hls hst (lv_room h8) hd hfit
  have h2 := hM.2.2.2.2
  rw [h] at h2
  exact (Option.some.inj h2).symm
theorem z_cVi {y2 : MethodName} {c2 : ByteArray} {n2 np N : Nat} {t2 : FieldType} {d2 a ci ix : Nat} {C : String} {T : u_T} {ty : Nat → FieldType} {As rest st0 : List Value} {oc : z_R} {k : Int32 → z_M → z_R} (hC : z_Ct X y2 c2 n2 (some t2) d2 (.ref (z_ad X a) :: As) mm oc) (hM : z_Mw y2 c2 n2 (some t2) np) (hI : Cond.instanceMethod y2 ∈ z_ws ∧ Cond.selects C y2 y2 ∈ z_ws) (hc : z_Cl ci C T N ty) (hl : Cond.methodLink y.cls ix y2 ∈ z_ws) (hnp : As.length = np) (hst : st0 = As.reverse ++ .ref (z_ad X a) :: rest) (hR : d2 + 1 ≤ d ∧ 8 + (n2 + 11) + 36 * d2 ≤ 36 * d) (h8 : (rest.map fun v => v.category).sum ≤ 8) (hd : decode cc pc = .ok (.invokevirtual ix, 3))
    (K : ∀ (r1 : Int32) (m1 : z_M), z_Sim X y cc nL rt d (pc + 3) lv (.int r1 :: rest) m1 (k r1 m1)) : z_Sim X y cc nL rt d pc lv st0 mm (z_cv mm a ci oc k) :=
  z_cV hC hM hI hc hl hnp hst hR h8 hd K
theorem z_cVv {y2 : MethodName} {c2 : ByteArray} {n2 np N : Nat} {d2 a ci ix : Nat} {C : String} {T : u_T} {ty : Nat → FieldType} {As rest st0 : List Value} {oc : z_R} {k : Int32 → z_M → z_R} (hC : z_Ct X y2 c2 n2 none d2 (.ref (z_ad X a) :: As) mm oc) (hM : z_Mw y2 c2 n2 none np) (hI : Cond.instanceMethod y2 ∈ z_ws ∧ Cond.selects C y2 y2 ∈ z_ws) (hc : z_Cl ci C T N ty) (hl : Cond.methodLink y.cls ix y2 ∈ z_ws) (hnp : As.length = np) (hst : st0 = As.reverse ++ .ref (z_ad X a) :: rest) (hR : d2 + 1 ≤ d ∧ 8 + (n2 + 11) + 36 * d2 ≤ 36 * d) (h8 : (rest.map fun v => v.category).sum ≤ 8) (hd : decode cc pc = .ok (.invokevirtual ix, 3))
    (K : ∀ (r1 : Int32) (m1 : z_M), z_Sim X y cc nL rt d (pc + 3) lv rest m1 (k r1 m1)) : z_Sim X y cc nL rt d pc lv st0 mm (z_cv mm a ci oc k) :=
  z_cV hC hM hI hc hl hnp hst hR h8 hd K
theorem z_cSi {y2 : MethodName} {c2 : ByteArray} {n2 np : Nat} {t2 : FieldType} {d2 ix : Nat} {As rest st0 : List Value} {oc : z_R} {k : Int32 → z_M → z_R} (hC : z_Ct X y2 c2 n2 (some t2) d2 As mm oc) (hM : z_Mw y2 c2 n2 (some t2) np) (hI : Cond.static y2 ∈ z_ws) (hl : Cond.methodLink y.cls ix y2 ∈ z_ws) (hnp : As.length = np) (hst : st0 = As.reverse ++ rest) (hR : d2 + 1 ≤ d ∧ 8 + (n2 + 11) + 36 * d2 ≤ 36 * d) (h8 : (rest.map fun v => v.category).sum ≤ 8) (hd : decode cc pc = .ok (.invokestatic ix, 3))
    (K : ∀ (r1 : Int32) (m1 : z_M), z_Sim X y cc nL rt d (pc + 3) lv (.int r1 :: rest) m1 (k r1 m1)) : z_Sim X y cc nL rt d pc lv st0 mm (z_b oc k) :=
  z_cS hC hM hI hl hnp hst hR h8 hd K
theorem z_cSv {y2 : MethodName} {c2 : ByteArray} {n2 np : Nat} {d2 ix : Nat} {As rest st0 : List Value} {oc : z_R} {k : Int32 → z_M → z_R} (hC : z_Ct X y2 c2 n2 none d2 As mm oc) (hM : z_Mw y2 c2 n2 none np) (hI : Cond.static y2 ∈ z_ws) (hl : Cond.methodLink y.cls ix y2 ∈ z_ws) (hnp : As.length = np) (hst : st0 = As.reverse ++ rest) (hR : d2 + 1 ≤ d ∧ 8 + (n2 + 11) + 36 * d2 ≤ 36 * d) (h8 : (rest.map fun v => v.category).sum ≤ 8) (hd : decode cc pc = .ok (.invokestatic ix, 3))
    (K : ∀ (r1 : Int32) (m1 : z_M), z_Sim X y cc nL rt d (pc + 3) lv rest m1 (k r1 m1)) : z_Sim X y cc nL rt d pc lv st0 mm (z_b oc k) :=
  z_cS hC hM hI hl hnp hst hR h8 hd K
/-- a call on the first squad's text -/
theorem z_cT {y2 : MethodName} {c2 : ByteArray} {n2 np : Nat} {t2 : FieldType} {d2 ix : Nat} {As rest st0 : List Value} {oc : z_R} {k : Int32 → z_M → z_R} (hC : z_Ct X y2 c2 n2 (some t2) d2 (.ref (X.2.2.2.2.2 2) :: As) mm oc) (hM : z_Mw y2 c2 n2 (some t2) np) (hI : Cond.instanceMethod y2 ∈ z_ws ∧ Cond.selects RJ0 y2 y2 ∈ z_ws) (hl : Cond.methodLink y.cls ix y2 ∈ z_ws) (hnp : As.length = np) (hst : st0 = As.reverse ++ .ref (X.2.2.2.2.2 2) :: rest) (hR : d2 + 1 ≤ d ∧ 8 + (n2 + 11) + 36 * d2 ≤ 36 * d) (h8 : (rest.map fun v => v.category).sum ≤ 8) (hd : decode cc pc = .ok (.invokevirtual ix, 3))
    (K : ∀ (r1 : Int32) (m1 : z_M), z_Sim X y cc nL rt d (pc + 3) lv (.int r1 :: rest) m1 (k r1 m1)) : z_Sim X y cc nL rt d pc lv st0 mm (z_b oc k) := by
  refine z_call hC (fun r1 m1 p e R s m args below meth c H locs cells slots ls hE hH hS hls hRf hRl hfit hMet => ?_) K
  have hts := hE.1.2.2.2.2
  exact va_runV (C := RJ0) (b := X.2.2.2.2.2 2) (As := As) (rest := rest) (n := np) hE.1 hMet ⟨callB_of np hts (z_goodIn hM.1 (fun _ h => h)) rfl rfl rfl (hts _ hM.2.1) (hts _ hl) hM.2.2 ⟨by show d2 + 1 ≤ R.frames; omega, by show 8 + (n2 + 11) + 36 * d2 ≤ R.locals; omega⟩, hts _ hI.1, hts _ hI.2⟩ ⟨z_blind X _ mm, vk_recv (i := 0) hE.2.2.2.2.2.2.2.2.2.1 (by decide) hS, fun U hU hW => z_pre hE.2.2.2.2.1 hE.2.2.2.2.2.2 hH hS hU hW⟩ rfl hnp hls hst (lv_room h8) hd hfit
theorem z_ldcS (hy : y.cls = "HayFootStraw") (hd : decode cc pc = .ok (.ldc 58, 2)) (K : z_Sim X y cc nL rt d (pc + 2) lv (.ref (X.2.2.2.2.2 2) :: st) mm o) : z_Sim X y cc nL rt d pc lv st mm o :=
  z_rd (fun p e R s m args below meth c0 H locs cells slots Q ls hE hH hS kk => va_ldcS (own := "HayFootStraw") hE.1.1 hE.1.2.1 (by rw [← hy]; exact hE.1.2.2.2.1) hE.2.2.2.2.2.2.2.2.2.2.1 hd kk) K
def z_mx (x y : Int32) : Int32 := if x < y then y else x
def z_dv (x y : Int32) (k : Int32 → z_R) : z_R := if y = 0 then none else k (x / y)
def z_rm' (x y : Int32) (k : Int32 → z_R) : z_R := if y = 0 then none else k (z_mI x y)
theorem z_idivG {x y1 : Int32} {k : Int32 → z_R} (hd : decode cc pc = .ok (.idiv, 1)) (K : ∀ v : Int32, z_Sim X y cc nL rt d (pc + 1) lv (.int v :: st) mm (k v)) : z_Sim X y cc nL rt d pc lv (.int y1 :: .int x :: st) mm (z_dv x y1 k) := by
  unfold z_dv
  exact z_if (fun _ => z_none) (fun h => z_idiv hd h (K _))
theorem z_iremG {x y1 : Int32} {k : Int32 → z_R} (hd : decode cc pc = .ok (.irem, 1)) (K : ∀ v : Int32, z_Sim X y cc nL rt d (pc + 1) lv (.int v :: st) mm (k v)) : z_Sim X y cc nL rt d pc lv (.int y1 :: .int x :: st) mm (z_rm' x y1 k) := by
  unfold z_rm'
  exact z_if (fun _ => z_none) (fun h => z_irem hd h (K _))
/-- a return of any int kind -/
theorem z_xret {v : Int32} {ty : FieldType} (hn : narrow ty (.int v) = .int v) (hd : decode cc pc = .ok (.ireturn, 1)) : z_Sim X y cc nL (some ty) d pc lv [.int v] mm (some (v, mm)) := by
  intro r m2 ho
  cases ho
  exact ⟨⟨Nat.le_refl _, Nat.le_refl _⟩, fun p e s m args below meth c n0 z0 H locs ls hE h1 h2 hH hS hl => W.zret hE.1.1 hE.1.2.1 hE.2.1 hn (fun t ht _ => ⟨rfl, by rw [ht]; exact hH, hS.F ht⟩) hS.2.2 hd hE.2.2.1⟩
end
theorem z_sw2 {x : Int32} (h0 : ¬ x = 0) (h1 : ¬ x = 1) (h2 : ¬ x = 2) : x.toInt < 0 ∨ 2 < x.toInt := by
  have a0 := lv_neT h0 (a := 0) (by decide)
  have a1 := lv_neT h1 (a := 1) (by decide)
  have a2 := lv_neT h2 (a := 2) (by decide)
  omega
theorem z_sw4 {x : Int32} (h0 : ¬ x = 0) (h1 : ¬ x = 1) (h2 : ¬ x = 2) (h3 : ¬ x = 3) (h4 : ¬ x = 4) : x.toInt < 0 ∨ 4 < x.toInt := by
  have a0 := lv_neT h0 (a := 0) (by decide)
  have a1 := lv_neT h1 (a := 1) (by decide)
  have a2 := lv_neT h2 (a := 2) (by decide)
  have a3 := lv_neT h3 (a := 3) (by decide)
  have a4 := lv_neT h4 (a := 4) (by decide)
  omega
theorem z_sw5 {x : Int32} (h0 : ¬ x = 0) (h1 : ¬ x = 1) (h2 : ¬ x = 2) (h3 : ¬ x = 3) (h4 : ¬ x = 4) (h5 : ¬ x = 5) : x.toInt < 0 ∨ 5 < x.toInt := by
  have a0 := lv_neT h0 (a := 0) (by decide)
  have a1 := lv_neT h1 (a := 1) (by decide)
  have a2 := lv_neT h2 (a := 2) (by decide)
  have a3 := lv_neT h3 (a := 3) (by decide)
  have a4 := lv_neT h4 (a := 4) (by decide)
  have a5 := lv_neT h5 (a := 5) (by decide)
  omega
end
section
/-! words, by their places -/
theorem z_in {w : Cond} (i : Nat) (h : lw_tbl[i]? = some w) (hg : goodWord w = true) : w ∈ z_ws := List.mem_filter.mpr ⟨List.mem_of_getElem? h, hg⟩
theorem wf_X0_15 : Cond.fieldLink RX0 15 "HayFootStraw$Pile" "places" "[LHayFootStraw$Standing;" ∈ z_ws := z_in 183 (by decide +kernel) (by decide)
theorem wf_X0_22 : Cond.fieldLink RX0 22 "HayFootStraw$Pile" "size" "I" ∈ z_ws := z_in 184 (by decide +kernel) (by decide)
theorem wf_X1_9 : Cond.fieldLink RX1 9 "HayFootStraw$Script" "letters" "[C" ∈ z_ws := z_in 83 (by decide +kernel) (by decide)
theorem wf_X1_15 : Cond.fieldLink RX1 15 "HayFootStraw$Script" "told" "[I" ∈ z_ws := z_in 86 (by decide +kernel) (by decide)
theorem wf_X1_19 : Cond.fieldLink RX1 19 "HayFootStraw$Script" "length" "I" ∈ z_ws := z_in 84 (by decide +kernel) (by decide)
theorem wf_X2_9 : Cond.fieldLink RX2 9 "HayFootStraw$Squad" "kind" "[I" ∈ z_ws := z_in 108 (by decide +kernel) (by decide)
theorem wf_X2_15 : Cond.fieldLink RX2 15 "HayFootStraw$Squad" "facing" "[I" ∈ z_ws := z_in 110 (by decide +kernel) (by decide)
theorem wf_X2_18 : Cond.fieldLink RX2 18 "HayFootStraw$Squad" "looksAt" "[I" ∈ z_ws := z_in 113 (by decide +kernel) (by decide)
theorem wf_X2_21 : Cond.fieldLink RX2 21 "HayFootStraw$Squad" "erring" "[I" ∈ z_ws := z_in 115 (by decide +kernel) (by decide)
theorem wf_X2_24 : Cond.fieldLink RX2 24 "HayFootStraw$Squad" "men" "I" ∈ z_ws := z_in 102 (by decide +kernel) (by decide)
theorem wf_X2_28 : Cond.fieldLink RX2 28 "HayFootStraw$Squad" "seed" "I" ∈ z_ws := z_in 104 (by decide +kernel) (by decide)
theorem wf_X2_31 : Cond.fieldLink RX2 31 "HayFootStraw$Squad" "shut" "I" ∈ z_ws := z_in 106 (by decide +kernel) (by decide)
theorem wf_X3_9 : Cond.fieldLink RX3 9 "HayFootStraw$Standing" "facing" "[I" ∈ z_ws := z_in 138 (by decide +kernel) (by decide)
theorem wf_X3_15 : Cond.fieldLink RX3 15 "HayFootStraw$Standing" "looksAt" "[I" ∈ z_ws := z_in 140 (by decide +kernel) (by decide)
theorem wf_X3_18 : Cond.fieldLink RX3 18 "HayFootStraw$Squad" "facing" "[I" ∈ z_ws := z_in 111 (by decide +kernel) (by decide)
theorem wf_X3_27 : Cond.fieldLink RX3 27 "HayFootStraw$Squad" "looksAt" "[I" ∈ z_ws := z_in 114 (by decide +kernel) (by decide)
theorem wf_X3_28 : Cond.fieldLink RX3 28 "HayFootStraw$Squad" "shut" "I" ∈ z_ws := z_in 107 (by decide +kernel) (by decide)
theorem wf_X3_32 : Cond.fieldLink RX3 32 "HayFootStraw$Standing" "shut" "I" ∈ z_ws := z_in 142 (by decide +kernel) (by decide)
theorem wf_X3_33 : Cond.fieldLink RX3 33 "HayFootStraw$Standing" "words" "I" ∈ z_ws := z_in 144 (by decide +kernel) (by decide)
theorem wf_X3_36 : Cond.fieldLink RX3 36 "HayFootStraw$Standing" "turnAhead" "I" ∈ z_ws := z_in 146 (by decide +kernel) (by decide)
theorem wf_X3_39 : Cond.fieldLink RX3 39 "HayFootStraw$Standing" "told" "I" ∈ z_ws := z_in 148 (by decide +kernel) (by decide)
theorem wf_X3_42 : Cond.fieldLink RX3 42 "HayFootStraw$Standing" "erred" "I" ∈ z_ws := z_in 150 (by decide +kernel) (by decide)
theorem wf_X3_45 : Cond.fieldLink RX3 45 "HayFootStraw$Standing" "shouted" "I" ∈ z_ws := z_in 152 (by decide +kernel) (by decide)
theorem wf_X4_10 : Cond.fieldLink RX4 10 "HayFootStraw" "script" "LHayFootStraw$Script;" ∈ z_ws := z_in 294 (by decide +kernel) (by decide)
theorem wf_X4_19 : Cond.fieldLink RX4 19 "HayFootStraw" "squad" "LHayFootStraw$Squad;" ∈ z_ws := z_in 295 (by decide +kernel) (by decide)
theorem wf_X4_23 : Cond.fieldLink RX4 23 "HayFootStraw" "draft" "LHayFootStraw$Squad;" ∈ z_ws := z_in 296 (by decide +kernel) (by decide)
theorem wf_X4_29 : Cond.fieldLink RX4 29 "HayFootStraw" "now" "LHayFootStraw$Standing;" ∈ z_ws := z_in 297 (by decide +kernel) (by decide)
theorem wf_X4_33 : Cond.fieldLink RX4 33 "HayFootStraw" "trial" "LHayFootStraw$Standing;" ∈ z_ws := z_in 298 (by decide +kernel) (by decide)
theorem wf_X4_41 : Cond.fieldLink RX4 41 "HayFootStraw" "undoable" "LHayFootStraw$Pile;" ∈ z_ws := z_in 299 (by decide +kernel) (by decide)
theorem wf_X4_45 : Cond.fieldLink RX4 45 "HayFootStraw" "kept" "LHayFootStraw$Pile;" ∈ z_ws := z_in 300 (by decide +kernel) (by decide)
theorem wf_X4_48 : Cond.fieldLink RX4 48 "HayFootStraw" "leader" "[I" ∈ z_ws := z_in 301 (by decide +kernel) (by decide)
theorem wf_X4_52 : Cond.fieldLink RX4 52 "HayFootStraw" "manner" "[I" ∈ z_ws := z_in 302 (by decide +kernel) (by decide)
theorem wf_X4_55 : Cond.fieldLink RX4 55 "HayFootStraw" "rowTurn" "[I" ∈ z_ws := z_in 303 (by decide +kernel) (by decide)
theorem wf_X4_81 : Cond.fieldLink RX4 81 "HayFootStraw$Script" "length" "I" ∈ z_ws := z_in 85 (by decide +kernel) (by decide)
theorem wf_X4_88 : Cond.fieldLink RX4 88 "HayFootStraw$Squad" "men" "I" ∈ z_ws := z_in 103 (by decide +kernel) (by decide)
theorem wf_X4_95 : Cond.fieldLink RX4 95 "HayFootStraw$Squad" "kind" "[I" ∈ z_ws := z_in 109 (by decide +kernel) (by decide)
theorem wf_X4_98 : Cond.fieldLink RX4 98 "HayFootStraw$Standing" "facing" "[I" ∈ z_ws := z_in 139 (by decide +kernel) (by decide)
theorem wf_X4_101 : Cond.fieldLink RX4 101 "HayFootStraw$Standing" "looksAt" "[I" ∈ z_ws := z_in 141 (by decide +kernel) (by decide)
theorem wf_X4_104 : Cond.fieldLink RX4 104 "HayFootStraw$Squad" "erring" "[I" ∈ z_ws := z_in 116 (by decide +kernel) (by decide)
theorem wf_X4_114 : Cond.fieldLink RX4 114 "HayFootStraw$Standing" "words" "I" ∈ z_ws := z_in 145 (by decide +kernel) (by decide)
theorem wf_X4_142 : Cond.fieldLink RX4 142 "HayFootStraw$Standing" "shouted" "I" ∈ z_ws := z_in 153 (by decide +kernel) (by decide)
theorem wf_X4_148 : Cond.fieldLink RX4 148 "HayFootStraw$Standing" "shut" "I" ∈ z_ws := z_in 143 (by decide +kernel) (by decide)
theorem wf_X4_155 : Cond.fieldLink RX4 155 "HayFootStraw$Pile" "size" "I" ∈ z_ws := z_in 185 (by decide +kernel) (by decide)
theorem wf_X4_158 : Cond.fieldLink RX4 158 "HayFootStraw$Standing" "erred" "I" ∈ z_ws := z_in 151 (by decide +kernel) (by decide)
theorem wf_X4_186 : Cond.fieldLink RX4 186 "HayFootStraw" "TURNS" "[I" ∈ z_ws := z_in 385 (by decide +kernel) (by decide)
theorem wf_X4_204 : Cond.fieldLink RX4 204 "HayFootStraw" "ROWS" "[I" ∈ z_ws := z_in 484 (by decide +kernel) (by decide)
theorem wf_X4_238 : Cond.fieldLink RX4 238 "HayFootStraw$Squad" "seed" "I" ∈ z_ws := z_in 105 (by decide +kernel) (by decide)
theorem wf_X4_250 : Cond.fieldLink RX4 250 "HayFootStraw$Standing" "turnAhead" "I" ∈ z_ws := z_in 147 (by decide +kernel) (by decide)
theorem wf_X4_256 : Cond.fieldLink RX4 256 "HayFootStraw$Standing" "told" "I" ∈ z_ws := z_in 149 (by decide +kernel) (by decide)
theorem wf_X4_259 : Cond.fieldLink RX4 259 "HayFootStraw$Squad" "facing" "[I" ∈ z_ws := z_in 112 (by decide +kernel) (by decide)
theorem wf_X5_7 : Cond.fieldLink RX5 7 "HayFootStrawModel" "text" "[I" ∈ z_ws := z_in 594 (by decide +kernel) (by decide)
theorem wf_X5_13 : Cond.fieldLink RX5 13 "HayFootStrawModel" "told" "[I" ∈ z_ws := z_in 596 (by decide +kernel) (by decide)
theorem wf_X5_16 : Cond.fieldLink RX5 16 "HayFootStrawModel" "draft" "[I" ∈ z_ws := z_in 597 (by decide +kernel) (by decide)
theorem wf_X5_19 : Cond.fieldLink RX5 19 "HayFootStrawModel" "s" "[I" ∈ z_ws := z_in 598 (by decide +kernel) (by decide)
theorem wf_X5_22 : Cond.fieldLink RX5 22 "HayFootStrawModel" "past" "[I" ∈ z_ws := z_in 599 (by decide +kernel) (by decide)
theorem wf_X5_25 : Cond.fieldLink RX5 25 "HayFootStrawModel" "images" "[I" ∈ z_ws := z_in 601 (by decide +kernel) (by decide)
theorem wf_X5_28 : Cond.fieldLink RX5 28 "HayFootStrawModel" "taken" "I" ∈ z_ws := z_in 604 (by decide +kernel) (by decide)
theorem wf_X5_32 : Cond.fieldLink RX5 32 "HayFootStrawModel" "held" "[I" ∈ z_ws := z_in 606 (by decide +kernel) (by decide)
theorem wf_X5_49 : Cond.fieldLink RX5 49 "HayFootStrawModel" "typed" "I" ∈ z_ws := z_in 595 (by decide +kernel) (by decide)
theorem wf_X5_52 : Cond.fieldLink RX5 52 "HayFootStrawModel" "at" "I" ∈ z_ws := z_in 603 (by decide +kernel) (by decide)
theorem wf_X5_81 : Cond.fieldLink RX5 81 "HayFootStrawModel" "known" "I" ∈ z_ws := z_in 600 (by decide +kernel) (by decide)
theorem wf_X5_84 : Cond.fieldLink RX5 84 "HayFootStrawModel" "kept" "I" ∈ z_ws := z_in 602 (by decide +kernel) (by decide)
theorem wf_X5_96 : Cond.fieldLink RX5 96 "HayFootStrawModel" "takenAt" "I" ∈ z_ws := z_in 605 (by decide +kernel) (by decide)
theorem wf_X5_159 : Cond.fieldLink RX5 159 "HayFootStrawModel" "firstRow" "I" ∈ z_ws := z_in 607 (by decide +kernel) (by decide)
theorem wm_X0_1 : Cond.methodLink RX0 1 Lib.objectInit ∈ z_ws := z_in 176 (by decide +kernel) (by decide)
theorem wm_X0_7 : Cond.methodLink RX0 7 Lib.Math.max.name ∈ z_ws := z_in 177 (by decide +kernel) (by decide)
theorem wm_X0_26 : Cond.methodLink RX0 26 yX0_loseOldest ∈ z_ws := z_in 365 (by decide +kernel) (by decide)
theorem wm_X0_29 : Cond.methodLink RX0 29 yX3_copy ∈ z_ws := z_in 369 (by decide +kernel) (by decide)
theorem wm_X1_3 : Cond.methodLink RX1 3 Lib.objectInit ∈ z_ws := z_in 82 (by decide +kernel) (by decide)
theorem wm_X1_23 : Cond.methodLink RX1 23 yX2_clear ∈ z_ws := z_in 252 (by decide +kernel) (by decide)
theorem wm_X1_28 : Cond.methodLink RX1 28 yX1_readItem ∈ z_ws := z_in 256 (by decide +kernel) (by decide)
theorem wm_X1_32 : Cond.methodLink RX1 32 yX1_numbersBehind ∈ z_ws := z_in 260 (by decide +kernel) (by decide)
theorem wm_X1_36 : Cond.methodLink RX1 36 yX1_readNumber ∈ z_ws := z_in 263 (by decide +kernel) (by decide)
theorem wm_X1_40 : Cond.methodLink RX1 40 yX2_take ∈ z_ws := z_in 271 (by decide +kernel) (by decide)
theorem wm_X1_44 : Cond.methodLink RX1 44 yX1_isFigure ∈ z_ws := z_in 267 (by decide +kernel) (by decide)
theorem wm_X2_3 : Cond.methodLink RX2 3 Lib.objectInit ∈ z_ws := z_in 101 (by decide +kernel) (by decide)
theorem wm_X2_34 : Cond.methodLink RX2 34 yX2_takeMan ∈ z_ws := z_in 275 (by decide +kernel) (by decide)
theorem wm_X3_3 : Cond.methodLink RX3 3 Lib.objectInit ∈ z_ws := z_in 137 (by decide +kernel) (by decide)
theorem wm_X3_21 : Cond.methodLink RX3 21 arraycopyName ∈ z_ws := z_in 287 (by decide +kernel) (by decide)
theorem wm_X4_1 : Cond.methodLink RX4 1 Lib.objectInit ∈ z_ws := z_in 74 (by decide +kernel) (by decide)
theorem wm_X4_38 : Cond.methodLink RX4 38 yX0_init ∈ z_ws := z_in 173 (by decide +kernel) (by decide)
theorem wm_X4_60 : Cond.methodLink RX4 60 yJ0_length_8abf5 ∈ z_ws := z_in 192 (by decide +kernel) (by decide)
theorem wm_X4_66 : Cond.methodLink RX4 66 yJ0_charAt_5068e ∈ z_ws := z_in 202 (by decide +kernel) (by decide)
theorem wm_X4_70 : Cond.methodLink RX4 70 yX1_add ∈ z_ws := z_in 240 (by decide +kernel) (by decide)
theorem wm_X4_74 : Cond.methodLink RX4 74 yX4_layScript ∈ z_ws := z_in 244 (by decide +kernel) (by decide)
theorem wm_X4_78 : Cond.methodLink RX4 78 yX1_clear ∈ z_ws := z_in 290 (by decide +kernel) (by decide)
theorem wm_X4_84 : Cond.methodLink RX4 84 yX1_readInto ∈ z_ws := z_in 248 (by decide +kernel) (by decide)
theorem wm_X4_91 : Cond.methodLink RX4 91 yX4_isMan ∈ z_ws := z_in 346 (by decide +kernel) (by decide)
theorem wm_X4_107 : Cond.methodLink RX4 107 yX4_dueFacing ∈ z_ws := z_in 350 (by decide +kernel) (by decide)
theorem wm_X4_111 : Cond.methodLink RX4 111 yX4_isWord ∈ z_ws := z_in 358 (by decide +kernel) (by decide)
theorem wm_X4_117 : Cond.methodLink RX4 117 yX0_put ∈ z_ws := z_in 361 (by decide +kernel) (by decide)
theorem wm_X4_121 : Cond.methodLink RX4 121 yX4_findLeaders ∈ z_ws := z_in 373 (by decide +kernel) (by decide)
theorem wm_X4_124 : Cond.methodLink RX4 124 yX4_say ∈ z_ws := z_in 381 (by decide +kernel) (by decide)
theorem wm_X4_128 : Cond.methodLink RX4 128 yX4_wrongMen ∈ z_ws := z_in 410 (by decide +kernel) (by decide)
theorem wm_X4_132 : Cond.methodLink RX4 132 yJ6_bitCount_0f7a4 ∈ z_ws := z_in 414 (by decide +kernel) (by decide)
theorem wm_X4_138 : Cond.methodLink RX4 138 yX4_heeds ∈ z_ws := z_in 424 (by decide +kernel) (by decide)
theorem wm_X4_145 : Cond.methodLink RX4 145 yX4_isEither ∈ z_ws := z_in 432 (by decide +kernel) (by decide)
theorem wm_X4_151 : Cond.methodLink RX4 151 yX0_takeTop ∈ z_ws := z_in 443 (by decide +kernel) (by decide)
theorem wm_X4_161 : Cond.methodLink RX4 161 yX4_chainEnd ∈ z_ws := z_in 377 (by decide +kernel) (by decide)
theorem wm_X4_165 : Cond.methodLink RX4 165 yX4_menFacing ∈ z_ws := z_in 463 (by decide +kernel) (by decide)
theorem wm_X4_168 : Cond.methodLink RX4 168 Lib.Math.max.name ∈ z_ws := z_in 471 (by decide +kernel) (by decide)
theorem wm_X4_173 : Cond.methodLink RX4 173 yX4_findManners ∈ z_ws := z_in 476 (by decide +kernel) (by decide)
theorem wm_X4_176 : Cond.methodLink RX4 176 yX4_firstRowAlike ∈ z_ws := z_in 480 (by decide +kernel) (by decide)
theorem wm_X4_179 : Cond.methodLink RX4 179 yX4_wordOfRow ∈ z_ws := z_in 494 (by decide +kernel) (by decide)
theorem wm_X4_183 : Cond.methodLink RX4 183 yX4_facingForeseen ∈ z_ws := z_in 501 (by decide +kernel) (by decide)
theorem wm_X4_189 : Cond.methodLink RX4 189 yX4_waysAllFace ∈ z_ws := z_in 513 (by decide +kernel) (by decide)
theorem wm_X4_192 : Cond.methodLink RX4 192 yX4_waysToTurn ∈ z_ws := z_in 529 (by decide +kernel) (by decide)
theorem wm_X4_195 : Cond.methodLink RX4 195 yX4_partInLowestTerms ∈ z_ws := z_in 533 (by decide +kernel) (by decide)
theorem wm_X4_198 : Cond.methodLink RX4 198 yX4_facingBy ∈ z_ws := z_in 505 (by decide +kernel) (by decide)
theorem wm_X4_201 : Cond.methodLink RX4 201 yX4_waysOfManner ∈ z_ws := z_in 525 (by decide +kernel) (by decide)
theorem wm_X4_207 : Cond.methodLink RX4 207 yX4_isRowAlike ∈ z_ws := z_in 486 (by decide +kernel) (by decide)
theorem wm_X4_210 : Cond.methodLink RX4 210 yX3_copy ∈ z_ws := z_in 559 (by decide +kernel) (by decide)
theorem wm_X4_217 : Cond.methodLink RX4 217 yX4_drawOf ∈ z_ws := z_in 394 (by decide +kernel) (by decide)
theorem wm_X4_221 : Cond.methodLink RX4 221 yX4_isAlike ∈ z_ws := z_in 560 (by decide +kernel) (by decide)
theorem wm_X4_224 : Cond.methodLink RX4 224 yX2_canBeLaid ∈ z_ws := z_in 279 (by decide +kernel) (by decide)
theorem wm_X4_227 : Cond.methodLink RX4 227 yX3_begin ∈ z_ws := z_in 283 (by decide +kernel) (by decide)
theorem wm_X4_235 : Cond.methodLink RX4 235 yX4_isChancy ∈ z_ws := z_in 403 (by decide +kernel) (by decide)
theorem wm_X4_243 : Cond.methodLink RX4 243 yX4_errsByDraw ∈ z_ws := z_in 387 (by decide +kernel) (by decide)
theorem wm_X4_246 : Cond.methodLink RX4 246 yX4_mannerOf ∈ z_ws := z_in 399 (by decide +kernel) (by decide)
theorem wm_X4_253 : Cond.methodLink RX4 253 yX4_turnBy ∈ z_ws := z_in 407 (by decide +kernel) (by decide)
theorem wm_X4_260 : Cond.methodLink RX4 260 yX4_addUpRow ∈ z_ws := z_in 490 (by decide +kernel) (by decide)
theorem wm_X4_264 : Cond.methodLink RX4 264 yX4_waysLedFace ∈ z_ws := z_in 517 (by decide +kernel) (by decide)
theorem wm_X4_267 : Cond.methodLink RX4 267 yX4_wouldLedFace ∈ z_ws := z_in 521 (by decide +kernel) (by decide)
theorem wm_X4_271 : Cond.methodLink RX4 271 yX4_commonDivisor ∈ z_ws := z_in 536 (by decide +kernel) (by decide)
theorem wm_X5_1 : Cond.methodLink RX5 1 Lib.objectInit ∈ z_ws := z_in 581 (by decide +kernel) (by decide)
theorem wm_X5_35 : Cond.methodLink RX5 35 yX5_begins ∈ z_ws := z_in 582 (by decide +kernel) (by decide)
theorem wm_X5_38 : Cond.methodLink RX5 38 yX5_adds ∈ z_ws := z_in 586 (by decide +kernel) (by decide)
theorem wm_X5_42 : Cond.methodLink RX5 42 yX5_lays ∈ z_ws := z_in 590 (by decide +kernel) (by decide)
theorem wm_X5_45 : Cond.methodLink RX5 45 yX5_in ∈ z_ws := z_in 641 (by decide +kernel) (by decide)
theorem wm_X5_55 : Cond.methodLink RX5 55 yX5_letterAt ∈ z_ws := z_in 664 (by decide +kernel) (by decide)
theorem wm_X5_59 : Cond.methodLink RX5 59 yX5_isFigure ∈ z_ws := z_in 668 (by decide +kernel) (by decide)
theorem wm_X5_63 : Cond.methodLink RX5 63 yX5_number ∈ z_ws := z_in 660 (by decide +kernel) (by decide)
theorem wm_X5_67 : Cond.methodLink RX5 67 yX5_sign ∈ z_ws := z_in 671 (by decide +kernel) (by decide)
theorem wm_X5_70 : Cond.methodLink RX5 70 yX5_readsMan ∈ z_ws := z_in 656 (by decide +kernel) (by decide)
theorem wm_X5_74 : Cond.methodLink RX5 74 yX5_readsOne ∈ z_ws := z_in 675 (by decide +kernel) (by decide)
theorem wm_X5_78 : Cond.methodLink RX5 78 yX5_reads ∈ z_ws := z_in 652 (by decide +kernel) (by decide)
theorem wm_X5_87 : Cond.methodLink RX5 87 yX5_isMan ∈ z_ws := z_in 687 (by decide +kernel) (by decide)
theorem wm_X5_90 : Cond.methodLink RX5 90 yX5_dueOf ∈ z_ws := z_in 691 (by decide +kernel) (by decide)
theorem wm_X5_93 : Cond.methodLink RX5 93 yX5_isLooking ∈ z_ws := z_in 733 (by decide +kernel) (by decide)
theorem wm_X5_99 : Cond.methodLink RX5 99 yX5_leader ∈ z_ws := z_in 729 (by decide +kernel) (by decide)
theorem wm_X5_110 : Cond.methodLink RX5 110 yX5_drawOf ∈ z_ws := z_in 713 (by decide +kernel) (by decide)
theorem wm_X5_114 : Cond.methodLink RX5 114 yX5_turnsAs ∈ z_ws := z_in 725 (by decide +kernel) (by decide)
theorem wm_X5_117 : Cond.methodLink RX5 117 yX5_turnOf ∈ z_ws := z_in 737 (by decide +kernel) (by decide)
theorem wm_X5_120 : Cond.methodLink RX5 120 yX5_mayErr ∈ z_ws := z_in 740 (by decide +kernel) (by decide)
theorem wm_X5_123 : Cond.methodLink RX5 123 yX5_wrongly ∈ z_ws := z_in 744 (by decide +kernel) (by decide)
theorem wm_X5_126 : Cond.methodLink RX5 126 yX5_turnBy ∈ z_ws := z_in 721 (by decide +kernel) (by decide)
theorem wm_X5_130 : Cond.methodLink RX5 130 yX5_isWord ∈ z_ws := z_in 699 (by decide +kernel) (by decide)
theorem wm_X5_133 : Cond.methodLink RX5 133 yX5_keeps ∈ z_ws := z_in 702 (by decide +kernel) (by decide)
theorem wm_X5_136 : Cond.methodLink RX5 136 yX5_errors ∈ z_ws := z_in 706 (by decide +kernel) (by decide)
theorem wm_X5_140 : Cond.methodLink RX5 140 yX5_says ∈ z_ws := z_in 717 (by decide +kernel) (by decide)
theorem wm_X5_144 : Cond.methodLink RX5 144 yX5_wrong ∈ z_ws := z_in 747 (by decide +kernel) (by decide)
theorem wm_X5_147 : Cond.methodLink RX5 147 yX5_ones ∈ z_ws := z_in 751 (by decide +kernel) (by decide)
theorem wm_X5_150 : Cond.methodLink RX5 150 yX5_comesBy ∈ z_ws := z_in 758 (by decide +kernel) (by decide)
theorem wm_X5_153 : Cond.methodLink RX5 153 yX5_holds ∈ z_ws := z_in 802 (by decide +kernel) (by decide)
theorem wm_X5_156 : Cond.methodLink RX5 156 yX5_isOneWay ∈ z_ws := z_in 806 (by decide +kernel) (by decide)
theorem wm_X5_162 : Cond.methodLink RX5 162 yX5_lets ∈ z_ws := z_in 810 (by decide +kernel) (by decide)
theorem wm_X5_165 : Cond.methodLink RX5 165 yX5_rows ∈ z_ws := z_in 798 (by decide +kernel) (by decide)
theorem wm_X5_168 : Cond.methodLink RX5 168 yX5_doubtful ∈ z_ws := z_in 822 (by decide +kernel) (by decide)
theorem wm_X5_171 : Cond.methodLink RX5 171 yX5_common ∈ z_ws := z_in 826 (by decide +kernel) (by decide)
theorem wm_X5_175 : Cond.methodLink RX5 175 yX5_turn ∈ z_ws := z_in 837 (by decide +kernel) (by decide)
theorem wm_X0_21 : (RX0, 21, yX3_init) ∈ z_nest := List.mem_of_getElem? (i := 0) rfl
theorem wm_X4_9 : (RX4, 9, yX1_init) ∈ z_nest := List.mem_of_getElem? (i := 1) rfl
theorem wm_X4_18 : (RX4, 18, yX2_init) ∈ z_nest := List.mem_of_getElem? (i := 2) rfl
theorem wm_X4_28 : (RX4, 28, yX3_init) ∈ z_nest := List.mem_of_getElem? (i := 3) rfl
theorem wc_X0_13 : Cond.classLink RX0 13 RX3 ∈ z_ws := z_in 180 (by decide +kernel) (by decide)
theorem wc_X4_7 : Cond.classLink RX4 7 RX1 ∈ z_ws := z_in 77 (by decide +kernel) (by decide)
theorem wc_X4_16 : Cond.classLink RX4 16 RX2 ∈ z_ws := z_in 96 (by decide +kernel) (by decide)
theorem wc_X4_26 : Cond.classLink RX4 26 RX3 ∈ z_ws := z_in 132 (by decide +kernel) (by decide)
theorem wc_X4_36 : Cond.classLink RX4 36 RX0 ∈ z_ws := z_in 171 (by decide +kernel) (by decide)
theorem wk_J6_265 : Cond.constant RJ6 265 (1431655765) ∈ z_ws := z_in 417 (by decide +kernel) (by decide)
theorem wk_J6_266 : Cond.constant RJ6 266 (858993459) ∈ z_ws := z_in 418 (by decide +kernel) (by decide)
theorem wk_J6_267 : Cond.constant RJ6 267 (252645135) ∈ z_ws := z_in 419 (by decide +kernel) (by decide)
theorem wk_X4_213 : Cond.constantLong RX4 213 (7919) ∈ z_ws := z_in 391 (by decide +kernel) (by decide)
theorem wk_X4_215 : Cond.constantLong RX4 215 (6151) ∈ z_ws := z_in 392 (by decide +kernel) (by decide)
theorem wk_X4_231 : Cond.constantLong RX4 231 (65521) ∈ z_ws := z_in 397 (by decide +kernel) (by decide)
theorem wk_X4_233 : Cond.constantLong RX4 233 (8) ∈ z_ws := z_in 398 (by decide +kernel) (by decide)
theorem wk_X4_241 : Cond.constantLong RX4 241 (3571) ∈ z_ws := z_in 393 (by decide +kernel) (by decide)
theorem wk_X5_102 : Cond.constantLong RX5 102 (65521) ∈ z_ws := z_in 716 (by decide +kernel) (by decide)
theorem wk_X5_104 : Cond.constantLong RX5 104 (7919) ∈ z_ws := z_in 710 (by decide +kernel) (by decide)
theorem wk_X5_106 : Cond.constantLong RX5 106 (6151) ∈ z_ws := z_in 711 (by decide +kernel) (by decide)
theorem wk_X5_108 : Cond.constantLong RX5 108 (3571) ∈ z_ws := z_in 712 (by decide +kernel) (by decide)
theorem wi_X0 : Cond.instantiable RX0 2 ∈ z_ws := z_in 172 (by decide +kernel) (by decide)
theorem wn_X0 : Cond.initialized RX0 ∈ z_ws := z_in 60 (by decide +kernel) (by decide)
theorem wi_X1 : Cond.instantiable RX1 3 ∈ z_ws := z_in 78 (by decide +kernel) (by decide)
theorem wn_X1 : Cond.initialized RX1 ∈ z_ws := z_in 57 (by decide +kernel) (by decide)
theorem wi_X2 : Cond.instantiable RX2 7 ∈ z_ws := z_in 97 (by decide +kernel) (by decide)
theorem wn_X2 : Cond.initialized RX2 ∈ z_ws := z_in 58 (by decide +kernel) (by decide)
theorem wi_X3 : Cond.instantiable RX3 8 ∈ z_ws := z_in 133 (by decide +kernel) (by decide)
theorem wn_X3 : Cond.initialized RX3 ∈ z_ws := z_in 59 (by decide +kernel) (by decide)
theorem wi_X4 : Cond.instantiable RX4 10 ∈ z_ws := z_in 70 (by decide +kernel) (by decide)
theorem wn_X4 : Cond.initialized RX4 ∈ z_ws := z_in 56 (by decide +kernel) (by decide)
theorem wi_X5 : Cond.instantiable RX5 14 ∈ z_ws := z_in 577 (by decide +kernel) (by decide)
theorem wn_X5 : Cond.initialized RX5 ∈ z_ws := z_in 67 (by decide +kernel) (by decide)
theorem mw_J6_bitCount_0f7a4 : z_Mw yJ6_bitCount_0f7a4 cJ6_bitCount_0f7a4 1 (some .int) 1 := ⟨z_in 416 (by decide +kernel) (by decide), z_in 68 (by decide +kernel) (by decide), by decide +kernel⟩
theorem iw_J6_bitCount_0f7a4 : Cond.static yJ6_bitCount_0f7a4 ∈ z_ws := z_in 415 (by decide +kernel) (by decide)
theorem mw_X3_init : z_Mw yX3_init cX3_init 1 none 0 := ⟨z_in 136 (by decide +kernel) (by decide), z_in 59 (by decide +kernel) (by decide), by decide +kernel⟩
theorem iw_X3_init : Cond.instanceMethod yX3_init ∈ z_ws := z_in 135 (by decide +kernel) (by decide)
theorem mw_X0_init : z_Mw yX0_init cX0_init 3 none 1 := ⟨z_in 175 (by decide +kernel) (by decide), z_in 60 (by decide +kernel) (by decide), by decide +kernel⟩
theorem iw_X0_init : Cond.instanceMethod yX0_init ∈ z_ws := z_in 174 (by decide +kernel) (by decide)
theorem mw_X0_loseOldest : z_Mw yX0_loseOldest cX0_loseOldest 3 none 0 := ⟨z_in 368 (by decide +kernel) (by decide), z_in 60 (by decide +kernel) (by decide), by decide +kernel⟩
theorem iw_X0_loseOldest : Cond.instanceMethod yX0_loseOldest ∈ z_ws ∧ Cond.selects RX0 yX0_loseOldest yX0_loseOldest ∈ z_ws := ⟨z_in 367 (by decide +kernel) (by decide), z_in 7 (by decide +kernel) (by decide)⟩
theorem mw_X3_copy : z_Mw yX3_copy cX3_copy 2 none 1 := ⟨z_in 372 (by decide +kernel) (by decide), z_in 59 (by decide +kernel) (by decide), by decide +kernel⟩
theorem iw_X3_copy : Cond.instanceMethod yX3_copy ∈ z_ws ∧ Cond.selects RX3 yX3_copy yX3_copy ∈ z_ws := ⟨z_in 370 (by decide +kernel) (by decide), z_in 371 (by decide +kernel) (by decide)⟩
theorem mw_X0_put : z_Mw yX0_put cX0_put 2 none 1 := ⟨z_in 364 (by decide +kernel) (by decide), z_in 60 (by decide +kernel) (by decide), by decide +kernel⟩
theorem iw_X0_put : Cond.instanceMethod yX0_put ∈ z_ws ∧ Cond.selects RX0 yX0_put yX0_put ∈ z_ws := ⟨z_in 362 (by decide +kernel) (by decide), z_in 363 (by decide +kernel) (by decide)⟩
theorem mw_X0_takeTop : z_Mw yX0_takeTop cX0_takeTop 2 (some .boolean) 1 := ⟨z_in 446 (by decide +kernel) (by decide), z_in 60 (by decide +kernel) (by decide), by decide +kernel⟩
theorem iw_X0_takeTop : Cond.instanceMethod yX0_takeTop ∈ z_ws ∧ Cond.selects RX0 yX0_takeTop yX0_takeTop ∈ z_ws := ⟨z_in 444 (by decide +kernel) (by decide), z_in 445 (by decide +kernel) (by decide)⟩
theorem mw_X1_add : z_Mw yX1_add cX1_add 2 (some .boolean) 1 := ⟨z_in 243 (by decide +kernel) (by decide), z_in 57 (by decide +kernel) (by decide), by decide +kernel⟩
theorem iw_X1_add : Cond.instanceMethod yX1_add ∈ z_ws ∧ Cond.selects RX1 yX1_add yX1_add ∈ z_ws := ⟨z_in 241 (by decide +kernel) (by decide), z_in 242 (by decide +kernel) (by decide)⟩
theorem mw_X1_clear : z_Mw yX1_clear cX1_clear 1 none 0 := ⟨z_in 293 (by decide +kernel) (by decide), z_in 57 (by decide +kernel) (by decide), by decide +kernel⟩
theorem iw_X1_clear : Cond.instanceMethod yX1_clear ∈ z_ws ∧ Cond.selects RX1 yX1_clear yX1_clear ∈ z_ws := ⟨z_in 291 (by decide +kernel) (by decide), z_in 292 (by decide +kernel) (by decide)⟩
theorem mw_X1_init : z_Mw yX1_init cX1_init 1 none 0 := ⟨z_in 81 (by decide +kernel) (by decide), z_in 57 (by decide +kernel) (by decide), by decide +kernel⟩
theorem iw_X1_init : Cond.instanceMethod yX1_init ∈ z_ws := z_in 80 (by decide +kernel) (by decide)
theorem mw_X1_isFigure : z_Mw yX1_isFigure cX1_isFigure 2 (some .boolean) 1 := ⟨z_in 270 (by decide +kernel) (by decide), z_in 57 (by decide +kernel) (by decide), by decide +kernel⟩
theorem iw_X1_isFigure : Cond.instanceMethod yX1_isFigure ∈ z_ws ∧ Cond.selects RX1 yX1_isFigure yX1_isFigure ∈ z_ws := ⟨z_in 269 (by decide +kernel) (by decide), z_in 3 (by decide +kernel) (by decide)⟩
theorem mw_X1_numbersBehind : z_Mw yX1_numbersBehind cX1_numbersBehind 1 (some .int) 1 := ⟨z_in 262 (by decide +kernel) (by decide), z_in 57 (by decide +kernel) (by decide), by decide +kernel⟩
theorem iw_X1_numbersBehind : Cond.static yX1_numbersBehind ∈ z_ws := z_in 261 (by decide +kernel) (by decide)
theorem mw_X1_readNumber : z_Mw yX1_readNumber cX1_readNumber 5 (some .int) 2 := ⟨z_in 266 (by decide +kernel) (by decide), z_in 57 (by decide +kernel) (by decide), by decide +kernel⟩
theorem iw_X1_readNumber : Cond.instanceMethod yX1_readNumber ∈ z_ws ∧ Cond.selects RX1 yX1_readNumber yX1_readNumber ∈ z_ws := ⟨z_in 265 (by decide +kernel) (by decide), z_in 2 (by decide +kernel) (by decide)⟩
theorem mw_X2_takeMan : z_Mw yX2_takeMan cX2_takeMan 5 (some .boolean) 4 := ⟨z_in 278 (by decide +kernel) (by decide), z_in 58 (by decide +kernel) (by decide), by decide +kernel⟩
theorem iw_X2_takeMan : Cond.instanceMethod yX2_takeMan ∈ z_ws ∧ Cond.selects RX2 yX2_takeMan yX2_takeMan ∈ z_ws := ⟨z_in 277 (by decide +kernel) (by decide), z_in 4 (by decide +kernel) (by decide)⟩
theorem mw_X2_take : z_Mw yX2_take cX2_take 3 (some .boolean) 2 := ⟨z_in 274 (by decide +kernel) (by decide), z_in 58 (by decide +kernel) (by decide), by decide +kernel⟩
theorem iw_X2_take : Cond.instanceMethod yX2_take ∈ z_ws ∧ Cond.selects RX2 yX2_take yX2_take ∈ z_ws := ⟨z_in 272 (by decide +kernel) (by decide), z_in 273 (by decide +kernel) (by decide)⟩
theorem mw_X1_readItem : z_Mw yX1_readItem cX1_readItem 9 (some .int) 2 := ⟨z_in 259 (by decide +kernel) (by decide), z_in 57 (by decide +kernel) (by decide), by decide +kernel⟩
theorem iw_X1_readItem : Cond.instanceMethod yX1_readItem ∈ z_ws ∧ Cond.selects RX1 yX1_readItem yX1_readItem ∈ z_ws := ⟨z_in 258 (by decide +kernel) (by decide), z_in 1 (by decide +kernel) (by decide)⟩
theorem mw_X2_clear : z_Mw yX2_clear cX2_clear 1 none 0 := ⟨z_in 255 (by decide +kernel) (by decide), z_in 58 (by decide +kernel) (by decide), by decide +kernel⟩
theorem iw_X2_clear : Cond.instanceMethod yX2_clear ∈ z_ws ∧ Cond.selects RX2 yX2_clear yX2_clear ∈ z_ws := ⟨z_in 253 (by decide +kernel) (by decide), z_in 254 (by decide +kernel) (by decide)⟩
theorem mw_X1_readInto : z_Mw yX1_readInto cX1_readInto 5 (some .int) 1 := ⟨z_in 251 (by decide +kernel) (by decide), z_in 57 (by decide +kernel) (by decide), by decide +kernel⟩
theorem iw_X1_readInto : Cond.instanceMethod yX1_readInto ∈ z_ws ∧ Cond.selects RX1 yX1_readInto yX1_readInto ∈ z_ws := ⟨z_in 249 (by decide +kernel) (by decide), z_in 250 (by decide +kernel) (by decide)⟩
theorem mw_X2_canBeLaid : z_Mw yX2_canBeLaid cX2_canBeLaid 2 (some .boolean) 0 := ⟨z_in 282 (by decide +kernel) (by decide), z_in 58 (by decide +kernel) (by decide), by decide +kernel⟩
theorem iw_X2_canBeLaid : Cond.instanceMethod yX2_canBeLaid ∈ z_ws ∧ Cond.selects RX2 yX2_canBeLaid yX2_canBeLaid ∈ z_ws := ⟨z_in 280 (by decide +kernel) (by decide), z_in 281 (by decide +kernel) (by decide)⟩
theorem mw_X2_init : z_Mw yX2_init cX2_init 1 none 0 := ⟨z_in 100 (by decide +kernel) (by decide), z_in 58 (by decide +kernel) (by decide), by decide +kernel⟩
theorem iw_X2_init : Cond.instanceMethod yX2_init ∈ z_ws := z_in 99 (by decide +kernel) (by decide)
theorem mw_X3_begin : z_Mw yX3_begin cX3_begin 2 none 1 := ⟨z_in 286 (by decide +kernel) (by decide), z_in 59 (by decide +kernel) (by decide), by decide +kernel⟩
theorem iw_X3_begin : Cond.instanceMethod yX3_begin ∈ z_ws ∧ Cond.selects RX3 yX3_begin yX3_begin ∈ z_ws := ⟨z_in 284 (by decide +kernel) (by decide), z_in 285 (by decide +kernel) (by decide)⟩
theorem mw_X4_turnBy : z_Mw yX4_turnBy cX4_turnBy 3 (some .int) 3 := ⟨z_in 409 (by decide +kernel) (by decide), z_in 56 (by decide +kernel) (by decide), by decide +kernel⟩
theorem iw_X4_turnBy : Cond.static yX4_turnBy ∈ z_ws := z_in 408 (by decide +kernel) (by decide)
theorem mw_X4_addUpRow : z_Mw yX4_addUpRow cX4_addUpRow 10 none 2 := ⟨z_in 493 (by decide +kernel) (by decide), z_in 56 (by decide +kernel) (by decide), by decide +kernel⟩
theorem iw_X4_addUpRow : Cond.instanceMethod yX4_addUpRow ∈ z_ws ∧ Cond.selects RX4 yX4_addUpRow yX4_addUpRow ∈ z_ws := ⟨z_in 492 (by decide +kernel) (by decide), z_in 20 (by decide +kernel) (by decide)⟩
theorem mw_X4_chainEnd : z_Mw yX4_chainEnd cX4_chainEnd 5 (some .int) 2 := ⟨z_in 380 (by decide +kernel) (by decide), z_in 56 (by decide +kernel) (by decide), by decide +kernel⟩
theorem iw_X4_chainEnd : Cond.instanceMethod yX4_chainEnd ∈ z_ws ∧ Cond.selects RX4 yX4_chainEnd yX4_chainEnd ∈ z_ws := ⟨z_in 379 (by decide +kernel) (by decide), z_in 9 (by decide +kernel) (by decide)⟩
theorem mw_X4_findLeaders : z_Mw yX4_findLeaders cX4_findLeaders 3 none 0 := ⟨z_in 376 (by decide +kernel) (by decide), z_in 56 (by decide +kernel) (by decide), by decide +kernel⟩
theorem iw_X4_findLeaders : Cond.instanceMethod yX4_findLeaders ∈ z_ws ∧ Cond.selects RX4 yX4_findLeaders yX4_findLeaders ∈ z_ws := ⟨z_in 375 (by decide +kernel) (by decide), z_in 8 (by decide +kernel) (by decide)⟩
theorem mw_X4_isEither : z_Mw yX4_isEither cX4_isEither 1 (some .boolean) 1 := ⟨z_in 434 (by decide +kernel) (by decide), z_in 56 (by decide +kernel) (by decide), by decide +kernel⟩
theorem iw_X4_isEither : Cond.static yX4_isEither ∈ z_ws := z_in 433 (by decide +kernel) (by decide)
theorem mw_X4_isWord : z_Mw yX4_isWord cX4_isWord 1 (some .boolean) 1 := ⟨z_in 360 (by decide +kernel) (by decide), z_in 56 (by decide +kernel) (by decide), by decide +kernel⟩
theorem iw_X4_isWord : Cond.static yX4_isWord ∈ z_ws := z_in 359 (by decide +kernel) (by decide)
theorem mw_X4_commonDivisor : z_Mw yX4_commonDivisor cX4_commonDivisor 6 (some .int) 2 := ⟨z_in 538 (by decide +kernel) (by decide), z_in 56 (by decide +kernel) (by decide), by decide +kernel⟩
theorem iw_X4_commonDivisor : Cond.static yX4_commonDivisor ∈ z_ws := z_in 537 (by decide +kernel) (by decide)
theorem mw_X4_partInLowestTerms : z_Mw yX4_partInLowestTerms cX4_partInLowestTerms 5 (some .int) 3 := ⟨z_in 535 (by decide +kernel) (by decide), z_in 56 (by decide +kernel) (by decide), by decide +kernel⟩
theorem iw_X4_partInLowestTerms : Cond.static yX4_partInLowestTerms ∈ z_ws := z_in 534 (by decide +kernel) (by decide)
theorem mw_X4_isChancy : z_Mw yX4_isChancy cX4_isChancy 2 (some .boolean) 1 := ⟨z_in 406 (by decide +kernel) (by decide), z_in 56 (by decide +kernel) (by decide), by decide +kernel⟩
theorem iw_X4_isChancy : Cond.instanceMethod yX4_isChancy ∈ z_ws ∧ Cond.selects RX4 yX4_isChancy yX4_isChancy ∈ z_ws := ⟨z_in 405 (by decide +kernel) (by decide), z_in 13 (by decide +kernel) (by decide)⟩
theorem mw_X4_mannerOf : z_Mw yX4_mannerOf cX4_mannerOf 3 (some .int) 2 := ⟨z_in 402 (by decide +kernel) (by decide), z_in 56 (by decide +kernel) (by decide), by decide +kernel⟩
theorem iw_X4_mannerOf : Cond.instanceMethod yX4_mannerOf ∈ z_ws ∧ Cond.selects RX4 yX4_mannerOf yX4_mannerOf ∈ z_ws := ⟨z_in 401 (by decide +kernel) (by decide), z_in 12 (by decide +kernel) (by decide)⟩
theorem mw_X4_waysOfManner : z_Mw yX4_waysOfManner cX4_waysOfManner 3 (some .int) 2 := ⟨z_in 528 (by decide +kernel) (by decide), z_in 56 (by decide +kernel) (by decide), by decide +kernel⟩
theorem iw_X4_waysOfManner : Cond.instanceMethod yX4_waysOfManner ∈ z_ws ∧ Cond.selects RX4 yX4_waysOfManner yX4_waysOfManner ∈ z_ws := ⟨z_in 527 (by decide +kernel) (by decide), z_in 26 (by decide +kernel) (by decide)⟩
theorem mw_X4_facingBy : z_Mw yX4_facingBy cX4_facingBy 4 (some .int) 3 := ⟨z_in 508 (by decide +kernel) (by decide), z_in 56 (by decide +kernel) (by decide), by decide +kernel⟩
theorem iw_X4_facingBy : Cond.instanceMethod yX4_facingBy ∈ z_ws ∧ Cond.selects RX4 yX4_facingBy yX4_facingBy ∈ z_ws := ⟨z_in 507 (by decide +kernel) (by decide), z_in 22 (by decide +kernel) (by decide)⟩
theorem mw_X4_wouldLedFace : z_Mw yX4_wouldLedFace cX4_wouldLedFace 6 (some .boolean) 4 := ⟨z_in 524 (by decide +kernel) (by decide), z_in 56 (by decide +kernel) (by decide), by decide +kernel⟩
theorem iw_X4_wouldLedFace : Cond.instanceMethod yX4_wouldLedFace ∈ z_ws ∧ Cond.selects RX4 yX4_wouldLedFace yX4_wouldLedFace ∈ z_ws := ⟨z_in 523 (by decide +kernel) (by decide), z_in 25 (by decide +kernel) (by decide)⟩
theorem mw_X4_waysLedFace : z_Mw yX4_waysLedFace cX4_waysLedFace 6 (some .int) 3 := ⟨z_in 520 (by decide +kernel) (by decide), z_in 56 (by decide +kernel) (by decide), by decide +kernel⟩
theorem iw_X4_waysLedFace : Cond.instanceMethod yX4_waysLedFace ∈ z_ws ∧ Cond.selects RX4 yX4_waysLedFace yX4_waysLedFace ∈ z_ws := ⟨z_in 519 (by decide +kernel) (by decide), z_in 24 (by decide +kernel) (by decide)⟩
theorem mw_X4_waysAllFace : z_Mw yX4_waysAllFace cX4_waysAllFace 5 (some .int) 2 := ⟨z_in 516 (by decide +kernel) (by decide), z_in 56 (by decide +kernel) (by decide), by decide +kernel⟩
theorem iw_X4_waysAllFace : Cond.instanceMethod yX4_waysAllFace ∈ z_ws ∧ Cond.selects RX4 yX4_waysAllFace yX4_waysAllFace ∈ z_ws := ⟨z_in 515 (by decide +kernel) (by decide), z_in 23 (by decide +kernel) (by decide)⟩
theorem mw_X4_waysToTurn : z_Mw yX4_waysToTurn cX4_waysToTurn 2 (some .int) 1 := ⟨z_in 532 (by decide +kernel) (by decide), z_in 56 (by decide +kernel) (by decide), by decide +kernel⟩
theorem iw_X4_waysToTurn : Cond.instanceMethod yX4_waysToTurn ∈ z_ws ∧ Cond.selects RX4 yX4_waysToTurn yX4_waysToTurn ∈ z_ws := ⟨z_in 531 (by decide +kernel) (by decide), z_in 27 (by decide +kernel) (by decide)⟩
theorem mw_X4_alike : z_Mw yX4_alike cX4_alike 6 (some .int) 2 := ⟨z_in 512 (by decide +kernel) (by decide), z_in 56 (by decide +kernel) (by decide), by decide +kernel⟩
theorem iw_X4_alike : Cond.instanceMethod yX4_alike ∈ z_ws ∧ Cond.selects RX4 yX4_alike yX4_alike ∈ z_ws := ⟨z_in 510 (by decide +kernel) (by decide), z_in 511 (by decide +kernel) (by decide)⟩
theorem mw_X4_back : z_Mw yX4_back cX4_back 1 (some .int) 0 := ⟨z_in 571 (by decide +kernel) (by decide), z_in 56 (by decide +kernel) (by decide), by decide +kernel⟩
theorem iw_X4_back : Cond.instanceMethod yX4_back ∈ z_ws ∧ Cond.selects RX4 yX4_back yX4_back ∈ z_ws := ⟨z_in 569 (by decide +kernel) (by decide), z_in 570 (by decide +kernel) (by decide)⟩
theorem mw_X4_count : z_Mw yX4_count cX4_count 2 (some .int) 1 := ⟨z_in 575 (by decide +kernel) (by decide), z_in 56 (by decide +kernel) (by decide), by decide +kernel⟩
theorem iw_X4_count : Cond.instanceMethod yX4_count ∈ z_ws ∧ Cond.selects RX4 yX4_count yX4_count ∈ z_ws := ⟨z_in 573 (by decide +kernel) (by decide), z_in 574 (by decide +kernel) (by decide)⟩
theorem mw_X4_drawOf : z_Mw yX4_drawOf cX4_drawOf 2 (some .int) 1 := ⟨z_in 396 (by decide +kernel) (by decide), z_in 56 (by decide +kernel) (by decide), by decide +kernel⟩
theorem iw_X4_drawOf : Cond.static yX4_drawOf ∈ z_ws := z_in 395 (by decide +kernel) (by decide)
theorem mw_X4_isAlike : z_Mw yX4_isAlike cX4_isAlike 3 (some .boolean) 1 := ⟨z_in 563 (by decide +kernel) (by decide), z_in 56 (by decide +kernel) (by decide), by decide +kernel⟩
theorem iw_X4_isAlike : Cond.instanceMethod yX4_isAlike ∈ z_ws ∧ Cond.selects RX4 yX4_isAlike yX4_isAlike ∈ z_ws := ⟨z_in 562 (by decide +kernel) (by decide), z_in 28 (by decide +kernel) (by decide)⟩
theorem mw_X4_errsByDraw : z_Mw yX4_errsByDraw cX4_errsByDraw 5 (some .boolean) 2 := ⟨z_in 390 (by decide +kernel) (by decide), z_in 56 (by decide +kernel) (by decide), by decide +kernel⟩
theorem iw_X4_errsByDraw : Cond.instanceMethod yX4_errsByDraw ∈ z_ws ∧ Cond.selects RX4 yX4_errsByDraw yX4_errsByDraw ∈ z_ws := ⟨z_in 389 (by decide +kernel) (by decide), z_in 11 (by decide +kernel) (by decide)⟩
theorem mw_X4_say : z_Mw yX4_say cX4_say 7 none 2 := ⟨z_in 384 (by decide +kernel) (by decide), z_in 56 (by decide +kernel) (by decide), by decide +kernel⟩
theorem iw_X4_say : Cond.instanceMethod yX4_say ∈ z_ws ∧ Cond.selects RX4 yX4_say yX4_say ∈ z_ws := ⟨z_in 383 (by decide +kernel) (by decide), z_in 10 (by decide +kernel) (by decide)⟩
theorem mw_X4_dueFacing : z_Mw yX4_dueFacing cX4_dueFacing 3 (some .int) 2 := ⟨z_in 353 (by decide +kernel) (by decide), z_in 56 (by decide +kernel) (by decide), by decide +kernel⟩
theorem iw_X4_dueFacing : Cond.instanceMethod yX4_dueFacing ∈ z_ws ∧ Cond.selects RX4 yX4_dueFacing yX4_dueFacing ∈ z_ws := ⟨z_in 352 (by decide +kernel) (by decide), z_in 6 (by decide +kernel) (by decide)⟩
theorem mw_X4_wrongMen : z_Mw yX4_wrongMen cX4_wrongMen 4 (some .int) 1 := ⟨z_in 413 (by decide +kernel) (by decide), z_in 56 (by decide +kernel) (by decide), by decide +kernel⟩
theorem iw_X4_wrongMen : Cond.instanceMethod yX4_wrongMen ∈ z_ws ∧ Cond.selects RX4 yX4_wrongMen yX4_wrongMen ∈ z_ws := ⟨z_in 412 (by decide +kernel) (by decide), z_in 14 (by decide +kernel) (by decide)⟩
theorem mw_X4_drill : z_Mw yX4_drill cX4_drill 6 (some .int) 3 := ⟨z_in 558 (by decide +kernel) (by decide), z_in 56 (by decide +kernel) (by decide), by decide +kernel⟩
theorem iw_X4_drill : Cond.instanceMethod yX4_drill ∈ z_ws ∧ Cond.selects RX4 yX4_drill yX4_drill ∈ z_ws := ⟨z_in 556 (by decide +kernel) (by decide), z_in 557 (by decide +kernel) (by decide)⟩
theorem mw_X4_eyes : z_Mw yX4_eyes cX4_eyes 3 (some .int) 1 := ⟨z_in 431 (by decide +kernel) (by decide), z_in 56 (by decide +kernel) (by decide), by decide +kernel⟩
theorem iw_X4_eyes : Cond.instanceMethod yX4_eyes ∈ z_ws ∧ Cond.selects RX4 yX4_eyes yX4_eyes ∈ z_ws := ⟨z_in 429 (by decide +kernel) (by decide), z_in 430 (by decide +kernel) (by decide)⟩
theorem mw_X4_facingForeseen : z_Mw yX4_facingForeseen cX4_facingForeseen 3 (some .int) 2 := ⟨z_in 504 (by decide +kernel) (by decide), z_in 56 (by decide +kernel) (by decide), by decide +kernel⟩
theorem iw_X4_facingForeseen : Cond.instanceMethod yX4_facingForeseen ∈ z_ws ∧ Cond.selects RX4 yX4_facingForeseen yX4_facingForeseen ∈ z_ws := ⟨z_in 503 (by decide +kernel) (by decide), z_in 21 (by decide +kernel) (by decide)⟩
theorem mw_X4_fault : z_Mw yX4_fault cX4_fault 1 (some .int) 0 := ⟨z_in 337 (by decide +kernel) (by decide), z_in 56 (by decide +kernel) (by decide), by decide +kernel⟩
theorem iw_X4_fault : Cond.instanceMethod yX4_fault ∈ z_ws ∧ Cond.selects RX4 yX4_fault yX4_fault ∈ z_ws := ⟨z_in 335 (by decide +kernel) (by decide), z_in 336 (by decide +kernel) (by decide)⟩
theorem mw_X4_findManners : z_Mw yX4_findManners cX4_findManners 2 none 0 := ⟨z_in 479 (by decide +kernel) (by decide), z_in 56 (by decide +kernel) (by decide), by decide +kernel⟩
theorem iw_X4_findManners : Cond.instanceMethod yX4_findManners ∈ z_ws ∧ Cond.selects RX4 yX4_findManners yX4_findManners ∈ z_ws := ⟨z_in 478 (by decide +kernel) (by decide), z_in 17 (by decide +kernel) (by decide)⟩
theorem mw_X4_isRowAlike : z_Mw yX4_isRowAlike cX4_isRowAlike 5 (some .boolean) 2 := ⟨z_in 489 (by decide +kernel) (by decide), z_in 56 (by decide +kernel) (by decide), by decide +kernel⟩
theorem iw_X4_isRowAlike : Cond.instanceMethod yX4_isRowAlike ∈ z_ws ∧ Cond.selects RX4 yX4_isRowAlike yX4_isRowAlike ∈ z_ws := ⟨z_in 488 (by decide +kernel) (by decide), z_in 19 (by decide +kernel) (by decide)⟩
theorem mw_X4_firstRowAlike : z_Mw yX4_firstRowAlike cX4_firstRowAlike 3 (some .int) 1 := ⟨z_in 483 (by decide +kernel) (by decide), z_in 56 (by decide +kernel) (by decide), by decide +kernel⟩
theorem iw_X4_firstRowAlike : Cond.instanceMethod yX4_firstRowAlike ∈ z_ws ∧ Cond.selects RX4 yX4_firstRowAlike yX4_firstRowAlike ∈ z_ws := ⟨z_in 482 (by decide +kernel) (by decide), z_in 18 (by decide +kernel) (by decide)⟩
theorem mw_X4_isMan : z_Mw yX4_isMan cX4_isMan 2 (some .boolean) 1 := ⟨z_in 349 (by decide +kernel) (by decide), z_in 56 (by decide +kernel) (by decide), by decide +kernel⟩
theorem iw_X4_isMan : Cond.instanceMethod yX4_isMan ∈ z_ws ∧ Cond.selects RX4 yX4_isMan yX4_isMan ∈ z_ws := ⟨z_in 348 (by decide +kernel) (by decide), z_in 5 (by decide +kernel) (by decide)⟩
theorem mw_X4_follows : z_Mw yX4_follows cX4_follows 2 (some .int) 1 := ⟨z_in 454 (by decide +kernel) (by decide), z_in 56 (by decide +kernel) (by decide), by decide +kernel⟩
theorem iw_X4_follows : Cond.instanceMethod yX4_follows ∈ z_ws ∧ Cond.selects RX4 yX4_follows yX4_follows ∈ z_ws := ⟨z_in 452 (by decide +kernel) (by decide), z_in 453 (by decide +kernel) (by decide)⟩
theorem mw_X4_groups : z_Mw yX4_groups cX4_groups 6 (some .int) 1 := ⟨z_in 470 (by decide +kernel) (by decide), z_in 56 (by decide +kernel) (by decide), by decide +kernel⟩
theorem iw_X4_groups : Cond.instanceMethod yX4_groups ∈ z_ws ∧ Cond.selects RX4 yX4_groups yX4_groups ∈ z_ws := ⟨z_in 468 (by decide +kernel) (by decide), z_in 469 (by decide +kernel) (by decide)⟩
theorem mw_X4_heeds : z_Mw yX4_heeds cX4_heeds 3 (some .boolean) 2 := ⟨z_in 427 (by decide +kernel) (by decide), z_in 56 (by decide +kernel) (by decide), by decide +kernel⟩
theorem iw_X4_heeds : Cond.instanceMethod yX4_heeds ∈ z_ws ∧ Cond.selects RX4 yX4_heeds yX4_heeds ∈ z_ws := ⟨z_in 426 (by decide +kernel) (by decide), z_in 15 (by decide +kernel) (by decide)⟩
theorem mw_X4_layScript : z_Mw yX4_layScript cX4_layScript 2 (some .boolean) 0 := ⟨z_in 247 (by decide +kernel) (by decide), z_in 56 (by decide +kernel) (by decide), by decide +kernel⟩
theorem iw_X4_layScript : Cond.instanceMethod yX4_layScript ∈ z_ws ∧ Cond.selects RX4 yX4_layScript yX4_layScript ∈ z_ws := ⟨z_in 246 (by decide +kernel) (by decide), z_in 0 (by decide +kernel) (by decide)⟩
theorem mw_X4_init : z_Mw yX4_init cX4_init 2 none 0 := ⟨z_in 73 (by decide +kernel) (by decide), z_in 56 (by decide +kernel) (by decide), by decide +kernel⟩
theorem iw_X4_init : Cond.instanceMethod yX4_init ∈ z_ws := z_in 72 (by decide +kernel) (by decide)
theorem mw_X4_keep : z_Mw yX4_keep cX4_keep 1 (some .int) 0 := ⟨z_in 567 (by decide +kernel) (by decide), z_in 56 (by decide +kernel) (by decide), by decide +kernel⟩
theorem iw_X4_keep : Cond.instanceMethod yX4_keep ∈ z_ws ∧ Cond.selects RX4 yX4_keep yX4_keep ∈ z_ws := ⟨z_in 565 (by decide +kernel) (by decide), z_in 566 (by decide +kernel) (by decide)⟩
theorem mw_X4_lay : z_Mw yX4_lay cX4_lay 1 (some .int) 0 := ⟨z_in 341 (by decide +kernel) (by decide), z_in 56 (by decide +kernel) (by decide), by decide +kernel⟩
theorem iw_X4_lay : Cond.instanceMethod yX4_lay ∈ z_ws ∧ Cond.selects RX4 yX4_lay yX4_lay ∈ z_ws := ⟨z_in 339 (by decide +kernel) (by decide), z_in 340 (by decide +kernel) (by decide)⟩
theorem mw_X4_look : z_Mw yX4_look cX4_look 4 (some .int) 2 := ⟨z_in 438 (by decide +kernel) (by decide), z_in 56 (by decide +kernel) (by decide), by decide +kernel⟩
theorem iw_X4_look : Cond.instanceMethod yX4_look ∈ z_ws ∧ Cond.selects RX4 yX4_look yX4_look ∈ z_ws := ⟨z_in 436 (by decide +kernel) (by decide), z_in 437 (by decide +kernel) (by decide)⟩
theorem mw_X4_man : z_Mw yX4_man cX4_man 3 (some .int) 2 := ⟨z_in 345 (by decide +kernel) (by decide), z_in 56 (by decide +kernel) (by decide), by decide +kernel⟩
theorem iw_X4_man : Cond.instanceMethod yX4_man ∈ z_ws ∧ Cond.selects RX4 yX4_man yX4_man ∈ z_ws := ⟨z_in 343 (by decide +kernel) (by decide), z_in 344 (by decide +kernel) (by decide)⟩
theorem mw_X4_menFacing : z_Mw yX4_menFacing cX4_menFacing 4 (some .int) 1 := ⟨z_in 466 (by decide +kernel) (by decide), z_in 56 (by decide +kernel) (by decide), by decide +kernel⟩
theorem iw_X4_menFacing : Cond.instanceMethod yX4_menFacing ∈ z_ws ∧ Cond.selects RX4 yX4_menFacing yX4_menFacing ∈ z_ws := ⟨z_in 465 (by decide +kernel) (by decide), z_in 16 (by decide +kernel) (by decide)⟩
theorem mw_X4_most : z_Mw yX4_most cX4_most 4 (some .int) 1 := ⟨z_in 462 (by decide +kernel) (by decide), z_in 56 (by decide +kernel) (by decide), by decide +kernel⟩
theorem iw_X4_most : Cond.instanceMethod yX4_most ∈ z_ws ∧ Cond.selects RX4 yX4_most yX4_most ∈ z_ws := ⟨z_in 460 (by decide +kernel) (by decide), z_in 461 (by decide +kernel) (by decide)⟩
theorem mw_X4_numbers : z_Mw yX4_numbers cX4_numbers 4 (some .int) 1 := ⟨z_in 554 (by decide +kernel) (by decide), z_in 56 (by decide +kernel) (by decide), by decide +kernel⟩
theorem iw_X4_numbers : Cond.instanceMethod yX4_numbers ∈ z_ws ∧ Cond.selects RX4 yX4_numbers yX4_numbers ∈ z_ws := ⟨z_in 552 (by decide +kernel) (by decide), z_in 553 (by decide +kernel) (by decide)⟩
theorem mw_X4_wordOfRow : z_Mw yX4_wordOfRow cX4_wordOfRow 5 (some .int) 3 := ⟨z_in 496 (by decide +kernel) (by decide), z_in 56 (by decide +kernel) (by decide), by decide +kernel⟩
theorem iw_X4_wordOfRow : Cond.static yX4_wordOfRow ∈ z_ws := z_in 495 (by decide +kernel) (by decide)
theorem mw_X4_plan : z_Mw yX4_plan cX4_plan 4 (some .int) 1 := ⟨z_in 475 (by decide +kernel) (by decide), z_in 56 (by decide +kernel) (by decide), by decide +kernel⟩
theorem iw_X4_plan : Cond.instanceMethod yX4_plan ∈ z_ws ∧ Cond.selects RX4 yX4_plan yX4_plan ∈ z_ws := ⟨z_in 473 (by decide +kernel) (by decide), z_in 474 (by decide +kernel) (by decide)⟩
theorem mw_X4_right : z_Mw yX4_right cX4_right 8 (some .int) 3 := ⟨z_in 542 (by decide +kernel) (by decide), z_in 56 (by decide +kernel) (by decide), by decide +kernel⟩
theorem iw_X4_right : Cond.instanceMethod yX4_right ∈ z_ws ∧ Cond.selects RX4 yX4_right yX4_right ∈ z_ws := ⟨z_in 540 (by decide +kernel) (by decide), z_in 541 (by decide +kernel) (by decide)⟩
theorem mw_X4_runs : z_Mw yX4_runs cX4_runs 4 (some .int) 1 := ⟨z_in 458 (by decide +kernel) (by decide), z_in 56 (by decide +kernel) (by decide), by decide +kernel⟩
theorem iw_X4_runs : Cond.instanceMethod yX4_runs ∈ z_ws ∧ Cond.selects RX4 yX4_runs yX4_runs ∈ z_ws := ⟨z_in 456 (by decide +kernel) (by decide), z_in 457 (by decide +kernel) (by decide)⟩
theorem mw_X4_safe : z_Mw yX4_safe cX4_safe 4 (some .int) 1 := ⟨z_in 550 (by decide +kernel) (by decide), z_in 56 (by decide +kernel) (by decide), by decide +kernel⟩
theorem iw_X4_safe : Cond.instanceMethod yX4_safe ∈ z_ws ∧ Cond.selects RX4 yX4_safe yX4_safe ∈ z_ws := ⟨z_in 548 (by decide +kernel) (by decide), z_in 549 (by decide +kernel) (by decide)⟩
theorem mw_X4_shout : z_Mw yX4_shout cX4_shout 4 (some .int) 1 := ⟨z_in 423 (by decide +kernel) (by decide), z_in 56 (by decide +kernel) (by decide), by decide +kernel⟩
theorem iw_X4_shout : Cond.instanceMethod yX4_shout ∈ z_ws ∧ Cond.selects RX4 yX4_shout yX4_shout ∈ z_ws := ⟨z_in 421 (by decide +kernel) (by decide), z_in 422 (by decide +kernel) (by decide)⟩
theorem mw_X4_turn : z_Mw yX4_turn cX4_turn 3 (some .int) 2 := ⟨z_in 500 (by decide +kernel) (by decide), z_in 56 (by decide +kernel) (by decide), by decide +kernel⟩
theorem iw_X4_turn : Cond.instanceMethod yX4_turn ∈ z_ws ∧ Cond.selects RX4 yX4_turn yX4_turn ∈ z_ws := ⟨z_in 498 (by decide +kernel) (by decide), z_in 499 (by decide +kernel) (by decide)⟩
theorem mw_X4_undo : z_Mw yX4_undo cX4_undo 1 (some .int) 0 := ⟨z_in 442 (by decide +kernel) (by decide), z_in 56 (by decide +kernel) (by decide), by decide +kernel⟩
theorem iw_X4_undo : Cond.instanceMethod yX4_undo ∈ z_ws ∧ Cond.selects RX4 yX4_undo yX4_undo ∈ z_ws := ⟨z_in 440 (by decide +kernel) (by decide), z_in 441 (by decide +kernel) (by decide)⟩
theorem mw_X4_which : z_Mw yX4_which cX4_which 5 (some .int) 2 := ⟨z_in 546 (by decide +kernel) (by decide), z_in 56 (by decide +kernel) (by decide), by decide +kernel⟩
theorem iw_X4_which : Cond.instanceMethod yX4_which ∈ z_ws ∧ Cond.selects RX4 yX4_which yX4_which ∈ z_ws := ⟨z_in 544 (by decide +kernel) (by decide), z_in 545 (by decide +kernel) (by decide)⟩
theorem mw_X4_who : z_Mw yX4_who cX4_who 2 (some .int) 1 := ⟨z_in 450 (by decide +kernel) (by decide), z_in 56 (by decide +kernel) (by decide), by decide +kernel⟩
theorem iw_X4_who : Cond.instanceMethod yX4_who ∈ z_ws ∧ Cond.selects RX4 yX4_who yX4_who ∈ z_ws := ⟨z_in 448 (by decide +kernel) (by decide), z_in 449 (by decide +kernel) (by decide)⟩
theorem mw_X4_wipe : z_Mw yX4_wipe cX4_wipe 2 (some .int) 0 := ⟨z_in 333 (by decide +kernel) (by decide), z_in 56 (by decide +kernel) (by decide), by decide +kernel⟩
theorem iw_X4_wipe : Cond.instanceMethod yX4_wipe ∈ z_ws ∧ Cond.selects RX4 yX4_wipe yX4_wipe ∈ z_ws := ⟨z_in 331 (by decide +kernel) (by decide), z_in 332 (by decide +kernel) (by decide)⟩
theorem mw_X4_word : z_Mw yX4_word cX4_word 2 (some .int) 1 := ⟨z_in 357 (by decide +kernel) (by decide), z_in 56 (by decide +kernel) (by decide), by decide +kernel⟩
theorem iw_X4_word : Cond.instanceMethod yX4_word ∈ z_ws ∧ Cond.selects RX4 yX4_word yX4_word ∈ z_ws := ⟨z_in 355 (by decide +kernel) (by decide), z_in 356 (by decide +kernel) (by decide)⟩
theorem mw_X4_write : z_Mw yX4_write cX4_write 2 (some .int) 1 := ⟨z_in 329 (by decide +kernel) (by decide), z_in 56 (by decide +kernel) (by decide), by decide +kernel⟩
theorem iw_X4_write : Cond.instanceMethod yX4_write ∈ z_ws ∧ Cond.selects RX4 yX4_write yX4_write ∈ z_ws := ⟨z_in 327 (by decide +kernel) (by decide), z_in 328 (by decide +kernel) (by decide)⟩
theorem mw_X5_adds : z_Mw yX5_adds cX5_adds 6 none 4 := ⟨z_in 589 (by decide +kernel) (by decide), z_in 67 (by decide +kernel) (by decide), by decide +kernel⟩
theorem iw_X5_adds : Cond.instanceMethod yX5_adds ∈ z_ws ∧ Cond.selects RX5 yX5_adds yX5_adds ∈ z_ws := ⟨z_in 588 (by decide +kernel) (by decide), z_in 30 (by decide +kernel) (by decide)⟩
theorem mw_X5_common : z_Mw yX5_common cX5_common 5 (some .int) 2 := ⟨z_in 828 (by decide +kernel) (by decide), z_in 67 (by decide +kernel) (by decide), by decide +kernel⟩
theorem iw_X5_common : Cond.static yX5_common ∈ z_ws := z_in 827 (by decide +kernel) (by decide)
theorem mw_X5_mayErr : z_Mw yX5_mayErr cX5_mayErr 2 (some .boolean) 1 := ⟨z_in 743 (by decide +kernel) (by decide), z_in 67 (by decide +kernel) (by decide), by decide +kernel⟩
theorem iw_X5_mayErr : Cond.instanceMethod yX5_mayErr ∈ z_ws ∧ Cond.selects RX5 yX5_mayErr yX5_mayErr ∈ z_ws := ⟨z_in 742 (by decide +kernel) (by decide), z_in 47 (by decide +kernel) (by decide)⟩
theorem mw_X5_isLooking : z_Mw yX5_isLooking cX5_isLooking 2 (some .boolean) 1 := ⟨z_in 736 (by decide +kernel) (by decide), z_in 67 (by decide +kernel) (by decide), by decide +kernel⟩
theorem iw_X5_isLooking : Cond.instanceMethod yX5_isLooking ∈ z_ws ∧ Cond.selects RX5 yX5_isLooking yX5_isLooking ∈ z_ws := ⟨z_in 735 (by decide +kernel) (by decide), z_in 46 (by decide +kernel) (by decide)⟩
theorem mw_X5_leader : z_Mw yX5_leader cX5_leader 4 (some .int) 1 := ⟨z_in 732 (by decide +kernel) (by decide), z_in 67 (by decide +kernel) (by decide), by decide +kernel⟩
theorem iw_X5_leader : Cond.instanceMethod yX5_leader ∈ z_ws ∧ Cond.selects RX5 yX5_leader yX5_leader ∈ z_ws := ⟨z_in 731 (by decide +kernel) (by decide), z_in 45 (by decide +kernel) (by decide)⟩
theorem mw_X5_turnsAs : z_Mw yX5_turnsAs cX5_turnsAs 3 (some .int) 1 := ⟨z_in 728 (by decide +kernel) (by decide), z_in 67 (by decide +kernel) (by decide), by decide +kernel⟩
theorem iw_X5_turnsAs : Cond.instanceMethod yX5_turnsAs ∈ z_ws ∧ Cond.selects RX5 yX5_turnsAs yX5_turnsAs ∈ z_ws := ⟨z_in 727 (by decide +kernel) (by decide), z_in 44 (by decide +kernel) (by decide)⟩
theorem mw_X5_doubtful : z_Mw yX5_doubtful cX5_doubtful 3 (some .int) 0 := ⟨z_in 825 (by decide +kernel) (by decide), z_in 67 (by decide +kernel) (by decide), by decide +kernel⟩
theorem iw_X5_doubtful : Cond.instanceMethod yX5_doubtful ∈ z_ws ∧ Cond.selects RX5 yX5_doubtful yX5_doubtful ∈ z_ws := ⟨z_in 824 (by decide +kernel) (by decide), z_in 54 (by decide +kernel) (by decide)⟩
theorem mw_X5_in : z_Mw yX5_in cX5_in 3 (some .boolean) 3 := ⟨z_in 643 (by decide +kernel) (by decide), z_in 67 (by decide +kernel) (by decide), by decide +kernel⟩
theorem iw_X5_in : Cond.static yX5_in ∈ z_ws := z_in 642 (by decide +kernel) (by decide)
theorem mw_X5_isWord : z_Mw yX5_isWord cX5_isWord 1 (some .boolean) 1 := ⟨z_in 701 (by decide +kernel) (by decide), z_in 67 (by decide +kernel) (by decide), by decide +kernel⟩
theorem iw_X5_isWord : Cond.static yX5_isWord ∈ z_ws := z_in 700 (by decide +kernel) (by decide)
theorem mw_X5_ones : z_Mw yX5_ones cX5_ones 3 (some .int) 1 := ⟨z_in 753 (by decide +kernel) (by decide), z_in 67 (by decide +kernel) (by decide), by decide +kernel⟩
theorem iw_X5_ones : Cond.static yX5_ones ∈ z_ws := z_in 752 (by decide +kernel) (by decide)
theorem mw_X5_turnOf : z_Mw yX5_turnOf cX5_turnOf 1 (some .int) 1 := ⟨z_in 739 (by decide +kernel) (by decide), z_in 67 (by decide +kernel) (by decide), by decide +kernel⟩
theorem iw_X5_turnOf : Cond.static yX5_turnOf ∈ z_ws := z_in 738 (by decide +kernel) (by decide)
theorem mw_X5_wrongly : z_Mw yX5_wrongly cX5_wrongly 1 (some .int) 1 := ⟨z_in 746 (by decide +kernel) (by decide), z_in 67 (by decide +kernel) (by decide), by decide +kernel⟩
theorem iw_X5_wrongly : Cond.static yX5_wrongly ∈ z_ws := z_in 745 (by decide +kernel) (by decide)
theorem mw_X5_turnBy : z_Mw yX5_turnBy cX5_turnBy 6 (some .int) 3 := ⟨z_in 724 (by decide +kernel) (by decide), z_in 67 (by decide +kernel) (by decide), by decide +kernel⟩
theorem iw_X5_turnBy : Cond.instanceMethod yX5_turnBy ∈ z_ws ∧ Cond.selects RX5 yX5_turnBy yX5_turnBy ∈ z_ws := ⟨z_in 723 (by decide +kernel) (by decide), z_in 43 (by decide +kernel) (by decide)⟩
theorem mw_X5_alike : z_Mw yX5_alike cX5_alike 10 (some .int) 2 := ⟨z_in 821 (by decide +kernel) (by decide), z_in 67 (by decide +kernel) (by decide), by decide +kernel⟩
theorem iw_X5_alike : Cond.instanceMethod yX5_alike ∈ z_ws ∧ Cond.selects RX5 yX5_alike yX5_alike ∈ z_ws := ⟨z_in 819 (by decide +kernel) (by decide), z_in 820 (by decide +kernel) (by decide)⟩
theorem mw_X5_back : z_Mw yX5_back cX5_back 2 (some .int) 0 := ⟨z_in 857 (by decide +kernel) (by decide), z_in 67 (by decide +kernel) (by decide), by decide +kernel⟩
theorem iw_X5_back : Cond.instanceMethod yX5_back ∈ z_ws ∧ Cond.selects RX5 yX5_back yX5_back ∈ z_ws := ⟨z_in 855 (by decide +kernel) (by decide), z_in 856 (by decide +kernel) (by decide)⟩
theorem mw_X5_begins : z_Mw yX5_begins cX5_begins 2 none 0 := ⟨z_in 585 (by decide +kernel) (by decide), z_in 67 (by decide +kernel) (by decide), by decide +kernel⟩
theorem iw_X5_begins : Cond.instanceMethod yX5_begins ∈ z_ws ∧ Cond.selects RX5 yX5_begins yX5_begins ∈ z_ws := ⟨z_in 584 (by decide +kernel) (by decide), z_in 29 (by decide +kernel) (by decide)⟩
theorem mw_X5_comesBy : z_Mw yX5_comesBy cX5_comesBy 6 (some .boolean) 2 := ⟨z_in 761 (by decide +kernel) (by decide), z_in 67 (by decide +kernel) (by decide), by decide +kernel⟩
theorem iw_X5_comesBy : Cond.instanceMethod yX5_comesBy ∈ z_ws ∧ Cond.selects RX5 yX5_comesBy yX5_comesBy ∈ z_ws := ⟨z_in 760 (by decide +kernel) (by decide), z_in 49 (by decide +kernel) (by decide)⟩
theorem mw_X5_count : z_Mw yX5_count cX5_count 2 (some .int) 1 := ⟨z_in 861 (by decide +kernel) (by decide), z_in 67 (by decide +kernel) (by decide), by decide +kernel⟩
theorem iw_X5_count : Cond.instanceMethod yX5_count ∈ z_ws ∧ Cond.selects RX5 yX5_count yX5_count ∈ z_ws := ⟨z_in 859 (by decide +kernel) (by decide), z_in 860 (by decide +kernel) (by decide)⟩
theorem mw_X5_drawOf : z_Mw yX5_drawOf cX5_drawOf 2 (some .int) 1 := ⟨z_in 715 (by decide +kernel) (by decide), z_in 67 (by decide +kernel) (by decide), by decide +kernel⟩
theorem iw_X5_drawOf : Cond.static yX5_drawOf ∈ z_ws := z_in 714 (by decide +kernel) (by decide)
theorem mw_X5_errors : z_Mw yX5_errors cX5_errors 5 (some .int) 1 := ⟨z_in 709 (by decide +kernel) (by decide), z_in 67 (by decide +kernel) (by decide), by decide +kernel⟩
theorem iw_X5_errors : Cond.instanceMethod yX5_errors ∈ z_ws ∧ Cond.selects RX5 yX5_errors yX5_errors ∈ z_ws := ⟨z_in 708 (by decide +kernel) (by decide), z_in 41 (by decide +kernel) (by decide)⟩
theorem mw_X5_holds : z_Mw yX5_holds cX5_holds 2 none 0 := ⟨z_in 805 (by decide +kernel) (by decide), z_in 67 (by decide +kernel) (by decide), by decide +kernel⟩
theorem iw_X5_holds : Cond.instanceMethod yX5_holds ∈ z_ws ∧ Cond.selects RX5 yX5_holds yX5_holds ∈ z_ws := ⟨z_in 804 (by decide +kernel) (by decide), z_in 51 (by decide +kernel) (by decide)⟩
theorem mw_X5_isOneWay : z_Mw yX5_isOneWay cX5_isOneWay 3 (some .boolean) 0 := ⟨z_in 809 (by decide +kernel) (by decide), z_in 67 (by decide +kernel) (by decide), by decide +kernel⟩
theorem iw_X5_isOneWay : Cond.instanceMethod yX5_isOneWay ∈ z_ws ∧ Cond.selects RX5 yX5_isOneWay yX5_isOneWay ∈ z_ws := ⟨z_in 808 (by decide +kernel) (by decide), z_in 52 (by decide +kernel) (by decide)⟩
theorem mw_X5_lets : z_Mw yX5_lets cX5_lets 2 none 0 := ⟨z_in 813 (by decide +kernel) (by decide), z_in 67 (by decide +kernel) (by decide), by decide +kernel⟩
theorem iw_X5_lets : Cond.instanceMethod yX5_lets ∈ z_ws ∧ Cond.selects RX5 yX5_lets yX5_lets ∈ z_ws := ⟨z_in 812 (by decide +kernel) (by decide), z_in 53 (by decide +kernel) (by decide)⟩
theorem mw_X5_says : z_Mw yX5_says cX5_says 5 none 2 := ⟨z_in 720 (by decide +kernel) (by decide), z_in 67 (by decide +kernel) (by decide), by decide +kernel⟩
theorem iw_X5_says : Cond.instanceMethod yX5_says ∈ z_ws ∧ Cond.selects RX5 yX5_says yX5_says ∈ z_ws := ⟨z_in 719 (by decide +kernel) (by decide), z_in 42 (by decide +kernel) (by decide)⟩
theorem mw_X5_dueOf : z_Mw yX5_dueOf cX5_dueOf 2 (some .int) 1 := ⟨z_in 694 (by decide +kernel) (by decide), z_in 67 (by decide +kernel) (by decide), by decide +kernel⟩
theorem iw_X5_dueOf : Cond.instanceMethod yX5_dueOf ∈ z_ws ∧ Cond.selects RX5 yX5_dueOf yX5_dueOf ∈ z_ws := ⟨z_in 693 (by decide +kernel) (by decide), z_in 39 (by decide +kernel) (by decide)⟩
theorem mw_X5_wrong : z_Mw yX5_wrong cX5_wrong 3 (some .int) 0 := ⟨z_in 750 (by decide +kernel) (by decide), z_in 67 (by decide +kernel) (by decide), by decide +kernel⟩
theorem iw_X5_wrong : Cond.instanceMethod yX5_wrong ∈ z_ws ∧ Cond.selects RX5 yX5_wrong yX5_wrong ∈ z_ws := ⟨z_in 749 (by decide +kernel) (by decide), z_in 48 (by decide +kernel) (by decide)⟩
theorem mw_X5_drill : z_Mw yX5_drill cX5_drill 6 (some .int) 3 := ⟨z_in 849 (by decide +kernel) (by decide), z_in 67 (by decide +kernel) (by decide), by decide +kernel⟩
theorem iw_X5_drill : Cond.instanceMethod yX5_drill ∈ z_ws ∧ Cond.selects RX5 yX5_drill yX5_drill ∈ z_ws := ⟨z_in 847 (by decide +kernel) (by decide), z_in 848 (by decide +kernel) (by decide)⟩
theorem mw_X5_keeps : z_Mw yX5_keeps cX5_keeps 2 none 0 := ⟨z_in 705 (by decide +kernel) (by decide), z_in 67 (by decide +kernel) (by decide), by decide +kernel⟩
theorem iw_X5_keeps : Cond.instanceMethod yX5_keeps ∈ z_ws ∧ Cond.selects RX5 yX5_keeps yX5_keeps ∈ z_ws := ⟨z_in 704 (by decide +kernel) (by decide), z_in 40 (by decide +kernel) (by decide)⟩
theorem mw_X5_eyes : z_Mw yX5_eyes cX5_eyes 3 (some .int) 1 := ⟨z_in 765 (by decide +kernel) (by decide), z_in 67 (by decide +kernel) (by decide), by decide +kernel⟩
theorem iw_X5_eyes : Cond.instanceMethod yX5_eyes ∈ z_ws ∧ Cond.selects RX5 yX5_eyes yX5_eyes ∈ z_ws := ⟨z_in 763 (by decide +kernel) (by decide), z_in 764 (by decide +kernel) (by decide)⟩
theorem mw_X5_isFigure : z_Mw yX5_isFigure cX5_isFigure 1 (some .boolean) 1 := ⟨z_in 670 (by decide +kernel) (by decide), z_in 67 (by decide +kernel) (by decide), by decide +kernel⟩
theorem iw_X5_isFigure : Cond.static yX5_isFigure ∈ z_ws := z_in 669 (by decide +kernel) (by decide)
theorem mw_X5_letterAt : z_Mw yX5_letterAt cX5_letterAt 2 (some .int) 1 := ⟨z_in 667 (by decide +kernel) (by decide), z_in 67 (by decide +kernel) (by decide), by decide +kernel⟩
theorem iw_X5_letterAt : Cond.instanceMethod yX5_letterAt ∈ z_ws ∧ Cond.selects RX5 yX5_letterAt yX5_letterAt ∈ z_ws := ⟨z_in 666 (by decide +kernel) (by decide), z_in 35 (by decide +kernel) (by decide)⟩
theorem mw_X5_number : z_Mw yX5_number cX5_number 2 (some .int) 0 := ⟨z_in 663 (by decide +kernel) (by decide), z_in 67 (by decide +kernel) (by decide), by decide +kernel⟩
theorem iw_X5_number : Cond.instanceMethod yX5_number ∈ z_ws ∧ Cond.selects RX5 yX5_number yX5_number ∈ z_ws := ⟨z_in 662 (by decide +kernel) (by decide), z_in 34 (by decide +kernel) (by decide)⟩
theorem mw_X5_sign : z_Mw yX5_sign cX5_sign 3 (some .boolean) 1 := ⟨z_in 674 (by decide +kernel) (by decide), z_in 67 (by decide +kernel) (by decide), by decide +kernel⟩
theorem iw_X5_sign : Cond.instanceMethod yX5_sign ∈ z_ws ∧ Cond.selects RX5 yX5_sign yX5_sign ∈ z_ws := ⟨z_in 673 (by decide +kernel) (by decide), z_in 36 (by decide +kernel) (by decide)⟩
theorem mw_X5_readsMan : z_Mw yX5_readsMan cX5_readsMan 5 (some .boolean) 0 := ⟨z_in 659 (by decide +kernel) (by decide), z_in 67 (by decide +kernel) (by decide), by decide +kernel⟩
theorem iw_X5_readsMan : Cond.instanceMethod yX5_readsMan ∈ z_ws ∧ Cond.selects RX5 yX5_readsMan yX5_readsMan ∈ z_ws := ⟨z_in 658 (by decide +kernel) (by decide), z_in 33 (by decide +kernel) (by decide)⟩
theorem mw_X5_readsOne : z_Mw yX5_readsOne cX5_readsOne 3 (some .boolean) 2 := ⟨z_in 678 (by decide +kernel) (by decide), z_in 67 (by decide +kernel) (by decide), by decide +kernel⟩
theorem iw_X5_readsOne : Cond.instanceMethod yX5_readsOne ∈ z_ws ∧ Cond.selects RX5 yX5_readsOne yX5_readsOne ∈ z_ws := ⟨z_in 677 (by decide +kernel) (by decide), z_in 37 (by decide +kernel) (by decide)⟩
theorem mw_X5_reads : z_Mw yX5_reads cX5_reads 4 (some .int) 0 := ⟨z_in 655 (by decide +kernel) (by decide), z_in 67 (by decide +kernel) (by decide), by decide +kernel⟩
theorem iw_X5_reads : Cond.instanceMethod yX5_reads ∈ z_ws ∧ Cond.selects RX5 yX5_reads yX5_reads ∈ z_ws := ⟨z_in 654 (by decide +kernel) (by decide), z_in 32 (by decide +kernel) (by decide)⟩
theorem mw_X5_fault : z_Mw yX5_fault cX5_fault 1 (some .int) 0 := ⟨z_in 651 (by decide +kernel) (by decide), z_in 67 (by decide +kernel) (by decide), by decide +kernel⟩
theorem iw_X5_fault : Cond.instanceMethod yX5_fault ∈ z_ws ∧ Cond.selects RX5 yX5_fault yX5_fault ∈ z_ws := ⟨z_in 649 (by decide +kernel) (by decide), z_in 650 (by decide +kernel) (by decide)⟩
theorem mw_X5_isMan : z_Mw yX5_isMan cX5_isMan 2 (some .boolean) 1 := ⟨z_in 690 (by decide +kernel) (by decide), z_in 67 (by decide +kernel) (by decide), by decide +kernel⟩
theorem iw_X5_isMan : Cond.instanceMethod yX5_isMan ∈ z_ws ∧ Cond.selects RX5 yX5_isMan yX5_isMan ∈ z_ws := ⟨z_in 689 (by decide +kernel) (by decide), z_in 38 (by decide +kernel) (by decide)⟩
theorem mw_X5_follows : z_Mw yX5_follows cX5_follows 2 (some .int) 1 := ⟨z_in 781 (by decide +kernel) (by decide), z_in 67 (by decide +kernel) (by decide), by decide +kernel⟩
theorem iw_X5_follows : Cond.instanceMethod yX5_follows ∈ z_ws ∧ Cond.selects RX5 yX5_follows yX5_follows ∈ z_ws := ⟨z_in 779 (by decide +kernel) (by decide), z_in 780 (by decide +kernel) (by decide)⟩
theorem mw_X5_groups : z_Mw yX5_groups cX5_groups 6 (some .int) 1 := ⟨z_in 793 (by decide +kernel) (by decide), z_in 67 (by decide +kernel) (by decide), by decide +kernel⟩
theorem iw_X5_groups : Cond.instanceMethod yX5_groups ∈ z_ws ∧ Cond.selects RX5 yX5_groups yX5_groups ∈ z_ws := ⟨z_in 791 (by decide +kernel) (by decide), z_in 792 (by decide +kernel) (by decide)⟩
theorem mw_X5_lays : z_Mw yX5_lays cX5_lays 2 none 0 := ⟨z_in 593 (by decide +kernel) (by decide), z_in 67 (by decide +kernel) (by decide), by decide +kernel⟩
theorem iw_X5_lays : Cond.instanceMethod yX5_lays ∈ z_ws ∧ Cond.selects RX5 yX5_lays yX5_lays ∈ z_ws := ⟨z_in 592 (by decide +kernel) (by decide), z_in 31 (by decide +kernel) (by decide)⟩
theorem mw_X5_init : z_Mw yX5_init cX5_init 1 none 0 := ⟨z_in 580 (by decide +kernel) (by decide), z_in 67 (by decide +kernel) (by decide), by decide +kernel⟩
theorem iw_X5_init : Cond.instanceMethod yX5_init ∈ z_ws := z_in 579 (by decide +kernel) (by decide)
theorem mw_X5_keep : z_Mw yX5_keep cX5_keep 2 (some .int) 0 := ⟨z_in 853 (by decide +kernel) (by decide), z_in 67 (by decide +kernel) (by decide), by decide +kernel⟩
theorem iw_X5_keep : Cond.instanceMethod yX5_keep ∈ z_ws ∧ Cond.selects RX5 yX5_keep yX5_keep ∈ z_ws := ⟨z_in 851 (by decide +kernel) (by decide), z_in 852 (by decide +kernel) (by decide)⟩
theorem mw_X5_lay : z_Mw yX5_lay cX5_lay 3 (some .int) 0 := ⟨z_in 682 (by decide +kernel) (by decide), z_in 67 (by decide +kernel) (by decide), by decide +kernel⟩
theorem iw_X5_lay : Cond.instanceMethod yX5_lay ∈ z_ws ∧ Cond.selects RX5 yX5_lay yX5_lay ∈ z_ws := ⟨z_in 680 (by decide +kernel) (by decide), z_in 681 (by decide +kernel) (by decide)⟩
theorem mw_X5_look : z_Mw yX5_look cX5_look 4 (some .int) 2 := ⟨z_in 769 (by decide +kernel) (by decide), z_in 67 (by decide +kernel) (by decide), by decide +kernel⟩
theorem iw_X5_look : Cond.instanceMethod yX5_look ∈ z_ws ∧ Cond.selects RX5 yX5_look yX5_look ∈ z_ws := ⟨z_in 767 (by decide +kernel) (by decide), z_in 768 (by decide +kernel) (by decide)⟩
theorem mw_X5_man : z_Mw yX5_man cX5_man 3 (some .int) 2 := ⟨z_in 686 (by decide +kernel) (by decide), z_in 67 (by decide +kernel) (by decide), by decide +kernel⟩
theorem iw_X5_man : Cond.instanceMethod yX5_man ∈ z_ws ∧ Cond.selects RX5 yX5_man yX5_man ∈ z_ws := ⟨z_in 684 (by decide +kernel) (by decide), z_in 685 (by decide +kernel) (by decide)⟩
theorem mw_X5_most : z_Mw yX5_most cX5_most 7 (some .int) 1 := ⟨z_in 789 (by decide +kernel) (by decide), z_in 67 (by decide +kernel) (by decide), by decide +kernel⟩
theorem iw_X5_most : Cond.instanceMethod yX5_most ∈ z_ws ∧ Cond.selects RX5 yX5_most yX5_most ∈ z_ws := ⟨z_in 787 (by decide +kernel) (by decide), z_in 788 (by decide +kernel) (by decide)⟩
theorem mw_X5_rows : z_Mw yX5_rows cX5_rows 7 (some .int) 1 := ⟨z_in 801 (by decide +kernel) (by decide), z_in 67 (by decide +kernel) (by decide), by decide +kernel⟩
theorem iw_X5_rows : Cond.instanceMethod yX5_rows ∈ z_ws ∧ Cond.selects RX5 yX5_rows yX5_rows ∈ z_ws := ⟨z_in 800 (by decide +kernel) (by decide), z_in 50 (by decide +kernel) (by decide)⟩
theorem mw_X5_numbers : z_Mw yX5_numbers cX5_numbers 2 (some .int) 1 := ⟨z_in 845 (by decide +kernel) (by decide), z_in 67 (by decide +kernel) (by decide), by decide +kernel⟩
theorem iw_X5_numbers : Cond.instanceMethod yX5_numbers ∈ z_ws ∧ Cond.selects RX5 yX5_numbers yX5_numbers ∈ z_ws := ⟨z_in 843 (by decide +kernel) (by decide), z_in 844 (by decide +kernel) (by decide)⟩
theorem mw_X5_plan : z_Mw yX5_plan cX5_plan 5 (some .int) 1 := ⟨z_in 797 (by decide +kernel) (by decide), z_in 67 (by decide +kernel) (by decide), by decide +kernel⟩
theorem iw_X5_plan : Cond.instanceMethod yX5_plan ∈ z_ws ∧ Cond.selects RX5 yX5_plan yX5_plan ∈ z_ws := ⟨z_in 795 (by decide +kernel) (by decide), z_in 796 (by decide +kernel) (by decide)⟩
theorem mw_X5_right : z_Mw yX5_right cX5_right 9 (some .int) 3 := ⟨z_in 832 (by decide +kernel) (by decide), z_in 67 (by decide +kernel) (by decide), by decide +kernel⟩
theorem iw_X5_right : Cond.instanceMethod yX5_right ∈ z_ws ∧ Cond.selects RX5 yX5_right yX5_right ∈ z_ws := ⟨z_in 830 (by decide +kernel) (by decide), z_in 831 (by decide +kernel) (by decide)⟩
theorem mw_X5_runs : z_Mw yX5_runs cX5_runs 4 (some .int) 1 := ⟨z_in 785 (by decide +kernel) (by decide), z_in 67 (by decide +kernel) (by decide), by decide +kernel⟩
theorem iw_X5_runs : Cond.instanceMethod yX5_runs ∈ z_ws ∧ Cond.selects RX5 yX5_runs yX5_runs ∈ z_ws := ⟨z_in 783 (by decide +kernel) (by decide), z_in 784 (by decide +kernel) (by decide)⟩
theorem mw_X5_safe : z_Mw yX5_safe cX5_safe 5 (some .int) 1 := ⟨z_in 841 (by decide +kernel) (by decide), z_in 67 (by decide +kernel) (by decide), by decide +kernel⟩
theorem iw_X5_safe : Cond.instanceMethod yX5_safe ∈ z_ws ∧ Cond.selects RX5 yX5_safe yX5_safe ∈ z_ws := ⟨z_in 839 (by decide +kernel) (by decide), z_in 840 (by decide +kernel) (by decide)⟩
theorem mw_X5_shout : z_Mw yX5_shout cX5_shout 4 (some .int) 1 := ⟨z_in 757 (by decide +kernel) (by decide), z_in 67 (by decide +kernel) (by decide), by decide +kernel⟩
theorem iw_X5_shout : Cond.instanceMethod yX5_shout ∈ z_ws ∧ Cond.selects RX5 yX5_shout yX5_shout ∈ z_ws := ⟨z_in 755 (by decide +kernel) (by decide), z_in 756 (by decide +kernel) (by decide)⟩
theorem mw_X5_turn : z_Mw yX5_turn cX5_turn 3 (some .int) 2 := ⟨z_in 817 (by decide +kernel) (by decide), z_in 67 (by decide +kernel) (by decide), by decide +kernel⟩
theorem iw_X5_turn : Cond.instanceMethod yX5_turn ∈ z_ws ∧ Cond.selects RX5 yX5_turn yX5_turn ∈ z_ws := ⟨z_in 815 (by decide +kernel) (by decide), z_in 816 (by decide +kernel) (by decide)⟩
theorem mw_X5_undo : z_Mw yX5_undo cX5_undo 2 (some .int) 0 := ⟨z_in 773 (by decide +kernel) (by decide), z_in 67 (by decide +kernel) (by decide), by decide +kernel⟩
theorem iw_X5_undo : Cond.instanceMethod yX5_undo ∈ z_ws ∧ Cond.selects RX5 yX5_undo yX5_undo ∈ z_ws := ⟨z_in 771 (by decide +kernel) (by decide), z_in 772 (by decide +kernel) (by decide)⟩
theorem mw_X5_which : z_Mw yX5_which cX5_which 5 (some .int) 2 := ⟨z_in 836 (by decide +kernel) (by decide), z_in 67 (by decide +kernel) (by decide), by decide +kernel⟩
theorem iw_X5_which : Cond.instanceMethod yX5_which ∈ z_ws ∧ Cond.selects RX5 yX5_which yX5_which ∈ z_ws := ⟨z_in 834 (by decide +kernel) (by decide), z_in 835 (by decide +kernel) (by decide)⟩
theorem mw_X5_who : z_Mw yX5_who cX5_who 3 (some .int) 1 := ⟨z_in 777 (by decide +kernel) (by decide), z_in 67 (by decide +kernel) (by decide), by decide +kernel⟩
theorem iw_X5_who : Cond.instanceMethod yX5_who ∈ z_ws ∧ Cond.selects RX5 yX5_who yX5_who ∈ z_ws := ⟨z_in 775 (by decide +kernel) (by decide), z_in 776 (by decide +kernel) (by decide)⟩
theorem mw_X5_wipe : z_Mw yX5_wipe cX5_wipe 2 (some .int) 0 := ⟨z_in 647 (by decide +kernel) (by decide), z_in 67 (by decide +kernel) (by decide), by decide +kernel⟩
theorem iw_X5_wipe : Cond.instanceMethod yX5_wipe ∈ z_ws ∧ Cond.selects RX5 yX5_wipe yX5_wipe ∈ z_ws := ⟨z_in 645 (by decide +kernel) (by decide), z_in 646 (by decide +kernel) (by decide)⟩
theorem mw_X5_word : z_Mw yX5_word cX5_word 2 (some .int) 1 := ⟨z_in 698 (by decide +kernel) (by decide), z_in 67 (by decide +kernel) (by decide), by decide +kernel⟩
theorem iw_X5_word : Cond.instanceMethod yX5_word ∈ z_ws ∧ Cond.selects RX5 yX5_word yX5_word ∈ z_ws := ⟨z_in 696 (by decide +kernel) (by decide), z_in 697 (by decide +kernel) (by decide)⟩
theorem mw_X5_write : z_Mw yX5_write cX5_write 2 (some .int) 1 := ⟨z_in 640 (by decide +kernel) (by decide), z_in 67 (by decide +kernel) (by decide), by decide +kernel⟩
theorem iw_X5_write : Cond.instanceMethod yX5_write ∈ z_ws ∧ Cond.selects RX5 yX5_write yX5_write ∈ z_ws := ⟨z_in 638 (by decide +kernel) (by decide), z_in 639 (by decide +kernel) (by decide)⟩
theorem mw_J0_charAt_5068e : z_Mw yJ0_charAt_5068e cJ0_charAt_5068e 2 (some .char) 1 := ⟨z_in 205 (by decide +kernel) (by decide), z_in 62 (by decide +kernel) (by decide), by decide +kernel⟩
theorem iw_J0_charAt_5068e : Cond.instanceMethod yJ0_charAt_5068e ∈ z_ws ∧ Cond.selects RJ0 yJ0_charAt_5068e yJ0_charAt_5068e ∈ z_ws := ⟨z_in 203 (by decide +kernel) (by decide), z_in 204 (by decide +kernel) (by decide)⟩
theorem mw_J0_checkIndex_df160 : z_Mw yJ0_checkIndex_df160 cJ0_checkIndex_df160 2 none 2 := ⟨z_in 215 (by decide +kernel) (by decide), z_in 62 (by decide +kernel) (by decide), by decide +kernel⟩
theorem iw_J0_checkIndex_df160 : Cond.static yJ0_checkIndex_df160 ∈ z_ws := z_in 214 (by decide +kernel) (by decide)
theorem mw_J0_coder_7d493 : z_Mw yJ0_coder_7d493 cJ0_coder_7d493 1 (some .byte) 0 := ⟨z_in 199 (by decide +kernel) (by decide), z_in 62 (by decide +kernel) (by decide), by decide +kernel⟩
theorem iw_J0_coder_7d493 : Cond.instanceMethod yJ0_coder_7d493 ∈ z_ws ∧ Cond.selects RJ0 yJ0_coder_7d493 yJ0_coder_7d493 ∈ z_ws := ⟨z_in 197 (by decide +kernel) (by decide), z_in 198 (by decide +kernel) (by decide)⟩
theorem mw_J0_isLatin1_aae02 : z_Mw yJ0_isLatin1_aae02 cJ0_isLatin1_aae02 1 (some .boolean) 0 := ⟨z_in 209 (by decide +kernel) (by decide), z_in 62 (by decide +kernel) (by decide), by decide +kernel⟩
theorem iw_J0_isLatin1_aae02 : Cond.instanceMethod yJ0_isLatin1_aae02 ∈ z_ws ∧ Cond.selects RJ0 yJ0_isLatin1_aae02 yJ0_isLatin1_aae02 ∈ z_ws := ⟨z_in 207 (by decide +kernel) (by decide), z_in 208 (by decide +kernel) (by decide)⟩
theorem mw_J0_length_8abf5 : z_Mw yJ0_length_8abf5 cJ0_length_8abf5 1 (some .int) 0 := ⟨z_in 195 (by decide +kernel) (by decide), z_in 62 (by decide +kernel) (by decide), by decide +kernel⟩
theorem iw_J0_length_8abf5 : Cond.instanceMethod yJ0_length_8abf5 ∈ z_ws ∧ Cond.selects RJ0 yJ0_length_8abf5 yJ0_length_8abf5 ∈ z_ws := ⟨z_in 193 (by decide +kernel) (by decide), z_in 194 (by decide +kernel) (by decide)⟩
theorem mw_J1_charAt_3b067 : z_Mw yJ1_charAt_3b067 cJ1_charAt_3b067 2 (some .char) 2 := ⟨z_in 212 (by decide +kernel) (by decide), z_in 63 (by decide +kernel) (by decide), by decide +kernel⟩
theorem iw_J1_charAt_3b067 : Cond.static yJ1_charAt_3b067 ∈ z_ws := z_in 211 (by decide +kernel) (by decide)
theorem mw_J2_charAt_3b067 : z_Mw yJ2_charAt_3b067 cJ2_charAt_3b067 2 (some .char) 2 := ⟨z_in 223 (by decide +kernel) (by decide), z_in 65 (by decide +kernel) (by decide), by decide +kernel⟩
theorem iw_J2_charAt_3b067 : Cond.static yJ2_charAt_3b067 ∈ z_ws := z_in 222 (by decide +kernel) (by decide)
theorem mw_J2_checkIndex_2214a : z_Mw yJ2_checkIndex_2214a cJ2_checkIndex_2214a 2 none 2 := ⟨z_in 226 (by decide +kernel) (by decide), z_in 65 (by decide +kernel) (by decide), by decide +kernel⟩
theorem iw_J2_checkIndex_2214a : Cond.static yJ2_checkIndex_2214a ∈ z_ws := z_in 225 (by decide +kernel) (by decide)
theorem mw_J2_getChar_3b067 : z_Mw yJ2_getChar_3b067 cJ2_getChar_3b067 2 (some .char) 2 := ⟨z_in 233 (by decide +kernel) (by decide), z_in 65 (by decide +kernel) (by decide), by decide +kernel⟩
theorem iw_J2_getChar_3b067 : Cond.static yJ2_getChar_3b067 ∈ z_ws := z_in 232 (by decide +kernel) (by decide)
theorem mw_J2_length_9d52b : z_Mw yJ2_length_9d52b cJ2_length_9d52b 1 (some .int) 1 := ⟨z_in 229 (by decide +kernel) (by decide), z_in 65 (by decide +kernel) (by decide), by decide +kernel⟩
theorem iw_J2_length_9d52b : Cond.static yJ2_length_9d52b ∈ z_ws := z_in 228 (by decide +kernel) (by decide)
theorem mw_J3_checkIndex_8e157 : z_Mw yJ3_checkIndex_8e157 cJ3_checkIndex_8e157 3 (some .int) 3 := ⟨z_in 220 (by decide +kernel) (by decide), z_in 64 (by decide +kernel) (by decide), by decide +kernel⟩
theorem iw_J3_checkIndex_8e157 : Cond.static yJ3_checkIndex_8e157 ∈ z_ws := z_in 219 (by decide +kernel) (by decide)
theorem mw_J9_max_7cf53 : z_Mw yJ9_max_7cf53 cJ9_max_7cf53 2 (some .int) 2 := ⟨z_in 179 (by decide +kernel) (by decide), z_in 61 (by decide +kernel) (by decide), by decide +kernel⟩
theorem iw_J9_max_7cf53 : Cond.static yJ9_max_7cf53 ∈ z_ws := z_in 178 (by decide +kernel) (by decide)
theorem w_max : Cond.static Lib.Math.max.name ∈ z_ws ∧ Cond.initialized "java/lang/Math" ∈ z_ws ∧ Cond.code Lib.Math.max.name Lib.Math.max.code 2 (some .int) ∈ z_ws := ⟨z_in 178 (by decide +kernel) (by decide), z_in 61 (by decide +kernel) (by decide), z_in 179 (by decide +kernel) (by decide)⟩
section
variable {X : z_X} {y : MethodName} {cc : ByteArray} {nL : Nat} {rt : Option FieldType} {d : Nat} {pc : Nat} {lv : List (Nat × Value)} {st : List Value} {mm : z_M} {o : z_R}
theorem z_mmax {ix : Nat} {x y1 : Int32} (hd1 : 1 ≤ d) (hw : Cond.methodLink y.cls ix Lib.Math.max.name ∈ z_ws) (h36 : (st.map fun v => v.category).sum + 13 ≤ 36) (hd : decode cc pc = .ok (.invokestatic ix, 3)) (K : z_Sim X y cc nL rt d (pc + 3) lv (.int (z_mx x y1) :: st) mm o) : z_Sim X y cc nL rt d pc lv (.int y1 :: .int x :: st) mm o := by
  intro r m2 ho
  obtain ⟨⟨a1, a2⟩, b⟩ := K r m2 ho
  refine ⟨⟨a1, a2⟩, fun p e s m args below meth c n0 z0 H locs ls hE h1 h2 hH hS hl => ?_⟩
  have hts := hE.1.2.2.2.2
  exact va_mmax hE.1.1 hE.1.2.1 (by rw [hE.1.2.2.1]; exact hl.1.symm) hE.1.2.2.2.1 (hts _ hw) (hts _ w_max.1) (hts _ w_max.2.1) (hts _ w_max.2.2) hd1 (by show _ + 13 ≤ 36 * d; omega) (by show mm.1 - n0 ≤ m2.1 - n0; omega) (by show mm.2.1 - z0 ≤ m2.2.1 - z0; omega) hd (b p e s m args below meth c n0 z0 H locs ls hE h1 h2 hH hS hl)
end
theorem wf_J0_9 : Cond.fieldLink RJ0 9 "java/lang/String" "value" "[B" ∈ z_ws := z_in 862 (by decide +kernel) (by decide)
theorem wf_J0_15 : Cond.fieldLink RJ0 15 "java/lang/String" "coder" "B" ∈ z_ws := z_in 863 (by decide +kernel) (by decide)
theorem wf_J0_38 : Cond.fieldLink RJ0 38 "java/lang/String" "COMPACT_STRINGS" "Z" ∈ z_ws := z_in 200 (by decide +kernel) (by decide)
theorem wf_J0_1053 : Cond.fieldLink RJ0 1053 "jdk/internal/util/Preconditions" "SIOOBE_FORMATTER" "Ljava/util/function/BiFunction;" ∈ z_ws := z_in 216 (by decide +kernel) (by decide)
theorem wm_J0_335 : Cond.methodLink RJ0 335 yJ0_coder_7d493 ∈ z_ws := z_in 196 (by decide +kernel) (by decide)
theorem wm_J0_492 : Cond.methodLink RJ0 492 yJ0_isLatin1_aae02 ∈ z_ws := z_in 206 (by decide +kernel) (by decide)
theorem wm_J0_495 : Cond.methodLink RJ0 495 yJ1_charAt_3b067 ∈ z_ws := z_in 210 (by decide +kernel) (by decide)
theorem wm_J1_9 : Cond.methodLink RJ1 9 yJ0_checkIndex_df160 ∈ z_ws := z_in 213 (by decide +kernel) (by decide)
theorem wm_J0_1059 : Cond.methodLink RJ0 1059 yJ3_checkIndex_8e157 ∈ z_ws := z_in 218 (by decide +kernel) (by decide)
theorem k_bim4 : (Int8.ofInt (-4)).toInt32 = (-4) := by decide
theorem k_bim3 : (Int8.ofInt (-3)).toInt32 = (-3) := by decide
theorem k_bim2 : (Int8.ofInt (-2)).toInt32 = (-2) := by decide
theorem k_bi6 : (Int8.ofInt (6)).toInt32 = 6 := by decide
theorem k_bi7 : (Int8.ofInt (7)).toInt32 = 7 := by decide
theorem k_bi8 : (Int8.ofInt (8)).toInt32 = 8 := by decide
theorem k_bi10 : (Int8.ofInt (10)).toInt32 = 10 := by decide
theorem k_bi11 : (Int8.ofInt (11)).toInt32 = 11 := by decide
theorem k_bi16 : (Int8.ofInt (16)).toInt32 = 16 := by decide
theorem k_bi17 : (Int8.ofInt (17)).toInt32 = 17 := by decide
theorem k_bi18 : (Int8.ofInt (18)).toInt32 = 18 := by decide
theorem k_bi19 : (Int8.ofInt (19)).toInt32 = 19 := by decide
theorem k_bi20 : (Int8.ofInt (20)).toInt32 = 20 := by decide
theorem k_bi21 : (Int8.ofInt (21)).toInt32 = 21 := by decide
theorem k_bi22 : (Int8.ofInt (22)).toInt32 = 22 := by decide
theorem k_bi27 : (Int8.ofInt (27)).toInt32 = 27 := by decide
theorem k_bi32 : (Int8.ofInt (32)).toInt32 = 32 := by decide
theorem k_bi35 : (Int8.ofInt (35)).toInt32 = 35 := by decide
theorem k_bi44 : (Int8.ofInt (44)).toInt32 = 44 := by decide
theorem k_bi48 : (Int8.ofInt (48)).toInt32 = 48 := by decide
theorem k_bi57 : (Int8.ofInt (57)).toInt32 = 57 := by decide
theorem k_bi59 : (Int8.ofInt (59)).toInt32 = 59 := by decide
theorem k_bi60 : (Int8.ofInt (60)).toInt32 = 60 := by decide
theorem k_bi63 : (Int8.ofInt (63)).toInt32 = 63 := by decide
theorem k_bi64 : (Int8.ofInt (64)).toInt32 = 64 := by decide
theorem k_bi99 : (Int8.ofInt (99)).toInt32 = 99 := by decide
theorem k_bi101 : (Int8.ofInt (101)).toInt32 = 101 := by decide
theorem k_bi109 : (Int8.ofInt (109)).toInt32 = 109 := by decide
theorem k_bi122 : (Int8.ofInt (122)).toInt32 = 122 := by decide
theorem k_bi126 : (Int8.ofInt (126)).toInt32 = 126 := by decide
theorem k_cm1 : Int32.ofInt (-1) = (-1) := by decide
theorem k_c0 : Int32.ofInt (0) = 0 := by decide
theorem k_c1 : Int32.ofInt (1) = 1 := by decide
theorem k_c2 : Int32.ofInt (2) = 2 := by decide
theorem k_c3 : Int32.ofInt (3) = 3 := by decide
theorem k_c4 : Int32.ofInt (4) = 4 := by decide
theorem k_c5 : Int32.ofInt (5) = 5 := by decide
theorem k_im1 (x : Int32) : x + Int32.ofInt (-1) = x + (-1) := congrArg (x + ·) (show Int32.ofInt (-1) = (-1) by decide)
theorem k_i1 (x : Int32) : x + Int32.ofInt (1) = x + 1 := congrArg (x + ·) (show Int32.ofInt (1) = 1 by decide)
theorem k_l1 : Int64.ofNat ((1 : Fin 2) : Nat) = 1 := by decide
theorem k_si154 : (Int16.ofInt (154)).toInt32 = 154 := by decide
theorem k_si176 : (Int16.ofInt (176)).toInt32 = 176 := by decide
theorem k_si200 : (Int16.ofInt (200)).toInt32 = 200 := by decide
theorem k_si255 : (Int16.ofInt (255)).toInt32 = 255 := by decide
theorem k_si256 : (Int16.ofInt (256)).toInt32 = 256 := by decide
theorem k_si999 : (Int16.ofInt (999)).toInt32 = 999 := by decide
theorem k_si9999 : (Int16.ofInt (9999)).toInt32 = 9999 := by decide
end
section
/-- the first squad's text, asked for its length and for a sign -/
def f_strLen (m : z_M) : z_R := some (Int32.ofNat z_tx.length, m)
def f_strAt (i : Int32) (m : z_M) : z_R := if 0 ≤ i.toInt ∧ i.toInt < z_tx.length then some (z_tx.getD i.toNatClampNeg 0, m) else none
def f_J6_bitCount_0f7a4 (v0 : Int32) (m : z_M) : z_R := z_lt (v0 - (((Int32.toUInt32 v0 >>> (Int32.toUInt32 1 &&& Int32.toUInt32 31)).toInt32) &&& 1431655765)) fun x1 => z_lt ((x1 &&& 858993459) + (((Int32.toUInt32 x1 >>> (Int32.toUInt32 2 &&& Int32.toUInt32 31)).toInt32) &&& 858993459)) fun x2 => z_lt ((x2 + ((Int32.toUInt32 x2 >>> (Int32.toUInt32 4 &&& Int32.toUInt32 31)).toInt32)) &&& 252645135) fun x3 => z_lt (x3 + ((Int32.toUInt32 x3 >>> (Int32.toUInt32 8 &&& Int32.toUInt32 31)).toInt32)) fun x4 => z_lt (x4 + ((Int32.toUInt32 x4 >>> (Int32.toUInt32 16 &&& Int32.toUInt32 31)).toInt32)) fun x5 => some (x5 &&& 63, m)
end
section
def f_X3_init (v0 : Nat) (m : z_M) : z_R := z_na m 6 8 fun a1 m2 => z_sP m2 v0 3 0 a1 fun m3 => z_na m3 6 8 fun a4 m5 => z_sP m5 v0 3 1 a4 fun m6 => some (0, m6)
def f_X0_init_L18 : Nat → Nat → Int32 → z_M → z_R
  | 0, _, _, _ => none
  | n + 1, v0, v2, m => z_gP m v0 0 0 fun a1 => z_ln m a1 fun x2 => if x2 ≤ v2 then (some (0, m)) else (z_gP m v0 0 0 fun a3 => z_no m 3 fun a4 m5 => z_b (f_X3_init a4 m5) fun _ m6 => z_ps m6 a3 v2 a4 fun m7 => f_X0_init_L18 n v0 (v2 + 1) m7)
def f_X0_init (v0 : Nat) (v1 : Int32) (m : z_M) : z_R := z_na m 8 (z_mx v1 1) fun a8 m9 => z_sP m9 v0 0 0 a8 fun m10 => f_X0_init_L18 400 v0 0 m10
def f_X0_loseOldest_L9 : Nat → Nat → Nat → Int32 → z_M → z_R
  | 0, _, _, _, _ => none
  | n + 1, v0, v1, v2, m => z_gP m v0 0 0 fun a1 => z_ln m a1 fun x2 => if x2 ≤ v2 then (z_gP m v0 0 0 fun a3 => z_gP m v0 0 0 fun a4 => z_ln m a4 fun x5 => z_ps m a3 (x5 - 1) v1 fun m6 => z_gP m6 v0 0 0 fun a7 => z_ln m6 a7 fun x8 => z_lt (x8 - 1) fun x9 => z_sI m6 v0 0 1 x9 fun m10 => some (0, m10)) else (z_gP m v0 0 0 fun a11 => z_gP m v0 0 0 fun a12 => z_pl m a12 v2 fun a13 => z_ps m a11 (v2 - 1) a13 fun m14 => f_X0_loseOldest_L9 n v0 v1 (v2 + 1) m14)
def f_X0_loseOldest (v0 : Nat) (m : z_M) : z_R := z_gP m v0 0 0 fun a15 => z_pl m a15 0 fun a16 => f_X0_loseOldest_L9 400 v0 a16 1 m
def f_X3_copy (v0 : Nat) (v1 : Nat) (m : z_M) : z_R := z_gP m v1 3 0 fun a1 => z_gP m v0 3 0 fun a2 => z_cp m a1 0 a2 0 8 fun m3 => z_gP m3 v1 3 1 fun a4 => z_gP m3 v0 3 1 fun a5 => z_cp m3 a4 0 a5 0 8 fun m6 => z_gI m6 v1 3 2 fun x7 => z_sI m6 v0 3 2 x7 fun m8 => z_gI m8 v1 3 3 fun x9 => z_sI m8 v0 3 3 x9 fun m10 => z_gI m10 v1 3 4 fun x11 => z_sI m10 v0 3 4 x11 fun m12 => z_gI m12 v1 3 5 fun x13 => z_sI m12 v0 3 5 x13 fun m14 => z_gI m14 v1 3 6 fun x15 => z_sI m14 v0 3 6 x15 fun m16 => z_gI m16 v1 3 7 fun x17 => z_sI m16 v0 3 7 x17 fun m18 => some (0, m18)
def f_X0_put_L16 (v0 : Nat) (v1 : Nat) (m : z_M) : z_R := z_gP m v0 0 0 fun a1 => z_gI m v0 0 1 fun x2 => z_pl m a1 x2 fun a3 => z_cv m a3 3 (f_X3_copy a3 v1 m) fun _ m4 => z_gI m4 v0 0 1 fun x5 => z_lt (x5 + 1) fun x6 => z_sI m4 v0 0 1 x6 fun m7 => some (0, m7)
def f_X0_put (v0 : Nat) (v1 : Nat) (m : z_M) : z_R := z_gI m v0 0 1 fun x8 => z_gP m v0 0 0 fun a9 => z_ln m a9 fun x10 => if x8 < x10 then (f_X0_put_L16 v0 v1 m) else (z_cv m v0 0 (f_X0_loseOldest v0 m) fun _ m11 => f_X0_put_L16 v0 v1 m11)
def f_X0_takeTop (v0 : Nat) (v1 : Nat) (m : z_M) : z_R := z_gI m v0 0 1 fun x1 => if 0 < x1 then (z_gI m v0 0 1 fun x2 => z_lt (x2 - 1) fun x3 => z_sI m v0 0 1 x3 fun m4 => z_gP m4 v0 0 0 fun a5 => z_gI m4 v0 0 1 fun x6 => z_pl m4 a5 x6 fun a7 => z_cv m4 v1 3 (f_X3_copy v1 a7 m4) fun _ m8 => some (1, m8)) else (some (0, m))
def f_X1_add (v0 : Nat) (v1 : Int32) (m : z_M) : z_R := z_gI m v0 1 1 fun x1 => z_gP m v0 1 0 fun a2 => z_ln m a2 fun x3 => if x1 < x3 then (z_gP m v0 1 0 fun a4 => z_gI m v0 1 1 fun x5 => z_cs m a4 x5 v1 fun m6 => z_gI m6 v0 1 1 fun x7 => z_lt (x7 + 1) fun x8 => z_sI m6 v0 1 1 x8 fun m9 => some (1, m9)) else (some (0, m))
def f_X1_clear (v0 : Nat) (m : z_M) : z_R := z_sI m v0 1 1 0 fun m1 => some (0, m1)
def f_X1_init (v0 : Nat) (m : z_M) : z_R := z_na m 7 200 fun a1 m2 => z_sP m2 v0 1 0 a1 fun m3 => z_na m3 6 4 fun a4 m5 => z_sP m5 v0 1 2 a4 fun m6 => some (0, m6)
def f_X1_isFigure (v0 : Nat) (v1 : Int32) (m : z_M) : z_R := z_gI m v0 1 1 fun x1 => if x1 ≤ v1 then (some (0, m)) else (z_gP m v0 1 0 fun a2 => z_cl m a2 v1 fun x3 => if x3 < 48 then (some (0, m)) else (z_gP m v0 1 0 fun a4 => z_cl m a4 v1 fun x5 => if 57 < x5 then (some (0, m)) else (some (1, m))))
def f_X1_numbersBehind_L20 (m : z_M) : z_R := some (1, m)
def f_X1_numbersBehind (v0 : Int32) (m : z_M) : z_R := if v0 = 109 then (some (4, m)) else (if v0 = 122 then (f_X1_numbersBehind_L20 m) else (if v0 = 101 then (f_X1_numbersBehind_L20 m) else (some (0, m))))
def f_X1_readNumber_L46 (v0 : Nat) (v2 : Int32) (v3 : Int32) (v4 : Int32) (m : z_M) : z_R := z_gP m v0 1 2 fun a1 => z_as m a1 v2 v3 fun m2 => some (v4, m2)
def f_X1_readNumber_L5 : Nat → Nat → Int32 → Int32 → Int32 → Int32 → z_M → z_R
  | 0, _, _, _, _, _, _ => none
  | n + 1, v0, v1, v2, v3, v4, m => if 2 ≤ v4 then (f_X1_readNumber_L46 v0 v2 v3 v4 m) else (z_cv m v0 1 (f_X1_isFigure v0 (v1 + v4) m) fun x3 m4 => if x3 = 0 then (f_X1_readNumber_L46 v0 v2 v3 v4 m4) else (z_gP m4 v0 1 0 fun a5 => z_cl m4 a5 (v1 + v4) fun x6 => z_lt ((v3 * 10) + (x6 - 48)) fun x7 => f_X1_readNumber_L5 n v0 v1 v2 x7 (v4 + 1) m4))
def f_X1_readNumber (v0 : Nat) (v1 : Int32) (v2 : Int32) (m : z_M) : z_R := f_X1_readNumber_L5 400 v0 v1 v2 0 0 m
def f_X2_takeMan (v0 : Nat) (v1 : Int32) (v2 : Int32) (v3 : Int32) (v4 : Int32) (m : z_M) : z_R := z_gI m v0 2 0 fun x1 => if 8 ≤ x1 then (some (0, m)) else (if 3 < v1 then (some (0, m)) else (if 4 ≤ v2 then (some (0, m)) else (if 8 ≤ v3 then (some (0, m)) else (if v4 ≤ 10 then (z_gP m v0 2 3 fun a2 => z_gI m v0 2 0 fun x3 => z_as m a2 x3 v1 fun m4 => z_gP m4 v0 2 4 fun a5 => z_gI m4 v0 2 0 fun x6 => z_as m4 a5 x6 v2 fun m7 => z_gP m7 v0 2 5 fun a8 => z_gI m7 v0 2 0 fun x9 => z_as m7 a8 x9 v3 fun m10 => z_gP m10 v0 2 6 fun a11 => z_gI m10 v0 2 0 fun x12 => z_as m10 a11 x12 v4 fun m13 => z_gI m13 v0 2 0 fun x14 => z_lt (x14 + 1) fun x15 => z_sI m13 v0 2 0 x15 fun m16 => some (1, m16)) else (some (0, m))))))
def f_X2_take (v0 : Nat) (v1 : Int32) (v2 : Nat) (m : z_M) : z_R := if v1 = 109 then (z_al m v2 0 fun x6 => z_al m v2 1 fun x7 => z_al m v2 2 fun x8 => z_al m v2 3 fun x9 => z_cv m v0 2 (f_X2_takeMan v0 x6 x7 x8 x9 m) fun x10 m11 => z_rz x10 m11) else (if v1 = 122 then (z_al m v2 0 fun x4 => z_sI m v0 2 1 x4 fun m5 => some (1, m5)) else (z_al m v2 0 fun x1 => if x1 ≤ 1 then (z_al m v2 0 fun x2 => z_sI m v0 2 2 x2 fun m3 => some (1, m3)) else (some (0, m))))
def f_X1_readItem_L68 (h28 : Nat → Nat → Int32 → Int32 → Int32 → Int32 → z_M → z_R) (v0 : Nat) (v2 : Nat) (v3 : Int32) (v4 : Int32) (v5 : Int32) (v6 : Int32) (v7 : Int32) (s0 : Int32) (m : z_M) : z_R := if v7 = 0 then (some ((-1), m)) else (z_gI m v0 1 1 fun x1 => if x1 ≤ v5 then (some ((-1), m)) else (z_gP m v0 1 0 fun a2 => z_cl m a2 v5 fun x3 => if x3 = s0 then (h28 v0 v2 v3 v4 (v5 + 1) (v6 + 1) m) else (some ((-1), m))))
def f_X1_readItem_L28 : Nat → Nat → Nat → Int32 → Int32 → Int32 → Int32 → z_M → z_R
  | 0, _, _, _, _, _, _, _ => none
  | n + 1, v0, v2, v3, v4, v5, v6, m => if v4 ≤ v6 then (z_gP m v0 1 2 fun a4 => z_cv m v2 2 (f_X2_take v2 v3 a4 m) fun x5 m6 => if x5 = 0 then (some ((-1), m6)) else (some (v5, m6))) else (z_cv m v0 1 (f_X1_readNumber v0 v5 v6 m) fun x7 m8 => z_lt (v5 + x7) fun x9 => if v6 = (v4 - 1) then (f_X1_readItem_L68 (f_X1_readItem_L28 n) v0 v2 v3 v4 x9 v6 x7 59 m8) else (f_X1_readItem_L68 (f_X1_readItem_L28 n) v0 v2 v3 v4 x9 v6 x7 44 m8))
def f_X1_readItem (v0 : Nat) (v1 : Int32) (v2 : Nat) (m : z_M) : z_R := z_gP m v0 1 0 fun a10 => z_cl m a10 v1 fun x11 => z_b (f_X1_numbersBehind x11 m) fun x12 m13 => if x12 = 0 then (some ((-1), m13)) else (z_lt (v1 + 1) fun x14 => f_X1_readItem_L28 400 v0 v2 x11 x12 x14 0 m13)
def f_X2_clear (v0 : Nat) (m : z_M) : z_R := z_sI m v0 2 0 0 fun m1 => z_sI m1 v0 2 1 0 fun m2 => z_sI m2 v0 2 2 0 fun m3 => some (0, m3)
def f_X1_readInto_L8 : Nat → Nat → Nat → Int32 → Int32 → z_M → z_R
  | 0, _, _, _, _, _ => none
  | n + 1, v0, v1, v2, v3, m => if 200 ≤ v3 then (some ((-4), m)) else (z_gI m v0 1 1 fun x1 => if x1 ≤ v2 then (some ((-4), m)) else (z_cv m v0 1 (f_X1_readItem v0 v2 v1 m) fun x2 m3 => if x2 = (-1) then (some (v2, m3)) else (f_X1_readInto_L8 n v0 v1 x2 (v3 + 1) m3)))
def f_X1_readInto (v0 : Nat) (v1 : Nat) (m : z_M) : z_R := z_cv m v1 2 (f_X2_clear v1 m) fun _ m4 => f_X1_readInto_L8 400 v0 v1 0 0 m4
def f_X2_canBeLaid_L2 : Nat → Nat → Int32 → z_M → z_R
  | 0, _, _, _ => none
  | n + 1, v0, v1, m => z_gI m v0 2 0 fun x1 => if x1 ≤ v1 then (z_gI m v0 2 0 fun x2 => if x2 ≤ 0 then (some (0, m)) else (some (1, m))) else (z_gP m v0 2 5 fun a3 => z_al m a3 v1 fun x4 => z_gI m v0 2 0 fun x5 => if x4 < x5 then (f_X2_canBeLaid_L2 n v0 (v1 + 1) m) else (some (0, m)))
def f_X2_canBeLaid (v0 : Nat) (m : z_M) : z_R := f_X2_canBeLaid_L2 400 v0 0 m
def f_X2_init (v0 : Nat) (m : z_M) : z_R := z_na m 6 8 fun a1 m2 => z_sP m2 v0 2 3 a1 fun m3 => z_na m3 6 8 fun a4 m5 => z_sP m5 v0 2 4 a4 fun m6 => z_na m6 6 8 fun a7 m8 => z_sP m8 v0 2 5 a7 fun m9 => z_na m9 6 8 fun a10 m11 => z_sP m11 v0 2 6 a10 fun m12 => some (0, m12)
def f_X3_begin (v0 : Nat) (v1 : Nat) (m : z_M) : z_R := z_gP m v1 2 4 fun a1 => z_gP m v0 3 0 fun a2 => z_cp m a1 0 a2 0 8 fun m3 => z_gP m3 v1 2 5 fun a4 => z_gP m3 v0 3 1 fun a5 => z_cp m3 a4 0 a5 0 8 fun m6 => z_gI m6 v1 2 2 fun x7 => z_sI m6 v0 3 2 x7 fun m8 => z_sI m8 v0 3 3 0 fun m9 => z_sI m9 v0 3 4 0 fun m10 => z_sI m10 v0 3 5 0 fun m11 => z_sI m11 v0 3 6 0 fun m12 => z_sI m12 v0 3 7 0 fun m13 => some (0, m13)
def f_X4_turnBy (v0 : Int32) (v1 : Int32) (v2 : Int32) (m : z_M) : z_R := if v0 = 2 then (some (v2, m)) else (if v0 = 1 then (some (4 - v1, m)) else (some (v1, m)))
def f_X4_addUpRow_L60 (h16 : Nat → Int32 → Int32 → Int32 → Int32 → Int32 → z_M → z_R) (v0 : Nat) (v3 : Int32) (v4 : Int32) (v5 : Int32) (v6 : Int32) (v7 : Int32) (v8 : Int32) (s0 : Int32) (m : z_M) : z_R := z_b (f_X4_turnBy 0 v8 s0 m) fun x1 m2 => z_lt (v3 + x1) fun x3 => z_b (f_X4_turnBy 1 v8 s0 m2) fun x4 m5 => z_lt (v4 + x4) fun x6 => z_b (f_X4_turnBy 2 v8 s0 m5) fun x7 m8 => z_lt (v5 + x7) fun x9 => h16 v0 x3 x6 x9 v6 (v7 + (-1)) m8
def f_X4_addUpRow_L16 : Nat → Nat → Int32 → Int32 → Int32 → Int32 → Int32 → z_M → z_R
  | 0, _, _, _, _, _, _, _ => none
  | n + 1, v0, v3, v4, v5, v6, v7, m => if v7 < 0 then (z_gP m v0 4 9 fun a10 => z_as m a10 0 v3 fun m11 => z_gP m11 v0 4 9 fun a12 => z_as m11 a12 1 v4 fun m13 => z_gP m13 v0 4 9 fun a14 => z_as m13 a14 2 v5 fun m15 => some (0, m15)) else (z_tl 0 (z_mI v6 3) fun x16 => z_lt (v6 / 3) fun x17 => if v7 = 0 then (z_gP m v0 4 3 fun a19 => z_gI m a19 3 4 fun x20 => f_X4_addUpRow_L60 (f_X4_addUpRow_L16 n) v0 v3 v4 v5 x17 v7 x16 x20 m) else (z_tl 0 (z_mI x17 3) fun x18 => f_X4_addUpRow_L60 (f_X4_addUpRow_L16 n) v0 v3 v4 v5 x17 v7 x16 x18 m))
def f_X4_addUpRow (v0 : Nat) (v1 : Int32) (v2 : Int32) (m : z_M) : z_R := z_lt (v2 - 1) fun x21 => f_X4_addUpRow_L16 400 v0 0 0 0 v1 x21 m
def f_X4_chainEnd_L5 : Nat → Nat → Int32 → Int32 → Int32 → z_M → z_R
  | 0, _, _, _, _, _ => none
  | n + 1, v0, v2, v3, v4, m => z_gP m v0 4 1 fun a1 => z_gI m a1 2 0 fun x2 => if x2 < v4 then (some ((-4), m)) else (if v3 = v2 then (some ((-4), m)) else (z_gP m v0 4 1 fun a3 => z_gP m a3 2 3 fun a4 => z_al m a4 v3 fun x5 => if x5 = 2 then (z_gP m v0 4 3 fun a6 => z_gP m a6 3 1 fun a7 => z_al m a7 v3 fun x8 => f_X4_chainEnd_L5 n v0 v2 x8 (v4 + 1) m) else (some (v3, m))))
def f_X4_chainEnd (v0 : Nat) (v1 : Int32) (v2 : Int32) (m : z_M) : z_R := f_X4_chainEnd_L5 400 v0 v2 v1 0 m
def f_X4_findLeaders_L52 (h2 : Nat → Int32 → z_M → z_R) (v0 : Nat) (v1 : Int32) (s0 : Int32) (s1 : Int32) (s2 : Nat) (m : z_M) : z_R := z_as m s2 s1 s0 fun m1 => h2 v0 (v1 + 1) m1
def f_X4_findLeaders_L35 (h2 : Nat → Int32 → z_M → z_R) (v0 : Nat) (v1 : Int32) (s0 : Int32) (m : z_M) : z_R := z_gP m v0 4 7 fun a2 => if s0 = (-4) then (f_X4_findLeaders_L52 h2 v0 v1 v1 v1 a2 m) else (f_X4_findLeaders_L52 h2 v0 v1 s0 v1 a2 m)
def f_X4_findLeaders_L2 : Nat → Nat → Int32 → z_M → z_R
  | 0, _, _, _ => none
  | n + 1, v0, v1, m => z_gP m v0 4 1 fun a3 => z_gI m a3 2 0 fun x4 => if x4 ≤ v1 then (some (0, m)) else (z_gP m v0 4 3 fun a5 => z_gI m a5 3 2 fun x6 => if x6 = 1 then (f_X4_findLeaders_L35 (f_X4_findLeaders_L2 n) v0 v1 v1 m) else (z_cv m v0 4 (f_X4_chainEnd v0 v1 (-4) m) fun x7 m8 => f_X4_findLeaders_L35 (f_X4_findLeaders_L2 n) v0 v1 x7 m8))
def f_X4_findLeaders (v0 : Nat) (m : z_M) : z_R := f_X4_findLeaders_L2 400 v0 0 m
def f_X4_isEither_L9 (m : z_M) : z_R := some (1, m)
def f_X4_isEither (v0 : Int32) (m : z_M) : z_R := if v0 = 0 then (f_X4_isEither_L9 m) else (if v0 = 1 then (f_X4_isEither_L9 m) else (some (0, m)))
def f_X4_isWord (v0 : Int32) (m : z_M) : z_R := if v0 < 0 then (some (0, m)) else (if 3 ≤ v0 then (some (0, m)) else (some (1, m)))
def f_X4_commonDivisor_L7 : Nat → Int32 → Int32 → Int32 → z_M → z_R
  | 0, _, _, _, _ => none
  | n + 1, v2, v3, v4, m => if 64 ≤ v4 then (some (v2, m)) else (if v3 = 0 then (some (v2, m)) else (z_rm' v2 v3 fun x1 => f_X4_commonDivisor_L7 n v3 x1 (v4 + 1) m))
def f_X4_commonDivisor (v0 : Int32) (v1 : Int32) (m : z_M) : z_R := f_X4_commonDivisor_L7 400 v0 v1 0 m
def f_X4_partInLowestTerms_L15 (v3 : Int32) (s0 : Int32) (m : z_M) : z_R := if v3 ≤ 0 then (some (s0, m)) else (z_dv s0 v3 fun x1 => some (x1, m))
def f_X4_partInLowestTerms (v0 : Int32) (v1 : Int32) (v2 : Int32) (m : z_M) : z_R := z_b (f_X4_commonDivisor v0 v1 m) fun x2 m3 => if v2 = 0 then (f_X4_partInLowestTerms_L15 x2 v0 m3) else (f_X4_partInLowestTerms_L15 x2 v1 m3)
def f_X4_isChancy_L26 (m : z_M) : z_R := some (1, m)
def f_X4_isChancy (v0 : Nat) (v1 : Int32) (m : z_M) : z_R := z_gP m v0 4 1 fun a1 => z_gP m a1 2 3 fun a2 => z_al m a2 v1 fun x3 => if x3 = 1 then (f_X4_isChancy_L26 m) else (z_gP m v0 4 1 fun a4 => z_gP m a4 2 3 fun a5 => z_al m a5 v1 fun x6 => if x6 = 2 then (f_X4_isChancy_L26 m) else (some (0, m)))
def f_X4_mannerOf (v0 : Nat) (v1 : Int32) (v2 : Int32) (m : z_M) : z_R := z_gP m v0 4 1 fun a1 => z_gP m a1 2 3 fun a2 => z_al m a2 v1 fun x3 => if x3 = 3 then (some (2, m)) else (z_cv m v0 4 (f_X4_isChancy v0 v1 m) fun x4 m5 => if x4 = 0 then (some (0, m5)) else (if v2 = 0 then (some (0, m5)) else (some (1, m5))))
def f_X4_waysOfManner (v0 : Nat) (v1 : Int32) (v2 : Int32) (m : z_M) : z_R := z_cv m v0 4 (f_X4_isChancy v0 v1 m) fun x1 m2 => if x1 = 0 then (z_cv m2 v0 4 (f_X4_mannerOf v0 v1 0 m2) fun x9 m10 => if v2 = x9 then (some (1, m10)) else (some (0, m10))) else (if v2 = 1 then (z_gP m2 v0 4 1 fun a6 => z_gP m2 a6 2 6 fun a7 => z_al m2 a7 v1 fun x8 => some (x8, m2)) else (if v2 = 0 then (z_gP m2 v0 4 1 fun a3 => z_gP m2 a3 2 6 fun a4 => z_al m2 a4 v1 fun x5 => some (10 - x5, m2)) else (some (0, m2))))
def f_X4_facingBy (v0 : Nat) (v1 : Int32) (v2 : Int32) (v3 : Int32) (m : z_M) : z_R := z_gP m v0 4 3 fun a1 => z_gP m a1 3 0 fun a2 => z_al m a2 v1 fun x3 => z_gP m v0 4 3 fun a4 => z_gI m a4 3 4 fun x5 => z_b (f_X4_turnBy v2 v3 x5 m) fun x6 m7 => some (z_mI (x3 + x6) 4, m7)
def f_X4_wouldLedFace_L41 (h3 : Nat → Int32 → Int32 → Int32 → Int32 → Int32 → z_M → z_R) (v0 : Nat) (v1 : Int32) (v2 : Int32) (v3 : Int32) (v4 : Int32) (v5 : Int32) (m : z_M) : z_R := h3 v0 v1 v2 v3 v4 (v5 + 1) m
def f_X4_wouldLedFace_L3 : Nat → Nat → Int32 → Int32 → Int32 → Int32 → Int32 → z_M → z_R
  | 0, _, _, _, _, _, _, _ => none
  | n + 1, v0, v1, v2, v3, v4, v5, m => z_gP m v0 4 1 fun a1 => z_gI m a1 2 0 fun x2 => if x2 ≤ v5 then (some (1, m)) else (z_gP m v0 4 7 fun a3 => z_al m a3 v5 fun x4 => if x4 = v1 then (z_cv m v0 4 (f_X4_facingBy v0 v5 v2 v4 m) fun x5 m6 => if x5 = v3 then (f_X4_wouldLedFace_L41 (f_X4_wouldLedFace_L3 n) v0 v1 v2 v3 v4 v5 m6) else (some (0, m6))) else (f_X4_wouldLedFace_L41 (f_X4_wouldLedFace_L3 n) v0 v1 v2 v3 v4 v5 m))
def f_X4_wouldLedFace (v0 : Nat) (v1 : Int32) (v2 : Int32) (v3 : Int32) (v4 : Int32) (m : z_M) : z_R := f_X4_wouldLedFace_L3 400 v0 v1 v2 v3 v4 0 m
def f_X4_waysLedFace_L36 (h6 : Nat → Int32 → Int32 → Int32 → Int32 → Int32 → z_M → z_R) (v0 : Nat) (v1 : Int32) (v2 : Int32) (v3 : Int32) (v4 : Int32) (v5 : Int32) (m : z_M) : z_R := h6 v0 v1 v2 v3 v4 (v5 + 1) m
def f_X4_waysLedFace_L6 : Nat → Nat → Int32 → Int32 → Int32 → Int32 → Int32 → z_M → z_R
  | 0, _, _, _, _, _, _, _ => none
  | n + 1, v0, v1, v2, v3, v4, v5, m => if 3 ≤ v5 then (some (v4, m)) else (z_cv m v0 4 (f_X4_wouldLedFace v0 v1 v5 v2 v3 m) fun x1 m2 => if x1 = 0 then (f_X4_waysLedFace_L36 (f_X4_waysLedFace_L6 n) v0 v1 v2 v3 v4 v5 m2) else (z_cv m2 v0 4 (f_X4_waysOfManner v0 v1 v5 m2) fun x3 m4 => z_lt (v4 + x3) fun x5 => f_X4_waysLedFace_L36 (f_X4_waysLedFace_L6 n) v0 v1 v2 v3 x5 v5 m4))
def f_X4_waysLedFace (v0 : Nat) (v1 : Int32) (v2 : Int32) (v3 : Int32) (m : z_M) : z_R := f_X4_waysLedFace_L6 400 v0 v1 v2 v3 0 0 m
def f_X4_waysAllFace_L40 (h5 : Nat → Int32 → Int32 → Int32 → Int32 → z_M → z_R) (v0 : Nat) (v1 : Int32) (v2 : Int32) (v3 : Int32) (v4 : Int32) (m : z_M) : z_R := h5 v0 v1 v2 v3 (v4 + 1) m
def f_X4_waysAllFace_L5 : Nat → Nat → Int32 → Int32 → Int32 → Int32 → z_M → z_R
  | 0, _, _, _, _, _, _ => none
  | n + 1, v0, v1, v2, v3, v4, m => z_gP m v0 4 1 fun a1 => z_gI m a1 2 0 fun x2 => if x2 ≤ v4 then (some (v3, m)) else (z_gP m v0 4 7 fun a3 => z_al m a3 v4 fun x4 => if x4 = v4 then (z_cv m v0 4 (f_X4_waysLedFace v0 v4 v1 v2 m) fun x5 m6 => z_lt (v3 * x5) fun x7 => f_X4_waysAllFace_L40 (f_X4_waysAllFace_L5 n) v0 v1 v2 x7 v4 m6) else (f_X4_waysAllFace_L40 (f_X4_waysAllFace_L5 n) v0 v1 v2 v3 v4 m))
def f_X4_waysAllFace (v0 : Nat) (v1 : Int32) (v2 : Int32) (m : z_M) : z_R := f_X4_waysAllFace_L5 400 v0 v1 v2 1 0 m
def f_X4_waysToTurn (v0 : Nat) (v1 : Int32) (m : z_M) : z_R := z_cv m v0 4 (f_X4_isChancy v0 v1 m) fun x1 m2 => if x1 = 0 then (some (1, m2)) else (some (10, m2))
def f_X4_alike_L92 (h57 : Nat → Int32 → Int32 → Int32 → Int32 → z_M → z_R) (v0 : Nat) (v2 : Int32) (v3 : Int32) (v4 : Int32) (v5 : Int32) (m : z_M) : z_R := h57 v0 v2 v3 v4 (v5 + 1) m
def f_X4_alike_L57 : Nat → Nat → Int32 → Int32 → Int32 → Int32 → z_M → z_R
  | 0, _, _, _, _, _, _ => none
  | n + 1, v0, v2, v3, v4, v5, m => z_gP m v0 4 1 fun a1 => z_gI m a1 2 0 fun x2 => if x2 ≤ v5 then (z_b (f_X4_partInLowestTerms v3 v4 v2 m) fun x3 m4 => some (x3, m4)) else (z_gP m v0 4 7 fun a5 => z_al m a5 v5 fun x6 => if x6 = v5 then (z_cv m v0 4 (f_X4_waysToTurn v0 v5 m) fun x7 m8 => z_lt (v4 * x7) fun x9 => f_X4_alike_L92 (f_X4_alike_L57 n) v0 v2 v3 x9 v5 m8) else (f_X4_alike_L92 (f_X4_alike_L57 n) v0 v2 v3 v4 v5 m))
def f_X4_alike_L25 : Nat → Nat → Int32 → Int32 → Int32 → Int32 → z_M → z_R
  | 0, _, _, _, _, _, _ => none
  | n + 1, v0, v1, v2, v3, v4, m => if 4 ≤ v4 then (f_X4_alike_L57 400 v0 v2 v3 1 0 m) else (z_tl 0 v1 fun x10 => z_cv m v0 4 (f_X4_waysAllFace v0 v4 x10 m) fun x11 m12 => z_lt (v3 + x11) fun x13 => f_X4_alike_L25 n v0 v1 v2 x13 (v4 + 1) m12)
def f_X4_alike (v0 : Nat) (v1 : Int32) (v2 : Int32) (m : z_M) : z_R := z_b (f_X4_isWord v1 m) fun x14 m15 => if x14 = 0 then (some ((-1), m15)) else (z_b (f_X4_isEither v2 m15) fun x16 m17 => if x16 = 0 then (some ((-1), m17)) else (z_cv m17 v0 4 (f_X4_findLeaders v0 m17) fun _ m18 => f_X4_alike_L25 400 v0 v1 v2 0 0 m18))
def f_X4_back (v0 : Nat) (m : z_M) : z_R := z_gP m v0 4 6 fun a1 => z_gP m v0 4 3 fun a2 => z_cv m a1 0 (f_X0_takeTop a1 a2 m) fun x3 m4 => if x3 = 0 then (some ((-2), m4)) else (z_gP m4 v0 4 5 fun a5 => z_sI m4 a5 0 1 0 fun m6 => z_gP m6 v0 4 6 fun a7 => z_gI m6 a7 0 1 fun x8 => some (x8, m6))
def f_X4_count (v0 : Nat) (v1 : Int32) (m : z_M) : z_R := if v1 = 0 then (z_gP m v0 4 1 fun a1 => z_gI m a1 2 0 fun x2 => some (x2, m)) else if v1 = 1 then (z_gP m v0 4 3 fun a3 => z_gI m a3 3 3 fun x4 => some (x4, m)) else if v1 = 2 then (z_gP m v0 4 3 fun a5 => z_gI m a5 3 2 fun x6 => some (x6, m)) else if v1 = 3 then (z_gP m v0 4 5 fun a7 => z_gI m a7 0 1 fun x8 => some (x8, m)) else if v1 = 4 then (z_gP m v0 4 6 fun a9 => z_gI m a9 0 1 fun x10 => some (x10, m)) else if v1 = 5 then (z_gP m v0 4 0 fun a11 => z_gI m a11 1 1 fun x12 => some (x12, m)) else (some ((-1), m))
def f_X4_drawOf (v0 : Int64) (m : z_M) : z_R := some (Int64.toInt32 ((z_mL (v0 * v0) 65521) / 8), m)
def f_X4_isAlike_L2 : Nat → Nat → Nat → Int32 → z_M → z_R
  | 0, _, _, _, _ => none
  | n + 1, v0, v1, v2, m => z_gP m v0 4 1 fun a1 => z_gI m a1 2 0 fun x2 => if x2 ≤ v2 then (some (1, m)) else (z_gP m v1 3 0 fun a3 => z_al m a3 v2 fun x4 => z_gP m v1 3 0 fun a5 => z_al m a5 0 fun x6 => if x4 = x6 then (f_X4_isAlike_L2 n v0 v1 (v2 + 1) m) else (some (0, m)))
def f_X4_isAlike (v0 : Nat) (v1 : Nat) (m : z_M) : z_R := f_X4_isAlike_L2 400 v0 v1 1 m
def f_X4_errsByDraw (v0 : Nat) (v1 : Int32) (v2 : Int32) (m : z_M) : z_R := z_gP m v0 4 1 fun a1 => z_gI m a1 2 1 fun x2 => z_lL ((((7919 * (Int32.toInt64 x2)) + (6151 * (Int32.toInt64 v2))) + (3571 * (Int32.toInt64 v1))) + 1) fun l3 => z_b (f_X4_drawOf l3 m) fun x4 m5 => z_gP m5 v0 4 1 fun a6 => z_gP m5 a6 2 6 fun a7 => z_al m5 a7 v1 fun x8 => if x8 ≤ (z_mI x4 10) then (some (0, m5)) else (some (1, m5))
def f_X4_say_L99 (h9 : Nat → Nat → Int32 → Int32 → z_M → z_R) (v0 : Nat) (v1 : Nat) (v3 : Int32) (v4 : Int32) (m : z_M) : z_R := h9 v0 v1 v3 (v4 + 1) m
def f_X4_say_L9 : Nat → Nat → Nat → Int32 → Int32 → z_M → z_R
  | 0, _, _, _, _, _ => none
  | n + 1, v0, v1, v3, v4, m => z_gP m v0 4 1 fun a1 => z_gI m a1 2 0 fun x2 => if x2 ≤ v4 then (z_gI m v1 3 3 fun x3 => z_lt (x3 + 1) fun x4 => z_sI m v1 3 3 x4 fun m5 => z_sI m5 v1 3 4 v3 fun m6 => z_gI m6 v1 3 5 fun x7 => z_lt (z_mI (x7 + v3) 4) fun x8 => z_sI m6 v1 3 5 x8 fun m9 => some (0, m9)) else (z_gP m v0 4 7 fun a10 => z_al m a10 v4 fun x11 => z_gI m v1 3 3 fun x12 => z_cv m v0 4 (f_X4_errsByDraw v0 x11 x12 m) fun x13 m14 => z_gP m14 v0 4 7 fun a15 => z_al m14 a15 v4 fun x16 => z_cv m14 v0 4 (f_X4_mannerOf v0 x16 x13 m14) fun x17 m18 => z_gI m18 v1 3 4 fun x19 => z_b (f_X4_turnBy x17 v3 x19 m18) fun x20 m21 => z_gP m21 v1 3 0 fun a22 => z_gP m21 v1 3 0 fun a23 => z_al m21 a23 v4 fun x24 => z_lt (z_mI (x24 + x20) 4) fun x25 => z_as m21 a22 v4 x25 fun m26 => if x20 = v3 then (f_X4_say_L99 (f_X4_say_L9 n) v0 v1 v3 v4 m26) else (z_gI m26 v1 3 6 fun x27 => z_lt (x27 ||| (1 <<< (v4 &&& 31))) fun x28 => z_sI m26 v1 3 6 x28 fun m29 => f_X4_say_L99 (f_X4_say_L9 n) v0 v1 v3 v4 m29))
def f_X4_say (v0 : Nat) (v1 : Nat) (v2 : Int32) (m : z_M) : z_R := z_tl 0 v2 fun x30 => f_X4_say_L9 400 v0 v1 x30 0 m
def f_X4_dueFacing (v0 : Nat) (v1 : Nat) (v2 : Int32) (m : z_M) : z_R := z_gP m v0 4 1 fun a1 => z_gP m a1 2 4 fun a2 => z_al m a2 v2 fun x3 => z_gI m v1 3 5 fun x4 => some (z_mI (x3 + x4) 4, m)
def f_X4_wrongMen_L36 (h4 : Nat → Nat → Int32 → Int32 → z_M → z_R) (v0 : Nat) (v1 : Nat) (v2 : Int32) (v3 : Int32) (m : z_M) : z_R := h4 v0 v1 v2 (v3 + 1) m
def f_X4_wrongMen_L4 : Nat → Nat → Nat → Int32 → Int32 → z_M → z_R
  | 0, _, _, _, _, _ => none
  | n + 1, v0, v1, v2, v3, m => z_gP m v0 4 1 fun a1 => z_gI m a1 2 0 fun x2 => if x2 ≤ v3 then (some (v2, m)) else (z_gP m v1 3 0 fun a3 => z_al m a3 v3 fun x4 => z_cv m v0 4 (f_X4_dueFacing v0 v1 v3 m) fun x5 m6 => if x4 = x5 then (f_X4_wrongMen_L36 (f_X4_wrongMen_L4 n) v0 v1 v2 v3 m6) else (z_lt (v2 ||| (1 <<< (v3 &&& 31))) fun x7 => f_X4_wrongMen_L36 (f_X4_wrongMen_L4 n) v0 v1 x7 v3 m6))
def f_X4_wrongMen (v0 : Nat) (v1 : Nat) (m : z_M) : z_R := f_X4_wrongMen_L4 400 v0 v1 0 0 m
def f_X4_drill_L101 (h52 : Nat → Int32 → Int32 → Int32 → Int32 → Int32 → z_M → z_R) (v0 : Nat) (v1 : Int32) (v2 : Int32) (v3 : Int32) (v4 : Int32) (v5 : Int32) (m : z_M) : z_R := h52 v0 v1 v2 v3 v4 (v5 + 1) m
def f_X4_drill_L52 : Nat → Nat → Int32 → Int32 → Int32 → Int32 → Int32 → z_M → z_R
  | 0, _, _, _, _, _, _, _ => none
  | n + 1, v0, v1, v2, v3, v4, v5, m => if v2 ≤ v5 then (if v3 = 0 then (z_gP m v0 4 4 fun a1 => z_cv m v0 4 (f_X4_wrongMen v0 a1 m) fun x2 m3 => z_b (f_J6_bitCount_0f7a4 x2 m3) fun x4 m5 => some (x4, m5)) else (some (v4, m))) else (z_gP m v0 4 4 fun a6 => z_b (f_X4_drawOf (((7919 * (Int32.toInt64 v1)) + (6151 * (Int32.toInt64 v5))) + 1) m) fun x7 m8 => z_cv m8 v0 4 (f_X4_say v0 a6 (z_mI x7 3) m8) fun _ m9 => z_gP m9 v0 4 4 fun a10 => z_cv m9 v0 4 (f_X4_isAlike v0 a10 m9) fun x11 m12 => if x11 = 0 then (f_X4_drill_L101 (f_X4_drill_L52 n) v0 v1 v2 v3 v4 v5 m12) else (f_X4_drill_L101 (f_X4_drill_L52 n) v0 v1 v2 v3 (v4 + 1) v5 m12))
def f_X4_drill (v0 : Nat) (v1 : Int32) (v2 : Int32) (v3 : Int32) (m : z_M) : z_R := if v1 < 0 then (some ((-1), m)) else (if 9999 < v1 then (some ((-1), m)) else (if v2 < 1 then (some ((-1), m)) else (if 60 < v2 then (some ((-1), m)) else (z_b (f_X4_isEither v3 m) fun x13 m14 => if x13 = 0 then (some ((-1), m14)) else (z_cv m14 v0 4 (f_X4_findLeaders v0 m14) fun _ m15 => z_gP m15 v0 4 4 fun a16 => z_gP m15 v0 4 3 fun a17 => z_cv m15 a16 3 (f_X3_copy a16 a17 m15) fun _ m18 => f_X4_drill_L52 400 v0 v1 v2 v3 0 0 m18)))))
def f_X4_eyes (v0 : Nat) (v1 : Int32) (m : z_M) : z_R := z_b (f_X4_isEither v1 m) fun x1 m2 => if x1 = 0 then (some ((-1), m2)) else (z_gP m2 v0 4 5 fun a3 => z_gP m2 v0 4 3 fun a4 => z_cv m2 a3 0 (f_X0_put a3 a4 m2) fun _ m5 => z_gP m5 v0 4 3 fun a6 => z_gI m5 a6 3 2 fun x7 => z_gP m5 v0 4 3 fun a8 => z_sI m5 a8 3 2 v1 fun m9 => some (x7, m9))
def f_X4_facingForeseen (v0 : Nat) (v1 : Int32) (v2 : Int32) (m : z_M) : z_R := z_gP m v0 4 8 fun a1 => z_al m a1 v1 fun x2 => z_tl 0 v2 fun x3 => z_cv m v0 4 (f_X4_facingBy v0 v1 x2 x3 m) fun x4 m5 => some (x4, m5)
def f_X4_fault (v0 : Nat) (m : z_M) : z_R := z_gP m v0 4 0 fun a1 => z_gP m v0 4 2 fun a2 => z_cv m a1 1 (f_X1_readInto a1 a2 m) fun x3 m4 => some (x3, m4)
def f_X4_findManners_L52 (h6 : Nat → Int32 → z_M → z_R) (v0 : Nat) (v1 : Int32) (s0 : Int32) (s1 : Int32) (s2 : Nat) (s3 : Int32) (s4 : Nat) (m : z_M) : z_R := z_cv m s2 4 (f_X4_mannerOf s2 s1 s0 m) fun x1 m2 => z_as m2 s4 s3 x1 fun m3 => h6 v0 (v1 + 1) m3
def f_X4_findManners_L6 : Nat → Nat → Int32 → z_M → z_R
  | 0, _, _, _ => none
  | n + 1, v0, v1, m => z_gP m v0 4 1 fun a4 => z_gI m a4 2 0 fun x5 => if x5 ≤ v1 then (some (0, m)) else (z_gP m v0 4 8 fun a6 => z_gP m v0 4 7 fun a7 => z_al m a7 v1 fun x8 => z_gP m v0 4 1 fun a9 => z_gP m a9 2 6 fun a10 => z_gP m v0 4 7 fun a11 => z_al m a11 v1 fun x12 => z_al m a10 x12 fun x13 => if x13 < 5 then (f_X4_findManners_L52 (f_X4_findManners_L6 n) v0 v1 0 x8 v0 v1 a6 m) else (f_X4_findManners_L52 (f_X4_findManners_L6 n) v0 v1 1 x8 v0 v1 a6 m))
def f_X4_findManners (v0 : Nat) (m : z_M) : z_R := z_cv m v0 4 (f_X4_findLeaders v0 m) fun _ m14 => f_X4_findManners_L6 400 v0 0 m14
def f_X4_isRowAlike_L33 : Nat → Nat → Int32 → Int32 → z_M → z_R
  | 0, _, _, _, _ => none
  | n + 1, v0, v3, v4, m => z_gP m v0 4 1 fun a1 => z_gI m a1 2 0 fun x2 => if x2 ≤ v4 then (some (1, m)) else (z_gP m v0 4 3 fun a3 => z_gP m a3 3 0 fun a4 => z_al m a4 v4 fun x5 => z_gP m v0 4 9 fun a6 => z_gP m v0 4 8 fun a7 => z_al m a7 v4 fun x8 => z_al m a6 x8 fun x9 => if (z_mI (x5 + x9) 4) = v3 then (f_X4_isRowAlike_L33 n v0 v3 (v4 + 1) m) else (some (0, m)))
def f_X4_isRowAlike (v0 : Nat) (v1 : Int32) (v2 : Int32) (m : z_M) : z_R := z_cv m v0 4 (f_X4_addUpRow v0 v1 v2 m) fun _ m10 => z_gP m10 v0 4 3 fun a11 => z_gP m10 a11 3 0 fun a12 => z_al m10 a12 0 fun x13 => z_gP m10 v0 4 9 fun a14 => z_gP m10 v0 4 8 fun a15 => z_al m10 a15 0 fun x16 => z_al m10 a14 x16 fun x17 => z_lt (z_mI (x13 + x17) 4) fun x18 => f_X4_isRowAlike_L33 400 v0 x18 1 m10
def f_X4_firstRowAlike_L2 : Nat → Nat → Int32 → Int32 → z_M → z_R
  | 0, _, _, _, _ => none
  | n + 1, v0, v1, v2, m => z_tl 1 v1 fun x1 => if x1 ≤ v2 then (some ((-4), m)) else (z_cv m v0 4 (f_X4_isRowAlike v0 v2 v1 m) fun x2 m3 => if x2 = 0 then (f_X4_firstRowAlike_L2 n v0 v1 (v2 + 1) m3) else (some (v2, m3)))
def f_X4_firstRowAlike (v0 : Nat) (v1 : Int32) (m : z_M) : z_R := f_X4_firstRowAlike_L2 400 v0 v1 0 m
def f_X4_isMan (v0 : Nat) (v1 : Int32) (m : z_M) : z_R := if v1 < 0 then (some (0, m)) else (z_gP m v0 4 1 fun a1 => z_gI m a1 2 0 fun x2 => if x2 ≤ v1 then (some (0, m)) else (some (1, m)))
def f_X4_follows (v0 : Nat) (v1 : Int32) (m : z_M) : z_R := z_cv m v0 4 (f_X4_isMan v0 v1 m) fun x1 m2 => if x1 = 0 then (some ((-1), m2)) else (z_gP m2 v0 4 3 fun a3 => z_gI m2 a3 3 2 fun x4 => if x4 = 1 then (some (v1, m2)) else (z_cv m2 v0 4 (f_X4_chainEnd v0 v1 (-4) m2) fun x5 m6 => some (x5, m6)))
def f_X4_groups_L67 (h19 : Nat → Int32 → Int32 → Int32 → Int32 → Int32 → z_M → z_R) (v0 : Nat) (v1 : Int32) (v2 : Int32) (v3 : Int32) (v4 : Int32) (v5 : Int32) (m : z_M) : z_R := z_lt (v4 + 1) fun x1 => z_lt (z_mx v3 x1) fun x2 => h19 v0 v1 v2 x2 (v4 + 1) (v5 + 1) m
def f_X4_groups_L61 (h19 : Nat → Int32 → Int32 → Int32 → Int32 → Int32 → z_M → z_R) (v0 : Nat) (v1 : Int32) (v2 : Int32) (v3 : Int32) (v5 : Int32) (m : z_M) : z_R := f_X4_groups_L67 h19 v0 v1 (v2 + 1) v3 0 v5 m
def f_X4_groups_L19 : Nat → Nat → Int32 → Int32 → Int32 → Int32 → Int32 → z_M → z_R
  | 0, _, _, _, _, _, _, _ => none
  | n + 1, v0, v1, v2, v3, v4, v5, m => z_gP m v0 4 1 fun a3 => z_gI m a3 2 0 fun x4 => if x4 ≤ v5 then (if v1 = 0 then (some (v2, m)) else (some (v3, m))) else (if v5 = 0 then (f_X4_groups_L61 (f_X4_groups_L19 n) v0 v1 v2 v3 v5 m) else (z_gP m v0 4 3 fun a5 => z_gP m a5 3 0 fun a6 => z_al m a6 v5 fun x7 => z_gP m v0 4 3 fun a8 => z_gP m a8 3 0 fun a9 => z_al m a9 (v5 - 1) fun x10 => if x7 = x10 then (f_X4_groups_L67 (f_X4_groups_L19 n) v0 v1 v2 v3 v4 v5 m) else (f_X4_groups_L61 (f_X4_groups_L19 n) v0 v1 v2 v3 v5 m)))
def f_X4_groups (v0 : Nat) (v1 : Int32) (m : z_M) : z_R := z_b (f_X4_isEither v1 m) fun x11 m12 => if x11 = 0 then (some ((-1), m12)) else (f_X4_groups_L19 400 v0 v1 0 0 0 0 m12)
def f_X4_heeds (v0 : Nat) (v1 : Int32) (v2 : Int32) (m : z_M) : z_R := z_gP m v0 4 3 fun a1 => z_gI m a1 3 2 fun x2 => if x2 = 0 then (z_cv m v0 4 (f_X4_chainEnd v0 v1 (-4) m) fun x3 m4 => if x3 = (-4) then (some (0, m4)) else (z_cv m4 v0 4 (f_X4_chainEnd v0 v1 v2 m4) fun x5 m6 => if x5 = (-4) then (some (1, m6)) else (some (0, m6)))) else (some (0, m))
def f_X4_layScript (v0 : Nat) (m : z_M) : z_R := z_gP m v0 4 0 fun a1 => z_gP m v0 4 2 fun a2 => z_cv m a1 1 (f_X1_readInto a1 a2 m) fun x3 m4 => if x3 = (-4) then (z_gP m4 v0 4 2 fun a5 => z_cv m4 a5 2 (f_X2_canBeLaid a5 m4) fun x6 m7 => if x6 = 0 then (some (0, m7)) else (z_gP m7 v0 4 1 fun a8 => z_gP m7 v0 4 2 fun a9 => z_sP m7 v0 4 1 a9 fun m10 => z_sP m10 v0 4 2 a8 fun m11 => z_gP m11 v0 4 3 fun a12 => z_gP m11 v0 4 1 fun a13 => z_cv m11 a12 3 (f_X3_begin a12 a13 m11) fun _ m14 => z_gP m14 v0 4 5 fun a15 => z_sI m14 a15 0 1 0 fun m16 => z_gP m16 v0 4 6 fun a17 => z_sI m16 a17 0 1 0 fun m18 => some (1, m18))) else (some (0, m4))
def f_X4_init_L109 : Nat → Nat → Int32 → z_M → z_R
  | 0, _, _, _ => none
  | n + 1, v0, v1, m => z_b (f_strLen m) fun x1 m2 => if x1 ≤ v1 then (z_cv m2 v0 4 (f_X4_layScript v0 m2) fun x3 m4 => z_gP m4 v0 4 0 fun a5 => z_cv m4 a5 1 (f_X1_clear a5 m4) fun _ m6 => some (0, m6)) else (z_gP m2 v0 4 0 fun a7 => z_b (f_strAt v1 m2) fun x8 m9 => z_cv m9 a7 1 (f_X1_add a7 x8 m9) fun x10 m11 => f_X4_init_L109 n v0 (v1 + 1) m11)
def f_X4_init (v0 : Nat) (m : z_M) : z_R := z_no m 1 fun a12 m13 => z_b (f_X1_init a12 m13) fun _ m14 => z_sP m14 v0 4 0 a12 fun m15 => z_no m15 2 fun a16 m17 => z_b (f_X2_init a16 m17) fun _ m18 => z_sP m18 v0 4 1 a16 fun m19 => z_no m19 2 fun a20 m21 => z_b (f_X2_init a20 m21) fun _ m22 => z_sP m22 v0 4 2 a20 fun m23 => z_no m23 3 fun a24 m25 => z_b (f_X3_init a24 m25) fun _ m26 => z_sP m26 v0 4 3 a24 fun m27 => z_no m27 3 fun a28 m29 => z_b (f_X3_init a28 m29) fun _ m30 => z_sP m30 v0 4 4 a28 fun m31 => z_no m31 0 fun a32 m33 => z_b (f_X0_init a32 8 m33) fun _ m34 => z_sP m34 v0 4 5 a32 fun m35 => z_no m35 0 fun a36 m37 => z_b (f_X0_init a36 2 m37) fun _ m38 => z_sP m38 v0 4 6 a36 fun m39 => z_na m39 6 8 fun a40 m41 => z_sP m41 v0 4 7 a40 fun m42 => z_na m42 6 8 fun a43 m44 => z_sP m44 v0 4 8 a43 fun m45 => z_na m45 6 3 fun a46 m47 => z_sP m47 v0 4 9 a46 fun m48 => f_X4_init_L109 400 v0 0 m48
def f_X4_keep (v0 : Nat) (m : z_M) : z_R := z_gP m v0 4 6 fun a1 => z_gI m a1 0 1 fun x2 => if x2 < 2 then (z_gP m v0 4 6 fun a3 => z_gP m v0 4 3 fun a4 => z_cv m a3 0 (f_X0_put a3 a4 m) fun _ m5 => z_gP m5 v0 4 6 fun a6 => z_gI m5 a6 0 1 fun x7 => some (x7, m5)) else (some ((-3), m))
def f_X4_lay (v0 : Nat) (m : z_M) : z_R := z_cv m v0 4 (f_X4_layScript v0 m) fun x1 m2 => if x1 = 0 then (some ((-2), m2)) else (z_gP m2 v0 4 1 fun a3 => z_gI m2 a3 2 0 fun x4 => some (x4, m2))
def f_X4_look (v0 : Nat) (v1 : Int32) (v2 : Int32) (m : z_M) : z_R := z_cv m v0 4 (f_X4_isMan v0 v1 m) fun x1 m2 => if x1 = 0 then (some ((-1), m2)) else (z_cv m2 v0 4 (f_X4_isMan v0 v2 m2) fun x3 m4 => if x3 = 0 then (some ((-1), m4)) else (z_gP m4 v0 4 5 fun a5 => z_gP m4 v0 4 3 fun a6 => z_cv m4 a5 0 (f_X0_put a5 a6 m4) fun _ m7 => z_gP m7 v0 4 3 fun a8 => z_gP m7 a8 3 1 fun a9 => z_al m7 a9 v1 fun x10 => z_gP m7 v0 4 3 fun a11 => z_gP m7 a11 3 1 fun a12 => z_as m7 a12 v1 v2 fun m13 => some (x10, m13)))
def f_X4_man (v0 : Nat) (v1 : Int32) (v2 : Int32) (m : z_M) : z_R := z_cv m v0 4 (f_X4_isMan v0 v1 m) fun x1 m2 => if x1 = 0 then (some ((-1), m2)) else (if v2 = 0 then (z_gP m2 v0 4 1 fun a3 => z_gP m2 a3 2 3 fun a4 => z_al m2 a4 v1 fun x5 => some (x5, m2)) else if v2 = 1 then (z_gP m2 v0 4 3 fun a6 => z_gP m2 a6 3 0 fun a7 => z_al m2 a7 v1 fun x8 => some (x8, m2)) else if v2 = 2 then (z_gP m2 v0 4 3 fun a9 => z_gP m2 a9 3 1 fun a10 => z_al m2 a10 v1 fun x11 => some (x11, m2)) else if v2 = 3 then (z_gP m2 v0 4 1 fun a12 => z_gP m2 a12 2 6 fun a13 => z_al m2 a13 v1 fun x14 => some (x14, m2)) else if v2 = 4 then (z_gP m2 v0 4 3 fun a15 => z_cv m2 v0 4 (f_X4_dueFacing v0 a15 v1 m2) fun x16 m17 => some (x16, m17)) else (some ((-1), m2)))
def f_X4_menFacing_L31 (h4 : Nat → Int32 → Int32 → Int32 → z_M → z_R) (v0 : Nat) (v1 : Int32) (v2 : Int32) (v3 : Int32) (m : z_M) : z_R := h4 v0 v1 v2 (v3 + 1) m
def f_X4_menFacing_L4 : Nat → Nat → Int32 → Int32 → Int32 → z_M → z_R
  | 0, _, _, _, _, _ => none
  | n + 1, v0, v1, v2, v3, m => z_gP m v0 4 1 fun a1 => z_gI m a1 2 0 fun x2 => if x2 ≤ v3 then (some (v2, m)) else (z_gP m v0 4 3 fun a3 => z_gP m a3 3 0 fun a4 => z_al m a4 v3 fun x5 => if x5 = v1 then (f_X4_menFacing_L31 (f_X4_menFacing_L4 n) v0 v1 (v2 + 1) v3 m) else (f_X4_menFacing_L31 (f_X4_menFacing_L4 n) v0 v1 v2 v3 m))
def f_X4_menFacing (v0 : Nat) (v1 : Int32) (m : z_M) : z_R := f_X4_menFacing_L4 400 v0 v1 0 0 m
def f_X4_most_L33 (h13 : Nat → Int32 → Int32 → Int32 → z_M → z_R) (v0 : Nat) (v1 : Int32) (v2 : Int32) (v3 : Int32) (m : z_M) : z_R := h13 v0 v1 v2 (v3 + 1) m
def f_X4_most_L13 : Nat → Nat → Int32 → Int32 → Int32 → z_M → z_R
  | 0, _, _, _, _, _ => none
  | n + 1, v0, v1, v2, v3, m => if 4 ≤ v3 then (if v1 = 0 then (some (v2, m)) else (z_cv m v0 4 (f_X4_menFacing v0 v2 m) fun x1 m2 => some (x1, m2))) else (z_cv m v0 4 (f_X4_menFacing v0 v3 m) fun x3 m4 => z_cv m4 v0 4 (f_X4_menFacing v0 v2 m4) fun x5 m6 => if x3 ≤ x5 then (f_X4_most_L33 (f_X4_most_L13 n) v0 v1 v2 v3 m6) else (f_X4_most_L33 (f_X4_most_L13 n) v0 v1 v3 v3 m6))
def f_X4_most (v0 : Nat) (v1 : Int32) (m : z_M) : z_R := z_b (f_X4_isEither v1 m) fun x7 m8 => if x7 = 0 then (some ((-1), m8)) else (f_X4_most_L13 400 v0 v1 0 1 m8)
def f_X4_numbers_L41 (h20 : Nat → Int32 → Int32 → Int32 → z_M → z_R) (v0 : Nat) (v1 : Int32) (v2 : Int32) (v3 : Int32) (m : z_M) : z_R := h20 v0 v1 v2 (v3 + 1) m
def f_X4_numbers_L20 : Nat → Nat → Int32 → Int32 → Int32 → z_M → z_R
  | 0, _, _, _, _, _ => none
  | n + 1, v0, v1, v2, v3, m => z_tl 1 v1 fun x1 => if x1 ≤ v3 then (some (v2, m)) else (z_cv m v0 4 (f_X4_isRowAlike v0 v3 v1 m) fun x2 m3 => if x2 = 0 then (f_X4_numbers_L41 (f_X4_numbers_L20 n) v0 v1 v2 v3 m3) else (f_X4_numbers_L41 (f_X4_numbers_L20 n) v0 v1 (v2 + 1) v3 m3))
def f_X4_numbers (v0 : Nat) (v1 : Int32) (m : z_M) : z_R := if v1 < 1 then (some ((-1), m)) else (if v1 ≤ 5 then (z_cv m v0 4 (f_X4_findManners v0 m) fun _ m4 => f_X4_numbers_L20 400 v0 v1 0 0 m4) else (some ((-1), m)))
def f_X4_wordOfRow_L15 : Nat → Int32 → Int32 → Int32 → z_M → z_R
  | 0, _, _, _, _ => none
  | n + 1, v2, v3, v4, m => if v4 ≤ v2 then (some (z_mI v3 3, m)) else (z_lt (v3 / 3) fun x1 => f_X4_wordOfRow_L15 n v2 x1 (v4 + (-1)) m)
def f_X4_wordOfRow (v0 : Int32) (v1 : Int32) (v2 : Int32) (m : z_M) : z_R := if v2 < v1 then (z_lt (v1 - 1) fun x2 => f_X4_wordOfRow_L15 400 v2 v0 x2 m) else (some ((-4), m))
def f_X4_plan_L18 : Nat → Nat → Int32 → Int32 → z_M → z_R
  | 0, _, _, _, _ => none
  | n + 1, v0, v1, v2, m => if 5 < v2 then (some ((-4), m)) else (z_cv m v0 4 (f_X4_firstRowAlike v0 v2 m) fun x1 m2 => if x1 = (-4) then (f_X4_plan_L18 n v0 v1 (v2 + 1) m2) else (if v1 = (-1) then (some (v2, m2)) else (z_b (f_X4_wordOfRow x1 v2 v1 m2) fun x3 m4 => some (x3, m4))))
def f_X4_plan (v0 : Nat) (v1 : Int32) (m : z_M) : z_R := if v1 < (-1) then (some ((-1), m)) else (if v1 < 5 then (z_cv m v0 4 (f_X4_findManners v0 m) fun _ m5 => f_X4_plan_L18 400 v0 v1 0 m5) else (some ((-1), m)))
def f_X4_right_L94 (h57 : Nat → Int32 → Int32 → Int32 → Int32 → Int32 → Int32 → z_M → z_R) (v0 : Nat) (v1 : Int32) (v3 : Int32) (v4 : Int32) (v5 : Int32) (v6 : Int32) (v7 : Int32) (m : z_M) : z_R := h57 v0 v1 v3 v4 v5 v6 (v7 + 1) m
def f_X4_right_L57 : Nat → Nat → Int32 → Int32 → Int32 → Int32 → Int32 → Int32 → z_M → z_R
  | 0, _, _, _, _, _, _, _, _ => none
  | n + 1, v0, v1, v3, v4, v5, v6, v7, m => if 3 ≤ v7 then (z_gP m v0 4 7 fun a1 => z_al m a1 v1 fun x2 => z_cv m v0 4 (f_X4_waysToTurn v0 x2 m) fun x3 m4 => z_b (f_X4_partInLowestTerms v6 x3 v3 m4) fun x5 m6 => some (x5, m6)) else (z_cv m v0 4 (f_X4_facingBy v0 v1 v7 v4 m) fun x7 m8 => if x7 = v5 then (z_gP m8 v0 4 7 fun a9 => z_al m8 a9 v1 fun x10 => z_cv m8 v0 4 (f_X4_waysOfManner v0 x10 v7 m8) fun x11 m12 => z_lt (v6 + x11) fun x13 => f_X4_right_L94 (f_X4_right_L57 n) v0 v1 v3 v4 v5 x13 v7 m12) else (f_X4_right_L94 (f_X4_right_L57 n) v0 v1 v3 v4 v5 v6 v7 m8))
def f_X4_right (v0 : Nat) (v1 : Int32) (v2 : Int32) (v3 : Int32) (m : z_M) : z_R := z_cv m v0 4 (f_X4_isMan v0 v1 m) fun x14 m15 => if x14 = 0 then (some ((-1), m15)) else (z_b (f_X4_isWord v2 m15) fun x16 m17 => if x16 = 0 then (some ((-1), m17)) else (z_b (f_X4_isEither v3 m17) fun x18 m19 => if x18 = 0 then (some ((-1), m19)) else (z_cv m19 v0 4 (f_X4_findLeaders v0 m19) fun _ m20 => z_tl 0 v2 fun x21 => z_gP m20 v0 4 3 fun a22 => z_cv m20 v0 4 (f_X4_dueFacing v0 a22 v1 m20) fun x23 m24 => z_lt (z_mI (x23 + x21) 4) fun x25 => f_X4_right_L57 400 v0 v1 v3 x21 x25 0 0 m24)))
def f_X4_runs_L44 (h14 : Nat → Int32 → Int32 → Int32 → z_M → z_R) (v0 : Nat) (v1 : Int32) (v2 : Int32) (v3 : Int32) (m : z_M) : z_R := h14 v0 v1 v2 (v3 + 1) m
def f_X4_runs_L14 : Nat → Nat → Int32 → Int32 → Int32 → z_M → z_R
  | 0, _, _, _, _, _ => none
  | n + 1, v0, v1, v2, v3, m => z_gP m v0 4 1 fun a1 => z_gI m a1 2 0 fun x2 => if x2 ≤ v3 then (some (v2, m)) else (if v3 = v1 then (f_X4_runs_L44 (f_X4_runs_L14 n) v0 v1 v2 v3 m) else (z_cv m v0 4 (f_X4_chainEnd v0 v3 (-4) m) fun x3 m4 => if x3 = v1 then (f_X4_runs_L44 (f_X4_runs_L14 n) v0 v1 (v2 + 1) v3 m4) else (f_X4_runs_L44 (f_X4_runs_L14 n) v0 v1 v2 v3 m4)))
def f_X4_runs (v0 : Nat) (v1 : Int32) (m : z_M) : z_R := z_cv m v0 4 (f_X4_isMan v0 v1 m) fun x5 m6 => if x5 = 0 then (some ((-1), m6)) else (f_X4_runs_L14 400 v0 v1 0 0 m6)
def f_X4_safe_L50 (h12 : Nat → Int32 → Int32 → z_M → z_R) (v0 : Nat) (v1 : Int32) (v2 : Int32) (m : z_M) : z_R := h12 v0 v1 (v2 + 1) m
def f_X4_safe_L12 : Nat → Nat → Int32 → Int32 → z_M → z_R
  | 0, _, _, _, _ => none
  | n + 1, v0, v1, v2, m => z_gP m v0 4 1 fun a1 => z_gI m a1 2 0 fun x2 => if x2 ≤ v2 then (some ((-4), m)) else (z_cv m v0 4 (f_X4_chainEnd v0 v2 v1 m) fun x3 m4 => if x3 = (-4) then (f_X4_safe_L50 (f_X4_safe_L12 n) v0 v1 v2 m4) else (z_gP m4 v0 4 1 fun a5 => z_gP m4 a5 2 3 fun a6 => z_al m4 a6 x3 fun x7 => if x7 = 0 then (some (v2, m4)) else (f_X4_safe_L50 (f_X4_safe_L12 n) v0 v1 v2 m4)))
def f_X4_safe (v0 : Nat) (v1 : Int32) (m : z_M) : z_R := z_cv m v0 4 (f_X4_isMan v0 v1 m) fun x8 m9 => if x8 = 0 then (some ((-1), m9)) else (f_X4_safe_L12 400 v0 v1 0 m9)
def f_X4_shout_L78 (h25 : Nat → Int32 → Int32 → Int32 → z_M → z_R) (v0 : Nat) (v1 : Int32) (v2 : Int32) (v3 : Int32) (m : z_M) : z_R := h25 v0 v1 v2 (v3 + 1) m
def f_X4_shout_L50 (h25 : Nat → Int32 → Int32 → Int32 → z_M → z_R) (v0 : Nat) (v1 : Int32) (v2 : Int32) (v3 : Int32) (m : z_M) : z_R := z_gP m v0 4 3 fun a1 => z_gP m a1 3 0 fun a2 => z_gP m v0 4 3 fun a3 => z_gP m a3 3 0 fun a4 => z_al m a4 v3 fun x5 => z_lt (z_mI (x5 + 2) 4) fun x6 => z_as m a2 v3 x6 fun m7 => z_lt (v2 ||| (1 <<< (v3 &&& 31))) fun x8 => f_X4_shout_L78 h25 v0 v1 x8 v3 m7
def f_X4_shout_L25 : Nat → Nat → Int32 → Int32 → Int32 → z_M → z_R
  | 0, _, _, _, _, _ => none
  | n + 1, v0, v1, v2, v3, m => z_gP m v0 4 1 fun a9 => z_gI m a9 2 0 fun x10 => if x10 ≤ v3 then (z_gP m v0 4 3 fun a11 => z_gI m a11 3 7 fun x12 => z_lt (x12 ||| v2) fun x13 => z_sI m a11 3 7 x13 fun m14 => z_b (f_J6_bitCount_0f7a4 v2 m14) fun x15 m16 => some (x15, m16)) else (if v3 = v1 then (f_X4_shout_L50 (f_X4_shout_L25 n) v0 v1 v2 v3 m) else (z_cv m v0 4 (f_X4_heeds v0 v3 v1 m) fun x17 m18 => if x17 = 0 then (f_X4_shout_L78 (f_X4_shout_L25 n) v0 v1 v2 v3 m18) else (f_X4_shout_L50 (f_X4_shout_L25 n) v0 v1 v2 v3 m18)))
def f_X4_shout (v0 : Nat) (v1 : Int32) (m : z_M) : z_R := z_cv m v0 4 (f_X4_isMan v0 v1 m) fun x19 m20 => if x19 = 0 then (some ((-1), m20)) else (z_gP m20 v0 4 5 fun a21 => z_gP m20 v0 4 3 fun a22 => z_cv m20 a21 0 (f_X0_put a21 a22 m20) fun _ m23 => f_X4_shout_L25 400 v0 v1 0 0 m23)
def f_X4_turn (v0 : Nat) (v1 : Int32) (v2 : Int32) (m : z_M) : z_R := z_cv m v0 4 (f_X4_isMan v0 v1 m) fun x1 m2 => if x1 = 0 then (some ((-1), m2)) else (z_b (f_X4_isWord v2 m2) fun x3 m4 => if x3 = 0 then (some ((-1), m4)) else (z_cv m4 v0 4 (f_X4_findManners v0 m4) fun _ m5 => z_cv m5 v0 4 (f_X4_facingForeseen v0 v1 v2 m5) fun x6 m7 => some (x6, m7)))
def f_X4_undo (v0 : Nat) (m : z_M) : z_R := z_gP m v0 4 5 fun a1 => z_gP m v0 4 3 fun a2 => z_cv m a1 0 (f_X0_takeTop a1 a2 m) fun x3 m4 => if x3 = 0 then (some ((-2), m4)) else (z_gP m4 v0 4 5 fun a5 => z_gI m4 a5 0 1 fun x6 => some (x6, m4))
def f_X4_which_L52 (h28 : Nat → Int32 → Int32 → Int32 → Int32 → z_M → z_R) (v0 : Nat) (v1 : Int32) (v2 : Int32) (v3 : Int32) (v4 : Int32) (m : z_M) : z_R := h28 v0 v1 v2 v3 (v4 + 1) m
def f_X4_which_L28 : Nat → Nat → Int32 → Int32 → Int32 → Int32 → z_M → z_R
  | 0, _, _, _, _, _, _ => none
  | n + 1, v0, v1, v2, v3, v4, m => if 3 ≤ v4 then (some (v3, m)) else (z_cv m v0 4 (f_X4_facingForeseen v0 v1 v4 m) fun x1 m2 => if x1 = v2 then (z_lt (v3 ||| (1 <<< (v4 &&& 31))) fun x3 => f_X4_which_L52 (f_X4_which_L28 n) v0 v1 v2 x3 v4 m2) else (f_X4_which_L52 (f_X4_which_L28 n) v0 v1 v2 v3 v4 m2))
def f_X4_which (v0 : Nat) (v1 : Int32) (v2 : Int32) (m : z_M) : z_R := z_cv m v0 4 (f_X4_isMan v0 v1 m) fun x4 m5 => if x4 = 0 then (some ((-1), m5)) else (if v2 < 0 then (some ((-1), m5)) else (if v2 < 4 then (z_cv m5 v0 4 (f_X4_findManners v0 m5) fun _ m6 => f_X4_which_L28 400 v0 v1 v2 0 0 m6) else (some ((-1), m5))))
def f_X4_who (v0 : Nat) (v1 : Int32) (m : z_M) : z_R := if v1 = 0 then (z_gP m v0 4 3 fun a1 => z_cv m v0 4 (f_X4_wrongMen v0 a1 m) fun x2 m3 => some (x2, m3)) else if v1 = 1 then (z_gP m v0 4 3 fun a4 => z_gI m a4 3 6 fun x5 => z_gP m v0 4 3 fun a6 => z_gI m a6 3 7 fun x7 => z_gP m v0 4 3 fun a8 => z_cv m v0 4 (f_X4_wrongMen v0 a8 m) fun x9 m10 => some ((x5 ||| x7) &&& (x9 ^^^ (-1)), m10)) else if v1 = 2 then (z_gP m v0 4 3 fun a11 => z_gI m a11 3 6 fun x12 => some (x12, m)) else (some ((-1), m))
def f_X4_wipe (v0 : Nat) (m : z_M) : z_R := z_gP m v0 4 0 fun a1 => z_gI m a1 1 1 fun x2 => z_gP m v0 4 0 fun a3 => z_cv m a3 1 (f_X1_clear a3 m) fun _ m4 => some (x2, m4)
def f_X4_word (v0 : Nat) (v1 : Int32) (m : z_M) : z_R := z_b (f_X4_isWord v1 m) fun x1 m2 => if x1 = 0 then (some ((-1), m2)) else (z_gP m2 v0 4 3 fun a3 => z_gI m2 a3 3 3 fun x4 => if x4 < 999 then (z_gP m2 v0 4 5 fun a5 => z_gP m2 v0 4 3 fun a6 => z_cv m2 a5 0 (f_X0_put a5 a6 m2) fun _ m7 => z_cv m7 v0 4 (f_X4_findLeaders v0 m7) fun _ m8 => z_gP m8 v0 4 3 fun a9 => z_cv m8 v0 4 (f_X4_say v0 a9 v1 m8) fun _ m10 => z_gP m10 v0 4 3 fun a11 => z_cv m10 v0 4 (f_X4_wrongMen v0 a11 m10) fun x12 m13 => z_b (f_J6_bitCount_0f7a4 x12 m13) fun x14 m15 => some (x14, m15)) else (some ((-2), m2)))
def f_X4_write (v0 : Nat) (v1 : Int32) (m : z_M) : z_R := if v1 < 32 then (some ((-1), m)) else (if v1 ≤ 126 then (z_gP m v0 4 0 fun a1 => z_cv m a1 1 (f_X1_add a1 ((Int32.toUInt32 v1 % 65536).toInt32) m) fun x2 m3 => if x2 = 0 then (some ((-3), m3)) else (z_gP m3 v0 4 0 fun a4 => z_gI m3 a4 1 1 fun x5 => some (x5, m3))) else (some ((-1), m)))
end
section
def f_X5_adds (v0 : Nat) (v1 : Int32) (v2 : Int32) (v3 : Int32) (v4 : Int32) (m : z_M) : z_R := z_gP m v0 5 3 fun a1 => z_al m a1 0 fun x2 => z_gP m v0 5 3 fun a3 => z_as m a3 (3 + x2) v1 fun m4 => z_gP m4 v0 5 3 fun a5 => z_as m4 a5 (11 + x2) v2 fun m6 => z_gP m6 v0 5 3 fun a7 => z_as m6 a7 (19 + x2) v3 fun m8 => z_gP m8 v0 5 3 fun a9 => z_as m8 a9 (27 + x2) v4 fun m10 => z_gP m10 v0 5 3 fun a11 => z_al m10 a11 0 fun x12 => z_lt (x12 + 1) fun x13 => z_as m10 a11 0 x13 fun m14 => some (0, m14)
def f_X5_common_L4 : Nat → Int32 → Int32 → z_M → z_R
  | 0, _, _, _ => none
  | n + 1, v2, v3, m => if v3 ≤ 0 then (some (v2, m)) else (z_rm' v2 v3 fun x1 => f_X5_common_L4 n v3 x1 m)
def f_X5_common (v0 : Int32) (v1 : Int32) (m : z_M) : z_R := f_X5_common_L4 400 v0 v1 m
def f_X5_mayErr (v0 : Nat) (v1 : Int32) (m : z_M) : z_R := z_gP m v0 5 2 fun a1 => z_al m a1 (3 + v1) fun x2 => if x2 = 0 then (some (0, m)) else (z_gP m v0 5 2 fun a3 => z_al m a3 (3 + v1) fun x4 => if x4 = 3 then (some (0, m)) else (some (1, m)))
def f_X5_isLooking_L20 (m : z_M) : z_R := some (1, m)
def f_X5_isLooking (v0 : Nat) (v1 : Int32) (m : z_M) : z_R := z_gI m v0 5 10 fun x1 => if v1 = x1 then (f_X5_isLooking_L20 m) else (z_gP m v0 5 2 fun a2 => z_al m a2 (3 + v1) fun x3 => if x3 = 2 then (f_X5_isLooking_L20 m) else (some (0, m)))
def f_X5_leader_L44 (h4 : Nat → Int32 → Int32 → z_M → z_R) (v0 : Nat) (v3 : Int32) (s0 : Int32) (m : z_M) : z_R := h4 v0 s0 (v3 + 1) m
def f_X5_leader_L4 : Nat → Nat → Int32 → Int32 → z_M → z_R
  | 0, _, _, _, _ => none
  | n + 1, v0, v2, v3, m => if 8 < v3 then (some ((-4), m)) else (z_cv m v0 5 (f_X5_isLooking v0 v2 m) fun x1 m2 => if x1 = 0 then (some (v2, m2)) else (z_gI m2 v0 5 10 fun x3 => if v2 = x3 then (z_gI m2 v0 5 11 fun x6 => f_X5_leader_L44 (f_X5_leader_L4 n) v0 v3 x6 m2) else (z_gP m2 v0 5 4 fun a4 => z_al m2 a4 (8 + v2) fun x5 => f_X5_leader_L44 (f_X5_leader_L4 n) v0 v3 x5 m2)))
def f_X5_leader (v0 : Nat) (v1 : Int32) (m : z_M) : z_R := f_X5_leader_L4 400 v0 v1 0 m
def f_X5_turnsAs_L20 (v1 : Int32) (s0 : Int32) (m : z_M) : z_R := if s0 = (-4) then (some (v1, m)) else (some (s0, m))
def f_X5_turnsAs (v0 : Nat) (v1 : Int32) (m : z_M) : z_R := z_gP m v0 5 4 fun a1 => z_al m a1 16 fun x2 => if x2 = 1 then (f_X5_turnsAs_L20 v1 v1 m) else (z_cv m v0 5 (f_X5_leader v0 v1 m) fun x3 m4 => f_X5_turnsAs_L20 v1 x3 m4)
def f_X5_doubtful_L39 (h4 : Nat → Int32 → Int32 → z_M → z_R) (v0 : Nat) (v2 : Int32) (s0 : Int32) (s1 : Int32) (m : z_M) : z_R := z_lt (s1 ||| s0) fun x1 => h4 v0 x1 (v2 + 1) m
def f_X5_doubtful_L38 (h4 : Nat → Int32 → Int32 → z_M → z_R) (v0 : Nat) (v2 : Int32) (s0 : Int32) (m : z_M) : z_R := f_X5_doubtful_L39 h4 v0 v2 0 s0 m
def f_X5_doubtful_L4 : Nat → Nat → Int32 → Int32 → z_M → z_R
  | 0, _, _, _, _ => none
  | n + 1, v0, v1, v2, m => z_gP m v0 5 2 fun a2 => z_al m a2 0 fun x3 => if x3 ≤ v2 then (some (v1, m)) else (z_cv m v0 5 (f_X5_turnsAs v0 v2 m) fun x4 m5 => if x4 = v2 then (z_cv m5 v0 5 (f_X5_mayErr v0 v2 m5) fun x6 m7 => if x6 = 0 then (f_X5_doubtful_L38 (f_X5_doubtful_L4 n) v0 v2 v1 m7) else (f_X5_doubtful_L39 (f_X5_doubtful_L4 n) v0 v2 (1 <<< (v2 &&& 31)) v1 m7)) else (f_X5_doubtful_L38 (f_X5_doubtful_L4 n) v0 v2 v1 m5))
def f_X5_doubtful (v0 : Nat) (m : z_M) : z_R := f_X5_doubtful_L4 400 v0 0 0 m
def f_X5_in (v0 : Int32) (v1 : Int32) (v2 : Int32) (m : z_M) : z_R := if v0 < v1 then (some (0, m)) else (if v2 < v0 then (some (0, m)) else (some (1, m)))
def f_X5_isWord (v0 : Int32) (m : z_M) : z_R := z_b (f_X5_in v0 0 2 m) fun x1 m2 => z_rz x1 m2
def f_X5_ones_L4 : Nat → Int32 → Int32 → Int32 → z_M → z_R
  | 0, _, _, _, _ => none
  | n + 1, v0, v1, v2, m => if 8 ≤ v2 then (some (v1, m)) else (z_lt (v1 + ((v0 >>> (v2 &&& 31)) &&& 1)) fun x1 => f_X5_ones_L4 n v0 x1 (v2 + 1) m)
def f_X5_ones (v0 : Int32) (m : z_M) : z_R := f_X5_ones_L4 400 v0 0 0 m
def f_X5_turnOf (v0 : Int32) (m : z_M) : z_R := if 0 ≤ v0 then (if v0 = 0 then (some (3, m)) else (some (v0, m))) else (some (0, m))
def f_X5_wrongly (v0 : Int32) (m : z_M) : z_R := if v0 = 2 then (some (2, m)) else (some (1 - v0, m))
def f_X5_turnBy_L70 (s0 : Int32) (m : z_M) : z_R := z_b (f_X5_turnOf s0 m) fun x1 m2 => some (x1, m2)
def f_X5_turnBy_L55 (v2 : Int32) (s0 : Int32) (m : z_M) : z_R := if s0 = 0 then (f_X5_turnBy_L70 v2 m) else (z_b (f_X5_wrongly v2 m) fun x3 m4 => f_X5_turnBy_L70 x3 m4)
def f_X5_turnBy_L54 (v2 : Int32) (m : z_M) : z_R := f_X5_turnBy_L55 v2 0 m
def f_X5_turnBy (v0 : Nat) (v1 : Int32) (v2 : Int32) (v3 : Int32) (m : z_M) : z_R := z_cv m v0 5 (f_X5_turnsAs v0 v1 m) fun x5 m6 => z_gP m6 v0 5 2 fun a7 => z_al m6 a7 (3 + x5) fun x8 => if x8 = 3 then (z_gP m6 v0 5 4 fun a11 => z_al m6 a11 18 fun x12 => z_b (f_X5_turnOf x12 m6) fun x13 m14 => some (x13, m14)) else (z_cv m6 v0 5 (f_X5_mayErr v0 x5 m6) fun x9 m10 => if x9 = 0 then (f_X5_turnBy_L54 v2 m10) else (if ((v3 >>> (x5 &&& 31)) &&& 1) = 1 then (f_X5_turnBy_L55 v2 1 m10) else (f_X5_turnBy_L54 v2 m10)))
def f_X5_alike_L222 (h57 : Nat → Int32 → Int32 → Int32 → Int32 → Int32 → Int32 → z_M → z_R) (v0 : Nat) (v1 : Int32) (v2 : Int32) (v3 : Int32) (v4 : Int32) (v5 : Int32) (v6 : Int32) (m : z_M) : z_R := h57 v0 v1 v2 v3 v4 v5 (v6 + 1) m
def f_X5_alike_L219 (h57 : Nat → Int32 → Int32 → Int32 → Int32 → Int32 → Int32 → z_M → z_R) (v0 : Nat) (v1 : Int32) (v2 : Int32) (v3 : Int32) (v5 : Int32) (v6 : Int32) (s0 : Int32) (s1 : Int32) (m : z_M) : z_R := z_lt (s1 + s0) fun x1 => f_X5_alike_L222 h57 v0 v1 v2 v3 x1 v5 v6 m
def f_X5_alike_L198 (h83 : Nat → Int32 → Int32 → Int32 → Int32 → Int32 → Int32 → Int32 → Int32 → Int32 → z_M → z_R) (v0 : Nat) (v1 : Int32) (v2 : Int32) (v3 : Int32) (v4 : Int32) (v5 : Int32) (v6 : Int32) (v7 : Int32) (v9 : Int32) (s0 : Int32) (m : z_M) : z_R := h83 v0 v1 v2 v3 v4 v5 v6 v7 s0 (v9 + 1) m
def f_X5_alike_L197 (h83 : Nat → Int32 → Int32 → Int32 → Int32 → Int32 → Int32 → Int32 → Int32 → Int32 → z_M → z_R) (v0 : Nat) (v1 : Int32) (v2 : Int32) (v3 : Int32) (v4 : Int32) (v5 : Int32) (v6 : Int32) (v7 : Int32) (v9 : Int32) (m : z_M) : z_R := f_X5_alike_L198 h83 v0 v1 v2 v3 v4 v5 v6 v7 v9 0 m
def f_X5_alike_L146 (h83 : Nat → Int32 → Int32 → Int32 → Int32 → Int32 → Int32 → Int32 → Int32 → Int32 → z_M → z_R) (v0 : Nat) (v1 : Int32) (v2 : Int32) (v3 : Int32) (v4 : Int32) (v5 : Int32) (v6 : Int32) (v8 : Int32) (v9 : Int32) (s0 : Int32) (s1 : Int32) (m : z_M) : z_R := z_lt (s1 * s0) fun x2 => if v8 = 0 then (f_X5_alike_L197 h83 v0 v1 v2 v3 v4 v5 v6 x2 v9 m) else (z_gP m v0 5 4 fun a3 => z_al m a3 v9 fun x4 => z_cv m v0 5 (f_X5_turnBy v0 v9 v1 v6 m) fun x5 m6 => z_gP m6 v0 5 4 fun a7 => z_al m6 a7 0 fun x8 => z_cv m6 v0 5 (f_X5_turnBy v0 0 v1 v6 m6) fun x9 m10 => if (z_mI (x4 + x5) 4) = (z_mI (x8 + x9) 4) then (f_X5_alike_L198 h83 v0 v1 v2 v3 v4 v5 v6 x2 v9 1 m10) else (f_X5_alike_L197 h83 v0 v1 v2 v3 v4 v5 v6 x2 v9 m10))
def f_X5_alike_L83 (h57 : Nat → Int32 → Int32 → Int32 → Int32 → Int32 → Int32 → z_M → z_R) : Nat → Nat → Int32 → Int32 → Int32 → Int32 → Int32 → Int32 → Int32 → Int32 → Int32 → z_M → z_R
  | 0, _, _, _, _, _, _, _, _, _, _, _ => none
  | n + 1, v0, v1, v2, v3, v4, v5, v6, v7, v8, v9, m => z_gP m v0 5 2 fun a11 => z_al m a11 0 fun x12 => if x12 ≤ v9 then (if v8 = 0 then (f_X5_alike_L219 h57 v0 v1 v2 v3 v5 v6 0 v4 m) else (f_X5_alike_L219 h57 v0 v1 v2 v3 v5 v6 v7 v4 m)) else (if ((v3 >>> (v9 &&& 31)) &&& 1) = 0 then (f_X5_alike_L146 (f_X5_alike_L83 h57 n) v0 v1 v2 v3 v4 v5 v6 v8 v9 1 v7 m) else (if ((v6 >>> (v9 &&& 31)) &&& 1) = 1 then (z_gP m v0 5 2 fun a15 => z_al m a15 (27 + v9) fun x16 => f_X5_alike_L146 (f_X5_alike_L83 h57 n) v0 v1 v2 v3 v4 v5 v6 v8 v9 x16 v7 m) else (z_gP m v0 5 2 fun a13 => z_al m a13 (27 + v9) fun x14 => f_X5_alike_L146 (f_X5_alike_L83 h57 n) v0 v1 v2 v3 v4 v5 v6 v8 v9 (10 - x14) v7 m)))
def f_X5_alike_L57 : Nat → Nat → Int32 → Int32 → Int32 → Int32 → Int32 → Int32 → z_M → z_R
  | 0, _, _, _, _, _, _, _, _ => none
  | n + 1, v0, v1, v2, v3, v4, v5, v6, m => if 256 ≤ v6 then (z_b (f_X5_common v4 v5 m) fun x17 m18 => if v2 = 0 then (z_dv v4 x17 fun x20 => some (x20, m18)) else (z_dv v5 x17 fun x19 => some (x19, m18))) else (if (v6 &&& (v3 ^^^ (-1))) = 0 then (f_X5_alike_L83 (f_X5_alike_L57 n) 400 v0 v1 v2 v3 v4 v5 v6 1 1 0 m) else (f_X5_alike_L222 (f_X5_alike_L57 n) v0 v1 v2 v3 v4 v5 v6 m))
def f_X5_alike_L32 : Nat → Nat → Int32 → Int32 → Int32 → Int32 → Int32 → Int32 → z_M → z_R
  | 0, _, _, _, _, _, _, _, _ => none
  | n + 1, v0, v1, v2, v3, v4, v5, v6, m => z_b (f_X5_ones v3 m) fun x21 m22 => if x21 ≤ v6 then (f_X5_alike_L57 400 v0 v1 v2 v3 v4 v5 0 m22) else (z_lt (v5 * 10) fun x23 => f_X5_alike_L32 n v0 v1 v2 v3 v4 x23 (v6 + 1) m22)
def f_X5_alike (v0 : Nat) (v1 : Int32) (v2 : Int32) (m : z_M) : z_R := z_b (f_X5_isWord v1 m) fun x24 m25 => if x24 = 0 then (some ((-1), m25)) else (z_b (f_X5_in v2 0 1 m25) fun x26 m27 => if x26 = 0 then (some ((-1), m27)) else (z_cv m27 v0 5 (f_X5_doubtful v0 m27) fun x28 m29 => f_X5_alike_L32 400 v0 v1 v2 x28 0 1 0 m29))
def f_X5_back_L22 : Nat → Nat → Int32 → z_M → z_R
  | 0, _, _, _ => none
  | n + 1, v0, v1, m => if 22 ≤ v1 then (z_sI m v0 5 6 0 fun m1 => z_gI m1 v0 5 8 fun x2 => some (x2, m1)) else (z_gP m v0 5 4 fun a3 => z_gP m v0 5 7 fun a4 => z_gI m v0 5 8 fun x5 => z_al m a4 ((22 * x5) + v1) fun x6 => z_as m a3 v1 x6 fun m7 => f_X5_back_L22 n v0 (v1 + 1) m7)
def f_X5_back (v0 : Nat) (m : z_M) : z_R := z_gI m v0 5 8 fun x8 => if x8 = 0 then (some ((-2), m)) else (z_gI m v0 5 8 fun x9 => z_lt (x9 - 1) fun x10 => z_sI m v0 5 8 x10 fun m11 => f_X5_back_L22 400 v0 0 m11)
def f_X5_begins_L2 : Nat → Nat → Int32 → z_M → z_R
  | 0, _, _, _ => none
  | n + 1, v0, v1, m => if 35 ≤ v1 then (some (0, m)) else (z_gP m v0 5 3 fun a1 => z_as m a1 v1 0 fun m2 => f_X5_begins_L2 n v0 (v1 + 1) m2)
def f_X5_begins (v0 : Nat) (m : z_M) : z_R := f_X5_begins_L2 400 v0 0 m
def f_X5_comesBy_L53 (h8 : Nat → Int32 → Int32 → Int32 → Int32 → z_M → z_R) (v0 : Nat) (v2 : Int32) (v4 : Int32) (v5 : Int32) (s0 : Int32) (m : z_M) : z_R := h8 v0 v2 s0 v4 (v5 + 1) m
def f_X5_comesBy_L30 (h8 : Nat → Int32 → Int32 → Int32 → Int32 → z_M → z_R) (v0 : Nat) (v2 : Int32) (v3 : Int32) (v5 : Int32) (s0 : Int32) (m : z_M) : z_R := z_cv m v0 5 (f_X5_isLooking v0 v3 m) fun x1 m2 => if x1 = 0 then (f_X5_comesBy_L53 h8 v0 v2 s0 v5 v3 m2) else (z_gP m2 v0 5 4 fun a3 => z_al m2 a3 (8 + v3) fun x4 => f_X5_comesBy_L53 h8 v0 v2 s0 v5 x4 m2)
def f_X5_comesBy_L25 (h8 : Nat → Int32 → Int32 → Int32 → Int32 → z_M → z_R) (v0 : Nat) (v2 : Int32) (v3 : Int32) (v5 : Int32) (m : z_M) : z_R := f_X5_comesBy_L30 h8 v0 v2 v3 v5 1 m
def f_X5_comesBy_L8 : Nat → Nat → Int32 → Int32 → Int32 → Int32 → z_M → z_R
  | 0, _, _, _, _, _, _ => none
  | n + 1, v0, v2, v3, v4, v5, m => if 8 < v5 then (z_rz v4 m) else (if v4 = 0 then (if v3 = v2 then (f_X5_comesBy_L25 (f_X5_comesBy_L8 n) v0 v2 v3 v5 m) else (f_X5_comesBy_L30 (f_X5_comesBy_L8 n) v0 v2 v3 v5 0 m)) else (f_X5_comesBy_L25 (f_X5_comesBy_L8 n) v0 v2 v3 v5 m))
def f_X5_comesBy (v0 : Nat) (v1 : Int32) (v2 : Int32) (m : z_M) : z_R := f_X5_comesBy_L8 400 v0 v2 v1 0 0 m
def f_X5_count (v0 : Nat) (v1 : Int32) (m : z_M) : z_R := if v1 = 0 then (z_gP m v0 5 2 fun a1 => z_al m a1 0 fun x2 => some (x2, m)) else if v1 = 1 then (z_gP m v0 5 4 fun a3 => z_al m a3 17 fun x4 => some (x4, m)) else if v1 = 2 then (z_gP m v0 5 4 fun a5 => z_al m a5 16 fun x6 => some (x6, m)) else if v1 = 3 then (z_gI m v0 5 6 fun x7 => some (x7, m)) else if v1 = 4 then (z_gI m v0 5 8 fun x8 => some (x8, m)) else if v1 = 5 then (z_gI m v0 5 1 fun x9 => some (x9, m)) else (some ((-1), m))
def f_X5_drawOf (v0 : Int64) (m : z_M) : z_R := some ((Int64.toInt32 (z_mL (v0 * v0) 65521)) / 8, m)
def f_X5_errors_L98 (h4 : Nat → Int32 → Int32 → Int32 → z_M → z_R) (v0 : Nat) (v1 : Int32) (v3 : Int32) (s0 : Int32) (s1 : Int32) (m : z_M) : z_R := z_lt (s1 ||| s0) fun x1 => h4 v0 v1 x1 (v3 + 1) m
def f_X5_errors_L97 (h4 : Nat → Int32 → Int32 → Int32 → z_M → z_R) (v0 : Nat) (v1 : Int32) (v3 : Int32) (s0 : Int32) (m : z_M) : z_R := f_X5_errors_L98 h4 v0 v1 v3 0 s0 m
def f_X5_errors_L91 (h4 : Nat → Int32 → Int32 → Int32 → z_M → z_R) (v0 : Nat) (v1 : Int32) (v3 : Int32) (s0 : Int32) (m : z_M) : z_R := f_X5_errors_L98 h4 v0 v1 v3 (1 <<< (v3 &&& 31)) s0 m
def f_X5_errors_L73 (h4 : Nat → Int32 → Int32 → Int32 → z_M → z_R) (v0 : Nat) (v1 : Int32) (v3 : Int32) (v4 : Int32) (s0 : Int32) (m : z_M) : z_R := if v1 = 0 then (z_gP m v0 5 2 fun a2 => z_al m a2 (27 + v3) fun x3 => if x3 ≤ v4 then (f_X5_errors_L97 h4 v0 v1 v3 s0 m) else (f_X5_errors_L91 h4 v0 v1 v3 s0 m)) else (f_X5_errors_L97 h4 v0 v1 v3 s0 m)
def f_X5_errors_L4 : Nat → Nat → Int32 → Int32 → Int32 → z_M → z_R
  | 0, _, _, _, _, _ => none
  | n + 1, v0, v1, v2, v3, m => z_gP m v0 5 2 fun a4 => z_al m a4 0 fun x5 => if x5 ≤ v3 then (some (v2, m)) else (z_gP m v0 5 2 fun a6 => z_al m a6 1 fun x7 => z_gP m v0 5 4 fun a8 => z_al m a8 17 fun x9 => z_b (f_X5_drawOf ((((7919 * (Int32.toInt64 x7)) + (6151 * (Int32.toInt64 x9))) + (3571 * (Int32.toInt64 v3))) + 1) m) fun x10 m11 => z_lt (z_mI x10 10) fun x12 => if v1 = 0 then (f_X5_errors_L73 (f_X5_errors_L4 n) v0 v1 v3 x12 v2 m11) else (z_gP m11 v0 5 2 fun a13 => z_al m11 a13 (27 + v3) fun x14 => if 5 ≤ x14 then (f_X5_errors_L91 (f_X5_errors_L4 n) v0 v1 v3 v2 m11) else (f_X5_errors_L73 (f_X5_errors_L4 n) v0 v1 v3 x12 v2 m11)))
def f_X5_errors (v0 : Nat) (v1 : Int32) (m : z_M) : z_R := f_X5_errors_L4 400 v0 v1 0 0 m
def f_X5_holds_L2 : Nat → Nat → Int32 → z_M → z_R
  | 0, _, _, _ => none
  | n + 1, v0, v1, m => if 22 ≤ v1 then (some (0, m)) else (z_gP m v0 5 12 fun a1 => z_gP m v0 5 4 fun a2 => z_al m a2 v1 fun x3 => z_as m a1 v1 x3 fun m4 => f_X5_holds_L2 n v0 (v1 + 1) m4)
def f_X5_holds (v0 : Nat) (m : z_M) : z_R := f_X5_holds_L2 400 v0 0 m
def f_X5_isOneWay_L38 (h4 : Nat → Int32 → Int32 → z_M → z_R) (v0 : Nat) (v2 : Int32) (s0 : Int32) (m : z_M) : z_R := h4 v0 s0 (v2 + 1) m
def f_X5_isOneWay_L37 (h4 : Nat → Int32 → Int32 → z_M → z_R) (v0 : Nat) (v2 : Int32) (m : z_M) : z_R := f_X5_isOneWay_L38 h4 v0 v2 0 m
def f_X5_isOneWay_L4 : Nat → Nat → Int32 → Int32 → z_M → z_R
  | 0, _, _, _, _ => none
  | n + 1, v0, v1, v2, m => z_gP m v0 5 2 fun a1 => z_al m a1 0 fun x2 => if x2 ≤ v2 then (z_rz v1 m) else (if v1 = 0 then (f_X5_isOneWay_L37 (f_X5_isOneWay_L4 n) v0 v2 m) else (z_gP m v0 5 4 fun a3 => z_al m a3 v2 fun x4 => z_gP m v0 5 4 fun a5 => z_al m a5 0 fun x6 => if x4 = x6 then (f_X5_isOneWay_L38 (f_X5_isOneWay_L4 n) v0 v2 1 m) else (f_X5_isOneWay_L37 (f_X5_isOneWay_L4 n) v0 v2 m)))
def f_X5_isOneWay (v0 : Nat) (m : z_M) : z_R := f_X5_isOneWay_L4 400 v0 1 1 m
def f_X5_lets_L2 : Nat → Nat → Int32 → z_M → z_R
  | 0, _, _, _ => none
  | n + 1, v0, v1, m => if 22 ≤ v1 then (some (0, m)) else (z_gP m v0 5 4 fun a1 => z_gP m v0 5 12 fun a2 => z_al m a2 v1 fun x3 => z_as m a1 v1 x3 fun m4 => f_X5_lets_L2 n v0 (v1 + 1) m4)
def f_X5_lets (v0 : Nat) (m : z_M) : z_R := f_X5_lets_L2 400 v0 0 m
def f_X5_says_L45 (h2 : Nat → Int32 → Int32 → Int32 → z_M → z_R) (v0 : Nat) (v1 : Int32) (v2 : Int32) (v3 : Int32) (v4 : Int32) (s0 : Int32) (s1 : Int32) (s2 : Int32) (s3 : Nat) (m : z_M) : z_R := z_lt (s1 ||| s0) fun x1 => z_as m s3 s2 x1 fun m2 => z_gP m2 v0 5 4 fun a3 => z_gP m2 v0 5 4 fun a4 => z_al m2 a4 v3 fun x5 => z_lt (z_mI (x5 + v4) 4) fun x6 => z_as m2 a3 v3 x6 fun m7 => h2 v0 v1 v2 (v3 + 1) m7
def f_X5_says_L2 : Nat → Nat → Int32 → Int32 → Int32 → z_M → z_R
  | 0, _, _, _, _, _ => none
  | n + 1, v0, v1, v2, v3, m => z_gP m v0 5 2 fun a8 => z_al m a8 0 fun x9 => if x9 ≤ v3 then (z_gP m v0 5 4 fun a10 => z_as m a10 18 v1 fun m11 => z_gP m11 v0 5 4 fun a12 => z_gP m11 v0 5 4 fun a13 => z_al m11 a13 19 fun x14 => z_b (f_X5_turnOf v1 m11) fun x15 m16 => z_lt (z_mI (x14 + x15) 4) fun x17 => z_as m16 a12 19 x17 fun m18 => z_gP m18 v0 5 4 fun a19 => z_al m18 a19 17 fun x20 => z_lt (x20 + 1) fun x21 => z_as m18 a19 17 x21 fun m22 => some (0, m22)) else (z_cv m v0 5 (f_X5_turnBy v0 v3 v1 v2 m) fun x23 m24 => z_gP m24 v0 5 4 fun a25 => z_al m24 a25 20 fun x26 => z_b (f_X5_turnOf v1 m24) fun x27 m28 => if x23 = x27 then (f_X5_says_L45 (f_X5_says_L2 n) v0 v1 v2 v3 x23 0 x26 20 a25 m28) else (f_X5_says_L45 (f_X5_says_L2 n) v0 v1 v2 v3 x23 (1 <<< (v3 &&& 31)) x26 20 a25 m28))
def f_X5_says (v0 : Nat) (v1 : Int32) (v2 : Int32) (m : z_M) : z_R := f_X5_says_L2 400 v0 v1 v2 0 m
def f_X5_dueOf (v0 : Nat) (v1 : Int32) (m : z_M) : z_R := z_gP m v0 5 2 fun a1 => z_al m a1 (11 + v1) fun x2 => z_gP m v0 5 4 fun a3 => z_al m a3 19 fun x4 => some (z_mI (x2 + x4) 4, m)
def f_X5_wrong_L36 (h4 : Nat → Int32 → Int32 → z_M → z_R) (v0 : Nat) (v2 : Int32) (s0 : Int32) (s1 : Int32) (m : z_M) : z_R := z_lt (s1 ||| s0) fun x1 => h4 v0 x1 (v2 + 1) m
def f_X5_wrong_L4 : Nat → Nat → Int32 → Int32 → z_M → z_R
  | 0, _, _, _, _ => none
  | n + 1, v0, v1, v2, m => z_gP m v0 5 2 fun a2 => z_al m a2 0 fun x3 => if x3 ≤ v2 then (some (v1, m)) else (z_gP m v0 5 4 fun a4 => z_al m a4 v2 fun x5 => z_cv m v0 5 (f_X5_dueOf v0 v2 m) fun x6 m7 => if x5 = x6 then (f_X5_wrong_L36 (f_X5_wrong_L4 n) v0 v2 0 v1 m7) else (f_X5_wrong_L36 (f_X5_wrong_L4 n) v0 v2 (1 <<< (v2 &&& 31)) v1 m7))
def f_X5_wrong (v0 : Nat) (m : z_M) : z_R := f_X5_wrong_L4 400 v0 0 0 m
def f_X5_drill_L92 (h42 : Nat → Int32 → Int32 → Int32 → Int32 → Int32 → z_M → z_R) (v0 : Nat) (v1 : Int32) (v2 : Int32) (v3 : Int32) (v5 : Int32) (s0 : Int32) (s1 : Int32) (m : z_M) : z_R := z_lt (s1 + s0) fun x1 => h42 v0 v1 v2 v3 x1 (v5 + 1) m
def f_X5_drill_L42 : Nat → Nat → Int32 → Int32 → Int32 → Int32 → Int32 → z_M → z_R
  | 0, _, _, _, _, _, _, _ => none
  | n + 1, v0, v1, v2, v3, v4, v5, m => if v2 ≤ v5 then (z_cv m v0 5 (f_X5_wrong v0 m) fun x2 m3 => z_b (f_X5_ones x2 m3) fun x4 m5 => z_cv m5 v0 5 (f_X5_lets v0 m5) fun _ m6 => if v3 = 0 then (some (x4, m6)) else (some (v4, m6))) else (z_b (f_X5_drawOf (((7919 * (Int32.toInt64 v1)) + (6151 * (Int32.toInt64 v5))) + 1) m) fun x7 m8 => z_cv m8 v0 5 (f_X5_errors v0 0 m8) fun x9 m10 => z_cv m10 v0 5 (f_X5_says v0 (z_mI x7 3) x9 m10) fun _ m11 => z_cv m11 v0 5 (f_X5_isOneWay v0 m11) fun x12 m13 => if x12 = 0 then (f_X5_drill_L92 (f_X5_drill_L42 n) v0 v1 v2 v3 v5 0 v4 m13) else (f_X5_drill_L92 (f_X5_drill_L42 n) v0 v1 v2 v3 v5 1 v4 m13))
def f_X5_drill (v0 : Nat) (v1 : Int32) (v2 : Int32) (v3 : Int32) (m : z_M) : z_R := z_b (f_X5_in v1 0 9999 m) fun x14 m15 => if x14 = 0 then (some ((-1), m15)) else (z_b (f_X5_in v2 1 60 m15) fun x16 m17 => if x16 = 0 then (some ((-1), m17)) else (z_b (f_X5_in v3 0 1 m17) fun x18 m19 => if x18 = 0 then (some ((-1), m19)) else (z_cv m19 v0 5 (f_X5_holds v0 m19) fun _ m20 => f_X5_drill_L42 400 v0 v1 v2 v3 0 0 m20)))
def f_X5_keeps_L51 : Nat → Nat → Int32 → z_M → z_R
  | 0, _, _, _ => none
  | n + 1, v0, v1, m => if 22 ≤ v1 then (z_gI m v0 5 6 fun x1 => z_lt (x1 + 1) fun x2 => z_sI m v0 5 6 x2 fun m3 => some (0, m3)) else (z_gP m v0 5 5 fun a4 => z_gI m v0 5 6 fun x5 => z_gP m v0 5 4 fun a6 => z_al m a6 v1 fun x7 => z_as m a4 ((22 * x5) + v1) x7 fun m8 => f_X5_keeps_L51 n v0 (v1 + 1) m8)
def f_X5_keeps_L49 (v0 : Nat) (m : z_M) : z_R := f_X5_keeps_L51 400 v0 0 m
def f_X5_keeps_L11 : Nat → Nat → Int32 → z_M → z_R
  | 0, _, _, _ => none
  | n + 1, v0, v1, m => if 154 ≤ v1 then (z_gI m v0 5 6 fun x9 => z_lt (x9 - 1) fun x10 => z_sI m v0 5 6 x10 fun m11 => f_X5_keeps_L49 v0 m11) else (z_gP m v0 5 5 fun a12 => z_gP m v0 5 5 fun a13 => z_al m a13 (v1 + 22) fun x14 => z_as m a12 v1 x14 fun m15 => f_X5_keeps_L11 n v0 (v1 + 1) m15)
def f_X5_keeps (v0 : Nat) (m : z_M) : z_R := z_gI m v0 5 6 fun x16 => if x16 = 8 then (f_X5_keeps_L11 400 v0 0 m) else (f_X5_keeps_L49 v0 m)
def f_X5_eyes (v0 : Nat) (v1 : Int32) (m : z_M) : z_R := z_b (f_X5_in v1 0 1 m) fun x1 m2 => if x1 = 0 then (some ((-1), m2)) else (z_cv m2 v0 5 (f_X5_keeps v0 m2) fun _ m3 => z_gP m3 v0 5 4 fun a4 => z_al m3 a4 16 fun x5 => z_gP m3 v0 5 4 fun a6 => z_as m3 a6 16 v1 fun m7 => some (x5, m7))
def f_X5_isFigure (v0 : Int32) (m : z_M) : z_R := z_b (f_X5_in v0 48 57 m) fun x1 m2 => z_rz x1 m2
def f_X5_letterAt (v0 : Nat) (v1 : Int32) (m : z_M) : z_R := z_gI m v0 5 1 fun x1 => if x1 ≤ v1 then (some ((-1), m)) else (z_gP m v0 5 0 fun a2 => z_al m a2 v1 fun x3 => some (x3, m))
def f_X5_number (v0 : Nat) (m : z_M) : z_R := z_gI m v0 5 9 fun x1 => z_cv m v0 5 (f_X5_letterAt v0 x1 m) fun x2 m3 => z_b (f_X5_isFigure x2 m3) fun x4 m5 => if x4 = 0 then (some ((-1), m5)) else (z_gI m5 v0 5 9 fun x6 => z_cv m5 v0 5 (f_X5_letterAt v0 x6 m5) fun x7 m8 => z_lt (x7 - 48) fun x9 => z_gI m8 v0 5 9 fun x10 => z_lt (x10 + 1) fun x11 => z_sI m8 v0 5 9 x11 fun m12 => z_gI m12 v0 5 9 fun x13 => z_cv m12 v0 5 (f_X5_letterAt v0 x13 m12) fun x14 m15 => z_b (f_X5_isFigure x14 m15) fun x16 m17 => if x16 = 0 then (some (x9, m17)) else (z_gI m17 v0 5 9 fun x18 => z_cv m17 v0 5 (f_X5_letterAt v0 x18 m17) fun x19 m20 => z_lt (((10 * x9) + x19) - 48) fun x21 => z_gI m20 v0 5 9 fun x22 => z_lt (x22 + 1) fun x23 => z_sI m20 v0 5 9 x23 fun m24 => some (x21, m24)))
def f_X5_sign_L32 (v2 : Int32) (s0 : Int32) (s1 : Int32) (s2 : Nat) (m : z_M) : z_R := z_lt (s1 + s0) fun x1 => z_sI m s2 5 9 x1 fun m2 => z_rz v2 m2
def f_X5_sign_L17 (v0 : Nat) (s0 : Int32) (m : z_M) : z_R := z_gI m v0 5 9 fun x3 => if s0 = 0 then (f_X5_sign_L32 s0 0 x3 v0 m) else (f_X5_sign_L32 s0 1 x3 v0 m)
def f_X5_sign (v0 : Nat) (v1 : Int32) (m : z_M) : z_R := z_gI m v0 5 9 fun x4 => z_cv m v0 5 (f_X5_letterAt v0 x4 m) fun x5 m6 => if x5 = v1 then (f_X5_sign_L17 v0 1 m6) else (f_X5_sign_L17 v0 0 m6)
def f_X5_readsMan (v0 : Nat) (m : z_M) : z_R := z_cv m v0 5 (f_X5_number v0 m) fun x1 m2 => z_b (f_X5_in x1 0 3 m2) fun x3 m4 => if x3 = 0 then (some (0, m4)) else (z_cv m4 v0 5 (f_X5_sign v0 44 m4) fun x5 m6 => if x5 = 0 then (some (0, m6)) else (z_cv m6 v0 5 (f_X5_number v0 m6) fun x7 m8 => z_b (f_X5_in x7 0 3 m8) fun x9 m10 => if x9 = 0 then (some (0, m10)) else (z_cv m10 v0 5 (f_X5_sign v0 44 m10) fun x11 m12 => if x11 = 0 then (some (0, m12)) else (z_cv m12 v0 5 (f_X5_number v0 m12) fun x13 m14 => z_b (f_X5_in x13 0 7 m14) fun x15 m16 => if x15 = 0 then (some (0, m16)) else (z_cv m16 v0 5 (f_X5_sign v0 44 m16) fun x17 m18 => if x17 = 0 then (some (0, m18)) else (z_cv m18 v0 5 (f_X5_number v0 m18) fun x19 m20 => z_b (f_X5_in x19 0 10 m20) fun x21 m22 => if x21 = 0 then (some (0, m22)) else (z_cv m22 v0 5 (f_X5_sign v0 59 m22) fun x23 m24 => if x23 = 0 then (some (0, m24)) else (z_gP m24 v0 5 3 fun a25 => z_al m24 a25 0 fun x26 => if x26 = 8 then (some (0, m24)) else (z_cv m24 v0 5 (f_X5_adds v0 x1 x7 x13 x19 m24) fun _ m27 => some (1, m27))))))))))
def f_X5_readsOne (v0 : Nat) (v1 : Int32) (v2 : Int32) (m : z_M) : z_R := z_gP m v0 5 3 fun a1 => z_cv m v0 5 (f_X5_number v0 m) fun x2 m3 => z_as m3 a1 v1 x2 fun m4 => z_gP m4 v0 5 3 fun a5 => z_al m4 a5 v1 fun x6 => z_b (f_X5_in x6 0 v2 m4) fun x7 m8 => if x7 = 0 then (some (0, m8)) else (z_cv m8 v0 5 (f_X5_sign v0 59 m8) fun x9 m10 => if x9 = 0 then (some (0, m10)) else (some (1, m10)))
def f_X5_reads_L94 (h9 : Nat → z_M → z_R) (v0 : Nat) (v1 : Int32) (s0 : Int32) (m : z_M) : z_R := if s0 = 0 then (some (v1, m)) else (h9 v0 m)
def f_X5_reads_L93 (h9 : Nat → z_M → z_R) (v0 : Nat) (v1 : Int32) (m : z_M) : z_R := f_X5_reads_L94 h9 v0 v1 0 m
def f_X5_reads_L9 : Nat → Nat → z_M → z_R
  | 0, _, _ => none
  | n + 1, v0, m => z_gI m v0 5 9 fun x1 => z_gI m v0 5 1 fun x2 => if x2 ≤ x1 then (some ((-4), m)) else (z_gI m v0 5 9 fun x3 => z_gP m v0 5 0 fun a4 => z_gI m v0 5 9 fun x5 => z_al m a4 x5 fun x6 => z_gI m v0 5 9 fun x7 => z_lt (x7 + 1) fun x8 => z_sI m v0 5 9 x8 fun m9 => if x6 = 109 then (z_cv m9 v0 5 (f_X5_readsMan v0 m9) fun x14 m15 => f_X5_reads_L94 (f_X5_reads_L9 n) v0 x3 x14 m15) else (if x6 = 122 then (z_cv m9 v0 5 (f_X5_readsOne v0 1 99 m9) fun x12 m13 => f_X5_reads_L94 (f_X5_reads_L9 n) v0 x3 x12 m13) else (if x6 = 101 then (z_cv m9 v0 5 (f_X5_readsOne v0 2 1 m9) fun x10 m11 => if x10 = 0 then (f_X5_reads_L93 (f_X5_reads_L9 n) v0 x3 m11) else (f_X5_reads_L94 (f_X5_reads_L9 n) v0 x3 1 m11)) else (f_X5_reads_L93 (f_X5_reads_L9 n) v0 x3 m9))))
def f_X5_reads (v0 : Nat) (m : z_M) : z_R := z_cv m v0 5 (f_X5_begins v0 m) fun _ m16 => z_sI m16 v0 5 9 0 fun m17 => f_X5_reads_L9 400 v0 m17
def f_X5_fault (v0 : Nat) (m : z_M) : z_R := z_cv m v0 5 (f_X5_reads v0 m) fun x1 m2 => some (x1, m2)
def f_X5_isMan (v0 : Nat) (v1 : Int32) (m : z_M) : z_R := z_gP m v0 5 2 fun a1 => z_al m a1 0 fun x2 => z_b (f_X5_in v1 0 (x2 - 1) m) fun x3 m4 => z_rz x3 m4
def f_X5_follows (v0 : Nat) (v1 : Int32) (m : z_M) : z_R := z_cv m v0 5 (f_X5_isMan v0 v1 m) fun x1 m2 => if x1 = 0 then (some ((-1), m2)) else (z_gP m2 v0 5 4 fun a3 => z_al m2 a3 16 fun x4 => if x4 = 1 then (some (v1, m2)) else (z_cv m2 v0 5 (f_X5_leader v0 v1 m2) fun x5 m6 => some (x5, m6)))
def f_X5_groups_L92 (h21 : Nat → Int32 → Int32 → Int32 → Int32 → Int32 → z_M → z_R) (v0 : Nat) (v1 : Int32) (v2 : Int32) (v4 : Int32) (v5 : Int32) (s0 : Int32) (m : z_M) : z_R := h21 v0 v1 v2 s0 v4 (v5 + 1) m
def f_X5_groups_L78 (h21 : Nat → Int32 → Int32 → Int32 → Int32 → Int32 → z_M → z_R) (v0 : Nat) (v1 : Int32) (v3 : Int32) (v4 : Int32) (v5 : Int32) (s0 : Int32) (s1 : Int32) (m : z_M) : z_R := z_lt (s1 + s0) fun x1 => if v4 ≤ v3 then (f_X5_groups_L92 h21 v0 v1 x1 v4 v5 v3 m) else (f_X5_groups_L92 h21 v0 v1 x1 v4 v5 v4 m)
def f_X5_groups_L64 (h21 : Nat → Int32 → Int32 → Int32 → Int32 → Int32 → z_M → z_R) (v0 : Nat) (v1 : Int32) (v2 : Int32) (v3 : Int32) (v5 : Int32) (s0 : Int32) (m : z_M) : z_R := if s0 = 1 then (f_X5_groups_L78 h21 v0 v1 v3 s0 v5 1 v2 m) else (f_X5_groups_L78 h21 v0 v1 v3 s0 v5 0 v2 m)
def f_X5_groups_L63 (h21 : Nat → Int32 → Int32 → Int32 → Int32 → Int32 → z_M → z_R) (v0 : Nat) (v1 : Int32) (v2 : Int32) (v3 : Int32) (v5 : Int32) (m : z_M) : z_R := f_X5_groups_L64 h21 v0 v1 v2 v3 v5 1 m
def f_X5_groups_L21 : Nat → Nat → Int32 → Int32 → Int32 → Int32 → Int32 → z_M → z_R
  | 0, _, _, _, _, _, _, _ => none
  | n + 1, v0, v1, v2, v3, v4, v5, m => z_gP m v0 5 2 fun a2 => z_al m a2 0 fun x3 => if x3 ≤ v5 then (if v1 = 0 then (some (v2, m)) else (some (v3, m))) else (if v5 ≤ 0 then (f_X5_groups_L63 (f_X5_groups_L21 n) v0 v1 v2 v3 v5 m) else (z_gP m v0 5 4 fun a4 => z_al m a4 v5 fun x5 => z_gP m v0 5 4 fun a6 => z_al m a6 (v5 - 1) fun x7 => if x5 = x7 then (f_X5_groups_L64 (f_X5_groups_L21 n) v0 v1 v2 v3 v5 (v4 + 1) m) else (f_X5_groups_L63 (f_X5_groups_L21 n) v0 v1 v2 v3 v5 m)))
def f_X5_groups (v0 : Nat) (v1 : Int32) (m : z_M) : z_R := z_b (f_X5_in v1 0 1 m) fun x8 m9 => if x8 = 0 then (some ((-1), m9)) else (f_X5_groups_L21 400 v0 v1 0 0 0 0 m9)
def f_X5_lays_L79 (h28 : Nat → Int32 → z_M → z_R) (v0 : Nat) (v1 : Int32) (s0 : Int32) (s1 : Int32) (s2 : Nat) (m : z_M) : z_R := z_as m s2 s1 s0 fun m1 => h28 v0 (v1 + 1) m1
def f_X5_lays_L28 : Nat → Nat → Int32 → z_M → z_R
  | 0, _, _, _ => none
  | n + 1, v0, v1, m => if 22 ≤ v1 then (z_gP m v0 5 4 fun a2 => z_gP m v0 5 2 fun a3 => z_al m a3 2 fun x4 => z_as m a2 16 x4 fun m5 => z_gP m5 v0 5 4 fun a6 => z_as m5 a6 18 (-1) fun m7 => z_sI m7 v0 5 6 0 fun m8 => z_sI m8 v0 5 8 0 fun m9 => some (0, m9)) else (z_gP m v0 5 4 fun a10 => if 8 ≤ v1 then (if 16 ≤ v1 then (f_X5_lays_L79 (f_X5_lays_L28 n) v0 v1 0 v1 a10 m) else (z_gP m v0 5 2 fun a11 => z_al m a11 ((19 + v1) - 8) fun x12 => f_X5_lays_L79 (f_X5_lays_L28 n) v0 v1 x12 v1 a10 m)) else (z_gP m v0 5 2 fun a13 => z_al m a13 (11 + v1) fun x14 => f_X5_lays_L79 (f_X5_lays_L28 n) v0 v1 x14 v1 a10 m))
def f_X5_lays_L2 : Nat → Nat → Int32 → z_M → z_R
  | 0, _, _, _ => none
  | n + 1, v0, v1, m => if 35 ≤ v1 then (f_X5_lays_L28 400 v0 0 m) else (z_gP m v0 5 2 fun a15 => z_gP m v0 5 3 fun a16 => z_al m a16 v1 fun x17 => z_as m a15 v1 x17 fun m18 => f_X5_lays_L2 n v0 (v1 + 1) m18)
def f_X5_lays (v0 : Nat) (m : z_M) : z_R := f_X5_lays_L2 400 v0 0 m
def f_X5_init (v0 : Nat) (m : z_M) : z_R := z_na m 6 200 fun a1 m2 => z_sP m2 v0 5 0 a1 fun m3 => z_na m3 6 35 fun a4 m5 => z_sP m5 v0 5 2 a4 fun m6 => z_na m6 6 35 fun a7 m8 => z_sP m8 v0 5 3 a7 fun m9 => z_na m9 6 22 fun a10 m11 => z_sP m11 v0 5 4 a10 fun m12 => z_na m12 6 176 fun a13 m14 => z_sP m14 v0 5 5 a13 fun m15 => z_na m15 6 44 fun a16 m17 => z_sP m17 v0 5 7 a16 fun m18 => z_sI m18 v0 5 10 (-1) fun m19 => z_na m19 6 22 fun a20 m21 => z_sP m21 v0 5 12 a20 fun m22 => z_cv m22 v0 5 (f_X5_begins v0 m22) fun _ m23 => z_cv m23 v0 5 (f_X5_adds v0 0 0 0 0 m23) fun _ m24 => z_cv m24 v0 5 (f_X5_adds v0 1 0 0 10 m24) fun _ m25 => z_cv m25 v0 5 (f_X5_adds v0 2 0 1 0 m25) fun _ m26 => z_cv m26 v0 5 (f_X5_adds v0 2 0 2 3 m26) fun _ m27 => z_cv m27 v0 5 (f_X5_adds v0 3 0 0 0 m27) fun _ m28 => z_cv m28 v0 5 (f_X5_adds v0 1 0 5 5 m28) fun _ m29 => z_cv m29 v0 5 (f_X5_adds v0 2 0 3 6 m29) fun _ m30 => z_gP m30 v0 5 3 fun a31 => z_as m30 a31 1 4 fun m32 => z_cv m32 v0 5 (f_X5_lays v0 m32) fun _ m33 => some (0, m33)
def f_X5_keep_L13 : Nat → Nat → Int32 → z_M → z_R
  | 0, _, _, _ => none
  | n + 1, v0, v1, m => if 22 ≤ v1 then (z_gI m v0 5 8 fun x1 => z_lt (x1 + 1) fun x2 => z_sI m v0 5 8 x2 fun m3 => z_gI m3 v0 5 8 fun x4 => some (x4, m3)) else (z_gP m v0 5 7 fun a5 => z_gI m v0 5 8 fun x6 => z_gP m v0 5 4 fun a7 => z_al m a7 v1 fun x8 => z_as m a5 ((22 * x6) + v1) x8 fun m9 => f_X5_keep_L13 n v0 (v1 + 1) m9)
def f_X5_keep (v0 : Nat) (m : z_M) : z_R := z_gI m v0 5 8 fun x10 => if x10 = 2 then (some ((-3), m)) else (f_X5_keep_L13 400 v0 0 m)
def f_X5_lay_L70 (v0 : Nat) (v1 : Int32) (m : z_M) : z_R := if v1 = 0 then (some ((-2), m)) else (z_cv m v0 5 (f_X5_lays v0 m) fun _ m1 => z_gP m1 v0 5 2 fun a2 => z_al m1 a2 0 fun x3 => some (x3, m1))
def f_X5_lay_L63 (h26 : Nat → Int32 → Int32 → z_M → z_R) (v0 : Nat) (v2 : Int32) (s0 : Int32) (m : z_M) : z_R := h26 v0 s0 (v2 + 1) m
def f_X5_lay_L26 : Nat → Nat → Int32 → Int32 → z_M → z_R
  | 0, _, _, _, _ => none
  | n + 1, v0, v1, v2, m => z_gP m v0 5 3 fun a4 => z_al m a4 0 fun x5 => if x5 ≤ v2 then (f_X5_lay_L70 v0 v1 m) else (if v1 = 0 then (f_X5_lay_L70 v0 v1 m) else (z_gP m v0 5 3 fun a6 => z_al m a6 (19 + v2) fun x7 => z_gP m v0 5 3 fun a8 => z_al m a8 0 fun x9 => if x9 ≤ x7 then (f_X5_lay_L63 (f_X5_lay_L26 n) v0 v2 0 m) else (f_X5_lay_L63 (f_X5_lay_L26 n) v0 v2 1 m)))
def f_X5_lay_L23 (v0 : Nat) (s0 : Int32) (m : z_M) : z_R := f_X5_lay_L26 400 v0 s0 0 m
def f_X5_lay_L22 (v0 : Nat) (m : z_M) : z_R := f_X5_lay_L23 v0 0 m
def f_X5_lay (v0 : Nat) (m : z_M) : z_R := z_cv m v0 5 (f_X5_reads v0 m) fun x10 m11 => if x10 = (-4) then (z_gP m11 v0 5 3 fun a12 => z_al m11 a12 0 fun x13 => if x13 ≤ 0 then (f_X5_lay_L22 v0 m11) else (f_X5_lay_L23 v0 1 m11)) else (f_X5_lay_L22 v0 m11)
def f_X5_look (v0 : Nat) (v1 : Int32) (v2 : Int32) (m : z_M) : z_R := z_cv m v0 5 (f_X5_isMan v0 v1 m) fun x1 m2 => if x1 = 0 then (some ((-1), m2)) else (z_cv m2 v0 5 (f_X5_isMan v0 v2 m2) fun x3 m4 => if x3 = 0 then (some ((-1), m4)) else (z_cv m4 v0 5 (f_X5_keeps v0 m4) fun _ m5 => z_gP m5 v0 5 4 fun a6 => z_al m5 a6 (8 + v1) fun x7 => z_gP m5 v0 5 4 fun a8 => z_as m5 a8 (8 + v1) v2 fun m9 => some (x7, m9)))
def f_X5_man (v0 : Nat) (v1 : Int32) (v2 : Int32) (m : z_M) : z_R := z_cv m v0 5 (f_X5_isMan v0 v1 m) fun x1 m2 => if x1 = 0 then (some ((-1), m2)) else (if v2 = 0 then (z_gP m2 v0 5 2 fun a3 => z_al m2 a3 (3 + v1) fun x4 => some (x4, m2)) else if v2 = 1 then (z_gP m2 v0 5 4 fun a5 => z_al m2 a5 v1 fun x6 => some (x6, m2)) else if v2 = 2 then (z_gP m2 v0 5 4 fun a7 => z_al m2 a7 (8 + v1) fun x8 => some (x8, m2)) else if v2 = 3 then (z_gP m2 v0 5 2 fun a9 => z_al m2 a9 (27 + v1) fun x10 => some (x10, m2)) else if v2 = 4 then (z_cv m2 v0 5 (f_X5_dueOf v0 v1 m2) fun x11 m12 => some (x11, m12)) else (some ((-1), m2)))
def f_X5_most_L94 (h18 : Nat → Int32 → Int32 → Int32 → Int32 → z_M → z_R) (v0 : Nat) (v1 : Int32) (v2 : Int32) (v4 : Int32) (s0 : Int32) (m : z_M) : z_R := h18 v0 v1 v2 s0 (v4 + 1) m
def f_X5_most_L81 (h18 : Nat → Int32 → Int32 → Int32 → Int32 → z_M → z_R) (v0 : Nat) (v1 : Int32) (v3 : Int32) (v4 : Int32) (v5 : Int32) (s0 : Int32) (m : z_M) : z_R := if v5 ≤ v3 then (f_X5_most_L94 h18 v0 v1 s0 v4 v3 m) else (f_X5_most_L94 h18 v0 v1 s0 v4 v5 m)
def f_X5_most_L60 (h30 : Nat → Int32 → Int32 → Int32 → Int32 → Int32 → Int32 → z_M → z_R) (v0 : Nat) (v1 : Int32) (v2 : Int32) (v3 : Int32) (v4 : Int32) (v6 : Int32) (s0 : Int32) (s1 : Int32) (m : z_M) : z_R := z_lt (s1 + s0) fun x1 => h30 v0 v1 v2 v3 v4 x1 (v6 + 1) m
def f_X5_most_L30 (h18 : Nat → Int32 → Int32 → Int32 → Int32 → z_M → z_R) : Nat → Nat → Int32 → Int32 → Int32 → Int32 → Int32 → Int32 → z_M → z_R
  | 0, _, _, _, _, _, _, _, _ => none
  | n + 1, v0, v1, v2, v3, v4, v5, v6, m => z_gP m v0 5 2 fun a2 => z_al m a2 0 fun x3 => if x3 ≤ v6 then (if v5 ≤ v3 then (f_X5_most_L81 h18 v0 v1 v3 v4 v5 v2 m) else (f_X5_most_L81 h18 v0 v1 v3 v4 v5 v4 m)) else (z_gP m v0 5 4 fun a4 => z_al m a4 v6 fun x5 => if x5 = v4 then (f_X5_most_L60 (f_X5_most_L30 h18 n) v0 v1 v2 v3 v4 v6 1 v5 m) else (f_X5_most_L60 (f_X5_most_L30 h18 n) v0 v1 v2 v3 v4 v6 0 v5 m))
def f_X5_most_L18 : Nat → Nat → Int32 → Int32 → Int32 → Int32 → z_M → z_R
  | 0, _, _, _, _, _, _ => none
  | n + 1, v0, v1, v2, v3, v4, m => if 4 ≤ v4 then (if v1 = 0 then (some (v2, m)) else (some (v3, m))) else (f_X5_most_L30 (f_X5_most_L18 n) 400 v0 v1 v2 v3 v4 0 0 m)
def f_X5_most (v0 : Nat) (v1 : Int32) (m : z_M) : z_R := z_b (f_X5_in v1 0 1 m) fun x6 m7 => if x6 = 0 then (some ((-1), m7)) else (f_X5_most_L18 400 v0 v1 0 (-1) 0 m7)
def f_X5_rows_L115 (h30 : Nat → Int32 → Int32 → Int32 → Int32 → z_M → z_R) (v0 : Nat) (v1 : Int32) (v3 : Int32) (v4 : Int32) (s0 : Int32) (s1 : Int32) (m : z_M) : z_R := z_lt (s1 + s0) fun x1 => z_cv m v0 5 (f_X5_lets v0 m) fun _ m2 => h30 v0 v1 x1 v3 (v4 + 1) m2
def f_X5_rows_L101 (h30 : Nat → Int32 → Int32 → Int32 → Int32 → z_M → z_R) (v0 : Nat) (v1 : Int32) (v2 : Int32) (v3 : Int32) (v4 : Int32) (v6 : Int32) (s0 : Int32) (s1 : Nat) (m : z_M) : z_R := z_sI m s1 5 13 s0 fun m3 => if v6 = 0 then (f_X5_rows_L115 h30 v0 v1 v3 v4 0 v2 m3) else (f_X5_rows_L115 h30 v0 v1 v3 v4 1 v2 m3)
def f_X5_rows_L97 (h30 : Nat → Int32 → Int32 → Int32 → Int32 → z_M → z_R) (v0 : Nat) (v1 : Int32) (v2 : Int32) (v3 : Int32) (v4 : Int32) (v6 : Int32) (s0 : Nat) (m : z_M) : z_R := z_gI m v0 5 13 fun x4 => f_X5_rows_L101 h30 v0 v1 v2 v3 v4 v6 x4 s0 m
def f_X5_rows_L42 (h30 : Nat → Int32 → Int32 → Int32 → Int32 → z_M → z_R) : Nat → Nat → Int32 → Int32 → Int32 → Int32 → Int32 → Int32 → z_M → z_R
  | 0, _, _, _, _, _, _, _, _ => none
  | n + 1, v0, v1, v2, v3, v4, v5, v6, m => if v1 ≤ v6 then (z_cv m v0 5 (f_X5_isOneWay v0 m) fun x5 m6 => if x5 = 0 then (f_X5_rows_L97 h30 v0 v1 v2 v3 v4 x5 v0 m6) else (if v2 = 0 then (f_X5_rows_L101 h30 v0 v1 v2 v3 v4 x5 v4 v0 m6) else (f_X5_rows_L97 h30 v0 v1 v2 v3 v4 x5 v0 m6))) else (z_lt (v5 / 3) fun x7 => z_dv v4 x7 fun x8 => z_cv m v0 5 (f_X5_errors v0 1 m) fun x9 m10 => z_cv m10 v0 5 (f_X5_says v0 (z_mI x8 3) x9 m10) fun _ m11 => f_X5_rows_L42 h30 n v0 v1 v2 v3 v4 x7 (v6 + 1) m11)
def f_X5_rows_L30 : Nat → Nat → Int32 → Int32 → Int32 → Int32 → z_M → z_R
  | 0, _, _, _, _, _, _ => none
  | n + 1, v0, v1, v2, v3, v4, m => if v3 ≤ v4 then (some (v2, m)) else (f_X5_rows_L42 (f_X5_rows_L30 n) 400 v0 v1 v2 v3 v4 v3 0 m)
def f_X5_rows_L11 : Nat → Nat → Int32 → Int32 → Int32 → Int32 → z_M → z_R
  | 0, _, _, _, _, _, _ => none
  | n + 1, v0, v1, v2, v3, v4, m => if v1 ≤ v4 then (f_X5_rows_L30 400 v0 v1 v2 v3 0 m) else (z_lt (v3 * 3) fun x12 => f_X5_rows_L11 n v0 v1 v2 x12 (v4 + 1) m)
def f_X5_rows (v0 : Nat) (v1 : Int32) (m : z_M) : z_R := z_cv m v0 5 (f_X5_holds v0 m) fun _ m13 => f_X5_rows_L11 400 v0 v1 0 1 0 m13
def f_X5_numbers (v0 : Nat) (v1 : Int32) (m : z_M) : z_R := z_b (f_X5_in v1 1 5 m) fun x1 m2 => if x1 = 0 then (some ((-1), m2)) else (z_cv m2 v0 5 (f_X5_rows v0 v1 m2) fun x3 m4 => some (x3, m4))
def f_X5_plan_L36 : Nat → Int32 → Int32 → Int32 → Int32 → z_M → z_R
  | 0, _, _, _, _, _ => none
  | n + 1, v1, v2, v3, v4, m => if v4 ≤ v1 then (if v1 = (-1) then (some (v2, m)) else (if v2 ≤ v1 then (some ((-4), m)) else (some (z_mI v3 3, m)))) else (z_lt (v3 / 3) fun x1 => f_X5_plan_L36 n v1 v2 x1 (v4 + (-1)) m)
def f_X5_plan_L13 : Nat → Nat → Int32 → Int32 → z_M → z_R
  | 0, _, _, _, _ => none
  | n + 1, v0, v1, v2, m => if 5 < v2 then (some ((-4), m)) else (z_cv m v0 5 (f_X5_rows v0 v2 m) fun x2 m3 => if x2 ≤ 0 then (f_X5_plan_L13 n v0 v1 (v2 + 1) m3) else (z_gI m3 v0 5 13 fun x4 => z_lt (v2 - 1) fun x5 => f_X5_plan_L36 400 v1 v2 x4 x5 m3))
def f_X5_plan (v0 : Nat) (v1 : Int32) (m : z_M) : z_R := z_b (f_X5_in v1 (-1) 4 m) fun x6 m7 => if x6 = 0 then (some ((-1), m7)) else (f_X5_plan_L13 400 v0 v1 0 m7)
def f_X5_right_L135 (v3 : Int32) (s0 : Int32) (s1 : Int32) (m : z_M) : z_R := z_lt (s1 + s0) fun x1 => z_b (f_X5_common x1 10 m) fun x2 m3 => if v3 = 0 then (z_dv x1 x2 fun x5 => some (x5, m3)) else (z_dv 10 x2 fun x4 => some (x4, m3))
def f_X5_right_L102 (v0 : Nat) (v1 : Int32) (v2 : Int32) (v3 : Int32) (v5 : Int32) (v6 : Int32) (s0 : Int32) (m : z_M) : z_R := z_gP m v0 5 4 fun a6 => z_al m a6 v1 fun x7 => z_cv m v0 5 (f_X5_turnBy v0 v1 v2 255 m) fun x8 m9 => if (z_mI (x7 + x8) 4) = v5 then (f_X5_right_L135 v3 v6 s0 m9) else (f_X5_right_L135 v3 0 s0 m9)
def f_X5_right_L70 (v0 : Nat) (v1 : Int32) (v2 : Int32) (v3 : Int32) (v5 : Int32) (s0 : Int32) (m : z_M) : z_R := z_gP m v0 5 4 fun a10 => z_al m a10 v1 fun x11 => z_cv m v0 5 (f_X5_turnBy v0 v1 v2 0 m) fun x12 m13 => if (z_mI (x11 + x12) 4) = v5 then (f_X5_right_L102 v0 v1 v2 v3 v5 s0 (10 - s0) m13) else (f_X5_right_L102 v0 v1 v2 v3 v5 s0 0 m13)
def f_X5_right (v0 : Nat) (v1 : Int32) (v2 : Int32) (v3 : Int32) (m : z_M) : z_R := z_cv m v0 5 (f_X5_isMan v0 v1 m) fun x14 m15 => if x14 = 0 then (some ((-1), m15)) else (z_b (f_X5_isWord v2 m15) fun x16 m17 => if x16 = 0 then (some ((-1), m17)) else (z_b (f_X5_in v3 0 1 m17) fun x18 m19 => if x18 = 0 then (some ((-1), m19)) else (z_cv m19 v0 5 (f_X5_turnsAs v0 v1 m19) fun x20 m21 => z_cv m21 v0 5 (f_X5_dueOf v0 v1 m21) fun x22 m23 => z_b (f_X5_turnOf v2 m23) fun x24 m25 => z_lt (z_mI (x22 + x24) 4) fun x26 => z_cv m25 v0 5 (f_X5_mayErr v0 x20 m25) fun x27 m28 => if x27 = 0 then (f_X5_right_L70 v0 v1 v2 v3 x26 0 m28) else (z_gP m28 v0 5 2 fun a29 => z_al m28 a29 (27 + x20) fun x30 => f_X5_right_L70 v0 v1 v2 v3 x26 x30 m28))))
def f_X5_runs_L44 (h14 : Nat → Int32 → Int32 → Int32 → z_M → z_R) (v0 : Nat) (v1 : Int32) (v3 : Int32) (s0 : Int32) (s1 : Int32) (m : z_M) : z_R := z_lt (s1 + s0) fun x1 => h14 v0 v1 x1 (v3 + 1) m
def f_X5_runs_L43 (h14 : Nat → Int32 → Int32 → Int32 → z_M → z_R) (v0 : Nat) (v1 : Int32) (v3 : Int32) (s0 : Int32) (m : z_M) : z_R := f_X5_runs_L44 h14 v0 v1 v3 0 s0 m
def f_X5_runs_L14 : Nat → Nat → Int32 → Int32 → Int32 → z_M → z_R
  | 0, _, _, _, _, _ => none
  | n + 1, v0, v1, v2, v3, m => z_gP m v0 5 2 fun a2 => z_al m a2 0 fun x3 => if x3 ≤ v3 then (some (v2, m)) else (if v3 = v1 then (f_X5_runs_L43 (f_X5_runs_L14 n) v0 v1 v3 v2 m) else (z_cv m v0 5 (f_X5_leader v0 v3 m) fun x4 m5 => if x4 = v1 then (f_X5_runs_L44 (f_X5_runs_L14 n) v0 v1 v3 1 v2 m5) else (f_X5_runs_L43 (f_X5_runs_L14 n) v0 v1 v3 v2 m5)))
def f_X5_runs (v0 : Nat) (v1 : Int32) (m : z_M) : z_R := z_cv m v0 5 (f_X5_isMan v0 v1 m) fun x6 m7 => if x6 = 0 then (some ((-1), m7)) else (f_X5_runs_L14 400 v0 v1 0 0 m7)
def f_X5_safe_L83 (h27 : Nat → Int32 → Int32 → Int32 → z_M → z_R) (v0 : Nat) (v1 : Int32) (v3 : Int32) (s0 : Int32) (m : z_M) : z_R := h27 v0 v1 s0 (v3 + (-1)) m
def f_X5_safe_L82 (h27 : Nat → Int32 → Int32 → Int32 → z_M → z_R) (v0 : Nat) (v1 : Int32) (v2 : Int32) (v3 : Int32) (m : z_M) : z_R := f_X5_safe_L83 h27 v0 v1 v3 v2 m
def f_X5_safe_L51 (h27 : Nat → Int32 → Int32 → Int32 → z_M → z_R) (v0 : Nat) (v1 : Int32) (v2 : Int32) (v3 : Int32) (s0 : Int32) (m : z_M) : z_R := if s0 = (-4) then (f_X5_safe_L82 h27 v0 v1 v2 v3 m) else (if s0 = v1 then (f_X5_safe_L82 h27 v0 v1 v2 v3 m) else (z_gP m v0 5 2 fun a1 => z_al m a1 (3 + s0) fun x2 => if x2 = 0 then (f_X5_safe_L83 h27 v0 v1 v3 v3 m) else (f_X5_safe_L82 h27 v0 v1 v2 v3 m)))
def f_X5_safe_L27 : Nat → Nat → Int32 → Int32 → Int32 → z_M → z_R
  | 0, _, _, _, _, _ => none
  | n + 1, v0, v1, v2, v3, m => if v3 < 0 then (z_sI m v0 5 10 (-1) fun m3 => some (v2, m3)) else (z_sI m v0 5 11 v3 fun m4 => if v3 = v1 then (f_X5_safe_L51 (f_X5_safe_L27 n) v0 v1 v2 v3 (-4) m4) else (z_cv m4 v0 5 (f_X5_leader v0 v1 m4) fun x5 m6 => f_X5_safe_L51 (f_X5_safe_L27 n) v0 v1 v2 v3 x5 m6))
def f_X5_safe (v0 : Nat) (v1 : Int32) (m : z_M) : z_R := z_cv m v0 5 (f_X5_isMan v0 v1 m) fun x7 m8 => if x7 = 0 then (some ((-1), m8)) else (z_sI m8 v0 5 10 v1 fun m9 => z_gP m9 v0 5 2 fun a10 => z_al m9 a10 0 fun x11 => z_lt (x11 - 1) fun x12 => f_X5_safe_L27 400 v0 v1 (-4) x12 m9)
def f_X5_shout_L94 (h18 : Nat → Int32 → Int32 → Int32 → z_M → z_R) (v0 : Nat) (v1 : Int32) (v2 : Int32) (v3 : Int32) (m : z_M) : z_R := h18 v0 v1 v2 (v3 + 1) m
def f_X5_shout_L62 (h18 : Nat → Int32 → Int32 → Int32 → z_M → z_R) (v0 : Nat) (v1 : Int32) (v2 : Int32) (v3 : Int32) (m : z_M) : z_R := z_gP m v0 5 4 fun a1 => z_gP m v0 5 4 fun a2 => z_al m a2 v3 fun x3 => z_lt (z_mI (x3 + 2) 4) fun x4 => z_as m a1 v3 x4 fun m5 => z_gP m5 v0 5 4 fun a6 => z_al m5 a6 21 fun x7 => z_lt (x7 ||| (1 <<< (v3 &&& 31))) fun x8 => z_as m5 a6 21 x8 fun m9 => f_X5_shout_L94 h18 v0 v1 (v2 + 1) v3 m9
def f_X5_shout_L18 : Nat → Nat → Int32 → Int32 → Int32 → z_M → z_R
  | 0, _, _, _, _, _ => none
  | n + 1, v0, v1, v2, v3, m => z_gP m v0 5 2 fun a10 => z_al m a10 0 fun x11 => if x11 ≤ v3 then (some (v2, m)) else (if v3 = v1 then (f_X5_shout_L62 (f_X5_shout_L18 n) v0 v1 v2 v3 m) else (z_gP m v0 5 4 fun a12 => z_al m a12 16 fun x13 => if x13 = 0 then (z_cv m v0 5 (f_X5_leader v0 v3 m) fun x14 m15 => if x14 = (-4) then (f_X5_shout_L94 (f_X5_shout_L18 n) v0 v1 v2 v3 m15) else (z_cv m15 v0 5 (f_X5_comesBy v0 v3 v1 m15) fun x16 m17 => if x16 = 0 then (f_X5_shout_L94 (f_X5_shout_L18 n) v0 v1 v2 v3 m17) else (f_X5_shout_L62 (f_X5_shout_L18 n) v0 v1 v2 v3 m17))) else (f_X5_shout_L94 (f_X5_shout_L18 n) v0 v1 v2 v3 m)))
def f_X5_shout (v0 : Nat) (v1 : Int32) (m : z_M) : z_R := z_cv m v0 5 (f_X5_isMan v0 v1 m) fun x18 m19 => if x18 = 0 then (some ((-1), m19)) else (z_cv m19 v0 5 (f_X5_keeps v0 m19) fun _ m20 => f_X5_shout_L18 400 v0 v1 0 0 m20)
def f_X5_turn (v0 : Nat) (v1 : Int32) (v2 : Int32) (m : z_M) : z_R := z_cv m v0 5 (f_X5_isMan v0 v1 m) fun x1 m2 => if x1 = 0 then (some ((-1), m2)) else (z_b (f_X5_isWord v2 m2) fun x3 m4 => if x3 = 0 then (some ((-1), m4)) else (z_gP m4 v0 5 4 fun a5 => z_al m4 a5 v1 fun x6 => z_cv m4 v0 5 (f_X5_errors v0 1 m4) fun x7 m8 => z_cv m8 v0 5 (f_X5_turnBy v0 v1 v2 x7 m8) fun x9 m10 => some (z_mI (x6 + x9) 4, m10)))
def f_X5_undo_L22 : Nat → Nat → Int32 → z_M → z_R
  | 0, _, _, _ => none
  | n + 1, v0, v1, m => if 22 ≤ v1 then (z_gI m v0 5 6 fun x1 => some (x1, m)) else (z_gP m v0 5 4 fun a2 => z_gP m v0 5 5 fun a3 => z_gI m v0 5 6 fun x4 => z_al m a3 ((22 * x4) + v1) fun x5 => z_as m a2 v1 x5 fun m6 => f_X5_undo_L22 n v0 (v1 + 1) m6)
def f_X5_undo (v0 : Nat) (m : z_M) : z_R := z_gI m v0 5 6 fun x7 => if x7 = 0 then (some ((-2), m)) else (z_gI m v0 5 6 fun x8 => z_lt (x8 - 1) fun x9 => z_sI m v0 5 6 x9 fun m10 => f_X5_undo_L22 400 v0 0 m10)
def f_X5_which_L50 (h24 : Nat → Int32 → Int32 → Int32 → Int32 → z_M → z_R) (v0 : Nat) (v1 : Int32) (v2 : Int32) (v4 : Int32) (s0 : Int32) (s1 : Int32) (m : z_M) : z_R := z_lt (s1 ||| s0) fun x1 => h24 v0 v1 v2 x1 (v4 + 1) m
def f_X5_which_L24 : Nat → Nat → Int32 → Int32 → Int32 → Int32 → z_M → z_R
  | 0, _, _, _, _, _, _ => none
  | n + 1, v0, v1, v2, v3, v4, m => if 3 ≤ v4 then (some (v3, m)) else (z_cv m v0 5 (f_X5_turn v0 v1 v4 m) fun x2 m3 => if x2 = v2 then (f_X5_which_L50 (f_X5_which_L24 n) v0 v1 v2 v4 (1 <<< (v4 &&& 31)) v3 m3) else (f_X5_which_L50 (f_X5_which_L24 n) v0 v1 v2 v4 0 v3 m3))
def f_X5_which (v0 : Nat) (v1 : Int32) (v2 : Int32) (m : z_M) : z_R := z_cv m v0 5 (f_X5_isMan v0 v1 m) fun x4 m5 => if x4 = 0 then (some ((-1), m5)) else (z_b (f_X5_in v2 0 3 m5) fun x6 m7 => if x6 = 0 then (some ((-1), m7)) else (f_X5_which_L24 400 v0 v1 v2 0 0 m7))
def f_X5_who (v0 : Nat) (v1 : Int32) (m : z_M) : z_R := z_b (f_X5_in v1 0 2 m) fun x1 m2 => if x1 = 0 then (some ((-1), m2)) else (z_gP m2 v0 5 2 fun a3 => z_al m2 a3 0 fun x4 => z_lt ((1 <<< (x4 &&& 31)) - 1) fun x5 => if v1 = 0 then (z_cv m2 v0 5 (f_X5_wrong v0 m2) fun x14 m15 => some (x14, m15)) else (if v1 = 1 then (z_gP m2 v0 5 4 fun a8 => z_al m2 a8 20 fun x9 => z_gP m2 v0 5 4 fun a10 => z_al m2 a10 21 fun x11 => z_cv m2 v0 5 (f_X5_wrong v0 m2) fun x12 m13 => some (((x9 ||| x11) &&& x5) &&& (x12 ^^^ (-1)), m13)) else (z_gP m2 v0 5 4 fun a6 => z_al m2 a6 20 fun x7 => some (x7, m2))))
def f_X5_wipe (v0 : Nat) (m : z_M) : z_R := z_gI m v0 5 1 fun x1 => z_sI m v0 5 1 0 fun m2 => some (x1, m2)
def f_X5_word (v0 : Nat) (v1 : Int32) (m : z_M) : z_R := z_b (f_X5_isWord v1 m) fun x1 m2 => if x1 = 0 then (some ((-1), m2)) else (z_gP m2 v0 5 4 fun a3 => z_al m2 a3 17 fun x4 => if x4 = 999 then (some ((-2), m2)) else (z_cv m2 v0 5 (f_X5_keeps v0 m2) fun _ m5 => z_cv m5 v0 5 (f_X5_errors v0 0 m5) fun x6 m7 => z_cv m7 v0 5 (f_X5_says v0 v1 x6 m7) fun _ m8 => z_cv m8 v0 5 (f_X5_wrong v0 m8) fun x9 m10 => z_b (f_X5_ones x9 m10) fun x11 m12 => some (x11, m12)))
def f_X5_write (v0 : Nat) (v1 : Int32) (m : z_M) : z_R := z_b (f_X5_in v1 32 126 m) fun x1 m2 => if x1 = 0 then (some ((-1), m2)) else (z_gI m2 v0 5 1 fun x3 => if x3 = 200 then (some ((-3), m2)) else (z_gP m2 v0 5 0 fun a4 => z_gI m2 v0 5 1 fun x5 => z_as m2 a4 x5 v1 fun m6 => z_gI m6 v0 5 1 fun x7 => z_lt (x7 + 1) fun x8 => z_sI m6 v0 5 1 x8 fun m9 => z_gI m9 v0 5 1 fun x10 => some (x10, m9)))
end
section
/-! THE PURE PART. Memory as it stands when both objects are made: 65 cells. -/
def p_z : Nat := 1164
def p_m (I : Nat → Nat → Int32) (P : Nat → Nat → Option Nat) : z_M := (65, p_z, I, P)
def p_w (I : Nat → Nat → Int32) (a j : Nat) (v : Int32) : Nat → Nat → Int32 := fun b k => if b = a ∧ k = j then v else I b k
def p_r (I : Nat → Nat → Int32) (a : Nat) (f : Nat → Int32) : Nat → Nat → Int32 := fun b k => if b = a then f k else I b k
def p_p (P : Nat → Nat → Option Nat) (a j b0 : Nat) : Nat → Nat → Option Nat := fun b k => if b = a ∧ k = j then some b0 else P b k
theorem p_w_eq (I : Nat → Nat → Int32) (a j : Nat) (v : Int32) : p_w I a j v a j = v := by simp [p_w]
theorem p_w_ne {I : Nat → Nat → Int32} {a j b k : Nat} {v : Int32} (h : b ≠ a ∨ k ≠ j) : p_w I a j v b k = I b k := by
  unfold p_w
  rw [if_neg]
  rintro ⟨h1, h2⟩
  rcases h with h | h
  · exact h h1
  · exact h h2
theorem p_r_eq (I : Nat → Nat → Int32) (a k : Nat) (f : Nat → Int32) : p_r I a f a k = f k := by simp [p_r]
theorem p_r_ne {I : Nat → Nat → Int32} {a b k : Nat} {f : Nat → Int32} (h : b ≠ a) : p_r I a f b k = I b k := by simp [p_r, h]
theorem p_wI (I : Nat → Nat → Int32) (P : Nat → Nat → Option Nat) (a j : Nat) (v : Int32) : z_wI (p_m I P) a j v = p_m (p_w I a j v) P := rfl
theorem p_wP (I : Nat → Nat → Int32) (P : Nat → Nat → Option Nat) (a j b : Nat) : z_wP (p_m I P) a j b = p_m I (p_p P a j b) := rfl
theorem p_wR (I : Nat → Nat → Int32) (P : Nat → Nat → Option Nat) (a : Nat) (f : Nat → Int32) : z_wR (p_m I P) a f = p_m (p_r I a f) P := rfl
section
variable {I : Nat → Nat → Int32} {P : Nat → Nat → Option Nat} {a b c j i : Nat} {v r : Int32} {m : z_M}
theorem p_gI {k : Int32 → z_R} (h1 : a < 65) (h2 : z_k a = c) : z_gI (p_m I P) a c j k = k (I a j) := if_pos ⟨h1, h2⟩
theorem p_gP {k : Nat → z_R} (h1 : a < 65) (h2 : z_k a = c) (h3 : P a j = some b) : z_gP (p_m I P) a c j k = k b := by
  unfold z_gP
  rw [if_pos ⟨h1, h2⟩]
  show (match P a j with | some b => k b | none => none) = k b
  rw [h3]
theorem p_sI {k : z_M → z_R} (h1 : a < 65) (h2 : z_k a = c) : z_sI (p_m I P) a c j v k = k (p_m (p_w I a j v) P) := if_pos ⟨h1, h2⟩
theorem p_sP {k : z_M → z_R} (h1 : a < 65) (h2 : z_k a = c) : z_sP (p_m I P) a c j b k = k (p_m I (p_p P a j b)) := if_pos ⟨h1, h2⟩
theorem p_cv {o : z_R} {k : Int32 → z_M → z_R} (h1 : a < 65) (h2 : z_k a = c) : z_cv (p_m I P) a c o k = z_b o k := if_pos ⟨h1, h2⟩
theorem p_b {k : Int32 → z_M → z_R} : z_b (some (r, m)) k = k r m := rfl
theorem p_in (hi : i < z_n a) : 0 ≤ (nI i).toInt ∧ (nI i).toInt < z_n a := by
  have := z_n200 a
  rw [nI_toInt (by omega)]
  omega
theorem p_cl (hi : i < z_n a) : (nI i).toNatClampNeg = i := nI_clamp (by have := z_n200 a; omega)
theorem p_al {k : Int32 → z_R} (h1 : a < 65) (h2 : z_k a = 6) (hi : i < z_n a) : z_al (p_m I P) a (nI i) k = k (I a i) := by
  unfold z_al
  rw [if_pos ⟨h1, h2, p_in hi⟩, p_cl hi]
  rfl
theorem p_ch {k : Int32 → z_R} (h1 : a < 65) (h2 : z_k a = 7) (hi : i < z_n a) : z_cl (p_m I P) a (nI i) k = k (I a i) := by
  unfold z_cl
  rw [if_pos ⟨h1, h2, p_in hi⟩, p_cl hi]
  rfl
theorem p_as {k : z_M → z_R} (h1 : a < 65) (h2 : z_k a = 6) (hi : i < z_n a) : z_as (p_m I P) a (nI i) v k = k (p_m (p_w I a i v) P) := by
  unfold z_as
  rw [if_pos ⟨h1, h2, p_in hi⟩, p_cl hi]
  rfl
theorem p_cs {k : z_M → z_R} (h1 : a < 65) (h2 : z_k a = 7) (hi : i < z_n a) : z_cs (p_m I P) a (nI i) v k = k (p_m (p_w I a i (vp_nar .char v)) P) := by
  unfold z_cs
  rw [if_pos ⟨h1, h2, p_in hi⟩, p_cl hi]
  rfl
theorem p_pl {k : Nat → z_R} (h1 : a < 65) (h2 : z_k a = 8) (hi : i < z_n a) (h3 : P a i = some b) : z_pl (p_m I P) a (nI i) k = k b := by
  unfold z_pl
  rw [if_pos ⟨h1, h2, p_in hi⟩, p_cl hi]
  show (match P a i with | some b => k b | none => none) = k b
  rw [h3]
theorem p_ps {k : z_M → z_R} (h1 : a < 65) (h2 : z_k a = 8) (hi : i < z_n a) (h3 : b < 65) (h4 : z_k b = 3) : z_ps (p_m I P) a (nI i) b k = k (p_m I (p_p P a i b)) := by
  unfold z_ps
  rw [if_pos ⟨h1, h2, p_in hi, h3, h4⟩, p_cl hi]
  rfl
theorem p_ln {k : Int32 → z_R} (h1 : a < 65) (h2 : z_k a = 6 ∨ z_k a = 7 ∨ z_k a = 8) : z_ln (p_m I P) a k = k (nI (z_n a)) := if_pos ⟨h1, h2⟩
theorem p_cp {k : z_M → z_R} (h1 : a < 65) (h2 : z_k a = 6) (h3 : b < 65) (h4 : z_k b = 6) (h5 : z_n a = 8) (h6 : z_n b = 8) : z_cp (p_m I P) a 0 b 0 8 k = k (p_m (p_r I b (va_cpy (I a) (I b) 0 0 8)) P) := by
  unfold z_cp
  rw [if_pos]
  · rfl
  · exact ⟨⟨h1, h2⟩, ⟨h3, h4⟩, by decide, by rw [h5]; decide, by rw [h6]; decide⟩
theorem p_tl {t : Nat} {k : Int32 → z_R} (hi : i < z_tn t) : z_tl t (nI i) k = k (z_tb t i) := by
  unfold z_tl
  have h6 : z_tn t ≤ 6 := by unfold z_tn; split <;> omega
  rw [if_pos, nI_clamp (by omega)]
  rw [nI_toInt (by omega)]
  omega
theorem p_rz0 : z_rz 0 m = some (0, m) := rfl
theorem p_rz1 : z_rz 1 m = some (1, m) := rfl
end
theorem p_L : (∀ (I : Nat → Nat → Int32) (P : Nat → Nat → Option Nat) (i : Nat) (k : Int32 → z_R), i < 4 → z_al (p_m I P) 3 (nI i) k = k (I 3 i)) ∧ (∀ (I : Nat → Nat → Int32) (P : Nat → Nat → Option Nat) (i : Nat) (k : Int32 → z_R), i < 8 → z_al (p_m I P) 5 (nI i) k = k (I 5 i)) ∧ (∀ (I : Nat → Nat → Int32) (P : Nat → Nat → Option Nat) (i : Nat) (k : Int32 → z_R), i < 8 → z_al (p_m I P) 6 (nI i) k = k (I 6 i)) ∧ (∀ (I : Nat → Nat → Int32) (P : Nat → Nat → Option Nat) (i : Nat) (k : Int32 → z_R), i < 8 → z_al (p_m I P) 7 (nI i) k = k (I 7 i)) ∧ (∀ (I : Nat → Nat → Int32) (P : Nat → Nat → Option Nat) (i : Nat) (k : Int32 → z_R), i < 8 → z_al (p_m I P) 8 (nI i) k = k (I 8 i)) ∧ (∀ (I : Nat → Nat → Int32) (P : Nat → Nat → Option Nat) (i : Nat) (k : Int32 → z_R), i < 8 → z_al (p_m I P) 10 (nI i) k = k (I 10 i)) ∧ (∀ (I : Nat → Nat → Int32) (P : Nat → Nat → Option Nat) (i : Nat) (k : Int32 → z_R), i < 8 → z_al (p_m I P) 11 (nI i) k = k (I 11 i)) ∧ (∀ (I : Nat → Nat → Int32) (P : Nat → Nat → Option Nat) (i : Nat) (k : Int32 → z_R), i < 8 → z_al (p_m I P) 12 (nI i) k = k (I 12 i)) ∧ (∀ (I : Nat → Nat → Int32) (P : Nat → Nat → Option Nat) (i : Nat) (k : Int32 → z_R), i < 8 → z_al (p_m I P) 13 (nI i) k = k (I 13 i)) ∧ (∀ (I : Nat → Nat → Int32) (P : Nat → Nat → Option Nat) (i : Nat) (k : Int32 → z_R), i < 8 → z_al (p_m I P) 15 (nI i) k = k (I 15 i)) ∧ (∀ (I : Nat → Nat → Int32) (P : Nat → Nat → Option Nat) (i : Nat) (k : Int32 → z_R), i < 8 → z_al (p_m I P) 16 (nI i) k = k (I 16 i)) ∧ (∀ (I : Nat → Nat → Int32) (P : Nat → Nat → Option Nat) (i : Nat) (k : Int32 → z_R), i < 8 → z_al (p_m I P) 18 (nI i) k = k (I 18 i)) ∧ (∀ (I : Nat → Nat → Int32) (P : Nat → Nat → Option Nat) (i : Nat) (k : Int32 → z_R), i < 8 → z_al (p_m I P) 19 (nI i) k = k (I 19 i)) ∧ (∀ (I : Nat → Nat → Int32) (P : Nat → Nat → Option Nat) (i : Nat) (k : Int32 → z_R), i < 8 → z_al (p_m I P) 23 (nI i) k = k (I 23 i)) ∧ (∀ (I : Nat → Nat → Int32) (P : Nat → Nat → Option Nat) (i : Nat) (k : Int32 → z_R), i < 8 → z_al (p_m I P) 24 (nI i) k = k (I 24 i)) ∧ (∀ (I : Nat → Nat → Int32) (P : Nat → Nat → Option Nat) (i : Nat) (k : Int32 → z_R), i < 8 → z_al (p_m I P) 26 (nI i) k = k (I 26 i)) ∧ (∀ (I : Nat → Nat → Int32) (P : Nat → Nat → Option Nat) (i : Nat) (k : Int32 → z_R), i < 8 → z_al (p_m I P) 27 (nI i) k = k (I 27 i)) ∧ (∀ (I : Nat → Nat → Int32) (P : Nat → Nat → Option Nat) (i : Nat) (k : Int32 → z_R), i < 8 → z_al (p_m I P) 29 (nI i) k = k (I 29 i)) ∧ (∀ (I : Nat → Nat → Int32) (P : Nat → Nat → Option Nat) (i : Nat) (k : Int32 → z_R), i < 8 → z_al (p_m I P) 30 (nI i) k = k (I 30 i)) ∧ (∀ (I : Nat → Nat → Int32) (P : Nat → Nat → Option Nat) (i : Nat) (k : Int32 → z_R), i < 8 → z_al (p_m I P) 32 (nI i) k = k (I 32 i)) ∧ (∀ (I : Nat → Nat → Int32) (P : Nat → Nat → Option Nat) (i : Nat) (k : Int32 → z_R), i < 8 → z_al (p_m I P) 33 (nI i) k = k (I 33 i)) ∧ (∀ (I : Nat → Nat → Int32) (P : Nat → Nat → Option Nat) (i : Nat) (k : Int32 → z_R), i < 8 → z_al (p_m I P) 35 (nI i) k = k (I 35 i)) ∧ (∀ (I : Nat → Nat → Int32) (P : Nat → Nat → Option Nat) (i : Nat) (k : Int32 → z_R), i < 8 → z_al (p_m I P) 36 (nI i) k = k (I 36 i)) ∧ (∀ (I : Nat → Nat → Int32) (P : Nat → Nat → Option Nat) (i : Nat) (k : Int32 → z_R), i < 8 → z_al (p_m I P) 38 (nI i) k = k (I 38 i)) ∧ (∀ (I : Nat → Nat → Int32) (P : Nat → Nat → Option Nat) (i : Nat) (k : Int32 → z_R), i < 8 → z_al (p_m I P) 39 (nI i) k = k (I 39 i)) ∧ (∀ (I : Nat → Nat → Int32) (P : Nat → Nat → Option Nat) (i : Nat) (k : Int32 → z_R), i < 8 → z_al (p_m I P) 41 (nI i) k = k (I 41 i)) ∧ (∀ (I : Nat → Nat → Int32) (P : Nat → Nat → Option Nat) (i : Nat) (k : Int32 → z_R), i < 8 → z_al (p_m I P) 42 (nI i) k = k (I 42 i)) ∧ (∀ (I : Nat → Nat → Int32) (P : Nat → Nat → Option Nat) (i : Nat) (k : Int32 → z_R), i < 8 → z_al (p_m I P) 44 (nI i) k = k (I 44 i)) ∧ (∀ (I : Nat → Nat → Int32) (P : Nat → Nat → Option Nat) (i : Nat) (k : Int32 → z_R), i < 8 → z_al (p_m I P) 45 (nI i) k = k (I 45 i)) ∧ (∀ (I : Nat → Nat → Int32) (P : Nat → Nat → Option Nat) (i : Nat) (k : Int32 → z_R), i < 8 → z_al (p_m I P) 49 (nI i) k = k (I 49 i)) ∧ (∀ (I : Nat → Nat → Int32) (P : Nat → Nat → Option Nat) (i : Nat) (k : Int32 → z_R), i < 8 → z_al (p_m I P) 50 (nI i) k = k (I 50 i)) ∧ (∀ (I : Nat → Nat → Int32) (P : Nat → Nat → Option Nat) (i : Nat) (k : Int32 → z_R), i < 8 → z_al (p_m I P) 52 (nI i) k = k (I 52 i)) ∧ (∀ (I : Nat → Nat → Int32) (P : Nat → Nat → Option Nat) (i : Nat) (k : Int32 → z_R), i < 8 → z_al (p_m I P) 53 (nI i) k = k (I 53 i)) ∧ (∀ (I : Nat → Nat → Int32) (P : Nat → Nat → Option Nat) (i : Nat) (k : Int32 → z_R), i < 8 → z_al (p_m I P) 54 (nI i) k = k (I 54 i)) ∧ (∀ (I : Nat → Nat → Int32) (P : Nat → Nat → Option Nat) (i : Nat) (k : Int32 → z_R), i < 8 → z_al (p_m I P) 55 (nI i) k = k (I 55 i)) ∧ (∀ (I : Nat → Nat → Int32) (P : Nat → Nat → Option Nat) (i : Nat) (k : Int32 → z_R), i < 3 → z_al (p_m I P) 56 (nI i) k = k (I 56 i)) ∧ (∀ (I : Nat → Nat → Int32) (P : Nat → Nat → Option Nat) (i : Nat) (k : Int32 → z_R), i < 200 → z_al (p_m I P) 58 (nI i) k = k (I 58 i)) ∧ (∀ (I : Nat → Nat → Int32) (P : Nat → Nat → Option Nat) (i : Nat) (k : Int32 → z_R), i < 35 → z_al (p_m I P) 59 (nI i) k = k (I 59 i)) ∧ (∀ (I : Nat → Nat → Int32) (P : Nat → Nat → Option Nat) (i : Nat) (k : Int32 → z_R), i < 35 → z_al (p_m I P) 60 (nI i) k = k (I 60 i)) ∧ (∀ (I : Nat → Nat → Int32) (P : Nat → Nat → Option Nat) (i : Nat) (k : Int32 → z_R), i < 22 → z_al (p_m I P) 61 (nI i) k = k (I 61 i)) ∧ (∀ (I : Nat → Nat → Int32) (P : Nat → Nat → Option Nat) (i : Nat) (k : Int32 → z_R), i < 176 → z_al (p_m I P) 62 (nI i) k = k (I 62 i)) ∧ (∀ (I : Nat → Nat → Int32) (P : Nat → Nat → Option Nat) (i : Nat) (k : Int32 → z_R), i < 44 → z_al (p_m I P) 63 (nI i) k = k (I 63 i)) ∧ (∀ (I : Nat → Nat → Int32) (P : Nat → Nat → Option Nat) (i : Nat) (k : Int32 → z_R), i < 22 → z_al (p_m I P) 64 (nI i) k = k (I 64 i)) := by
  refine ⟨?_, ?_, ?_, ?_, ?_, ?_, ?_, ?_, ?_, ?_, ?_, ?_, ?_, ?_, ?_, ?_, ?_, ?_, ?_, ?_, ?_, ?_, ?_, ?_, ?_, ?_, ?_, ?_, ?_, ?_, ?_, ?_, ?_, ?_, ?_, ?_, ?_, ?_, ?_, ?_, ?_, ?_, ?_⟩ <;> exact fun I P i k h => p_al (by decide) (by decide) h
theorem p_S : (∀ (I : Nat → Nat → Int32) (P : Nat → Nat → Option Nat) (i : Nat) (v : Int32) (k : z_M → z_R), i < 4 → z_as (p_m I P) 3 (nI i) v k = k (p_m (p_w I 3 i v) P)) ∧ (∀ (I : Nat → Nat → Int32) (P : Nat → Nat → Option Nat) (i : Nat) (v : Int32) (k : z_M → z_R), i < 8 → z_as (p_m I P) 5 (nI i) v k = k (p_m (p_w I 5 i v) P)) ∧ (∀ (I : Nat → Nat → Int32) (P : Nat → Nat → Option Nat) (i : Nat) (v : Int32) (k : z_M → z_R), i < 8 → z_as (p_m I P) 6 (nI i) v k = k (p_m (p_w I 6 i v) P)) ∧ (∀ (I : Nat → Nat → Int32) (P : Nat → Nat → Option Nat) (i : Nat) (v : Int32) (k : z_M → z_R), i < 8 → z_as (p_m I P) 7 (nI i) v k = k (p_m (p_w I 7 i v) P)) ∧ (∀ (I : Nat → Nat → Int32) (P : Nat → Nat → Option Nat) (i : Nat) (v : Int32) (k : z_M → z_R), i < 8 → z_as (p_m I P) 8 (nI i) v k = k (p_m (p_w I 8 i v) P)) ∧ (∀ (I : Nat → Nat → Int32) (P : Nat → Nat → Option Nat) (i : Nat) (v : Int32) (k : z_M → z_R), i < 8 → z_as (p_m I P) 10 (nI i) v k = k (p_m (p_w I 10 i v) P)) ∧ (∀ (I : Nat → Nat → Int32) (P : Nat → Nat → Option Nat) (i : Nat) (v : Int32) (k : z_M → z_R), i < 8 → z_as (p_m I P) 11 (nI i) v k = k (p_m (p_w I 11 i v) P)) ∧ (∀ (I : Nat → Nat → Int32) (P : Nat → Nat → Option Nat) (i : Nat) (v : Int32) (k : z_M → z_R), i < 8 → z_as (p_m I P) 12 (nI i) v k = k (p_m (p_w I 12 i v) P)) ∧ (∀ (I : Nat → Nat → Int32) (P : Nat → Nat → Option Nat) (i : Nat) (v : Int32) (k : z_M → z_R), i < 8 → z_as (p_m I P) 13 (nI i) v k = k (p_m (p_w I 13 i v) P)) ∧ (∀ (I : Nat → Nat → Int32) (P : Nat → Nat → Option Nat) (i : Nat) (v : Int32) (k : z_M → z_R), i < 8 → z_as (p_m I P) 15 (nI i) v k = k (p_m (p_w I 15 i v) P)) ∧ (∀ (I : Nat → Nat → Int32) (P : Nat → Nat → Option Nat) (i : Nat) (v : Int32) (k : z_M → z_R), i < 8 → z_as (p_m I P) 16 (nI i) v k = k (p_m (p_w I 16 i v) P)) ∧ (∀ (I : Nat → Nat → Int32) (P : Nat → Nat → Option Nat) (i : Nat) (v : Int32) (k : z_M → z_R), i < 8 → z_as (p_m I P) 18 (nI i) v k = k (p_m (p_w I 18 i v) P)) ∧ (∀ (I : Nat → Nat → Int32) (P : Nat → Nat → Option Nat) (i : Nat) (v : Int32) (k : z_M → z_R), i < 8 → z_as (p_m I P) 19 (nI i) v k = k (p_m (p_w I 19 i v) P)) ∧ (∀ (I : Nat → Nat → Int32) (P : Nat → Nat → Option Nat) (i : Nat) (v : Int32) (k : z_M → z_R), i < 8 → z_as (p_m I P) 23 (nI i) v k = k (p_m (p_w I 23 i v) P)) ∧ (∀ (I : Nat → Nat → Int32) (P : Nat → Nat → Option Nat) (i : Nat) (v : Int32) (k : z_M → z_R), i < 8 → z_as (p_m I P) 24 (nI i) v k = k (p_m (p_w I 24 i v) P)) ∧ (∀ (I : Nat → Nat → Int32) (P : Nat → Nat → Option Nat) (i : Nat) (v : Int32) (k : z_M → z_R), i < 8 → z_as (p_m I P) 26 (nI i) v k = k (p_m (p_w I 26 i v) P)) ∧ (∀ (I : Nat → Nat → Int32) (P : Nat → Nat → Option Nat) (i : Nat) (v : Int32) (k : z_M → z_R), i < 8 → z_as (p_m I P) 27 (nI i) v k = k (p_m (p_w I 27 i v) P)) ∧ (∀ (I : Nat → Nat → Int32) (P : Nat → Nat → Option Nat) (i : Nat) (v : Int32) (k : z_M → z_R), i < 8 → z_as (p_m I P) 29 (nI i) v k = k (p_m (p_w I 29 i v) P)) ∧ (∀ (I : Nat → Nat → Int32) (P : Nat → Nat → Option Nat) (i : Nat) (v : Int32) (k : z_M → z_R), i < 8 → z_as (p_m I P) 30 (nI i) v k = k (p_m (p_w I 30 i v) P)) ∧ (∀ (I : Nat → Nat → Int32) (P : Nat → Nat → Option Nat) (i : Nat) (v : Int32) (k : z_M → z_R), i < 8 → z_as (p_m I P) 32 (nI i) v k = k (p_m (p_w I 32 i v) P)) ∧ (∀ (I : Nat → Nat → Int32) (P : Nat → Nat → Option Nat) (i : Nat) (v : Int32) (k : z_M → z_R), i < 8 → z_as (p_m I P) 33 (nI i) v k = k (p_m (p_w I 33 i v) P)) ∧ (∀ (I : Nat → Nat → Int32) (P : Nat → Nat → Option Nat) (i : Nat) (v : Int32) (k : z_M → z_R), i < 8 → z_as (p_m I P) 35 (nI i) v k = k (p_m (p_w I 35 i v) P)) ∧ (∀ (I : Nat → Nat → Int32) (P : Nat → Nat → Option Nat) (i : Nat) (v : Int32) (k : z_M → z_R), i < 8 → z_as (p_m I P) 36 (nI i) v k = k (p_m (p_w I 36 i v) P)) ∧ (∀ (I : Nat → Nat → Int32) (P : Nat → Nat → Option Nat) (i : Nat) (v : Int32) (k : z_M → z_R), i < 8 → z_as (p_m I P) 38 (nI i) v k = k (p_m (p_w I 38 i v) P)) ∧ (∀ (I : Nat → Nat → Int32) (P : Nat → Nat → Option Nat) (i : Nat) (v : Int32) (k : z_M → z_R), i < 8 → z_as (p_m I P) 39 (nI i) v k = k (p_m (p_w I 39 i v) P)) ∧ (∀ (I : Nat → Nat → Int32) (P : Nat → Nat → Option Nat) (i : Nat) (v : Int32) (k : z_M → z_R), i < 8 → z_as (p_m I P) 41 (nI i) v k = k (p_m (p_w I 41 i v) P)) ∧ (∀ (I : Nat → Nat → Int32) (P : Nat → Nat → Option Nat) (i : Nat) (v : Int32) (k : z_M → z_R), i < 8 → z_as (p_m I P) 42 (nI i) v k = k (p_m (p_w I 42 i v) P)) ∧ (∀ (I : Nat → Nat → Int32) (P : Nat → Nat → Option Nat) (i : Nat) (v : Int32) (k : z_M → z_R), i < 8 → z_as (p_m I P) 44 (nI i) v k = k (p_m (p_w I 44 i v) P)) ∧ (∀ (I : Nat → Nat → Int32) (P : Nat → Nat → Option Nat) (i : Nat) (v : Int32) (k : z_M → z_R), i < 8 → z_as (p_m I P) 45 (nI i) v k = k (p_m (p_w I 45 i v) P)) ∧ (∀ (I : Nat → Nat → Int32) (P : Nat → Nat → Option Nat) (i : Nat) (v : Int32) (k : z_M → z_R), i < 8 → z_as (p_m I P) 49 (nI i) v k = k (p_m (p_w I 49 i v) P)) ∧ (∀ (I : Nat → Nat → Int32) (P : Nat → Nat → Option Nat) (i : Nat) (v : Int32) (k : z_M → z_R), i < 8 → z_as (p_m I P) 50 (nI i) v k = k (p_m (p_w I 50 i v) P)) ∧ (∀ (I : Nat → Nat → Int32) (P : Nat → Nat → Option Nat) (i : Nat) (v : Int32) (k : z_M → z_R), i < 8 → z_as (p_m I P) 52 (nI i) v k = k (p_m (p_w I 52 i v) P)) ∧ (∀ (I : Nat → Nat → Int32) (P : Nat → Nat → Option Nat) (i : Nat) (v : Int32) (k : z_M → z_R), i < 8 → z_as (p_m I P) 53 (nI i) v k = k (p_m (p_w I 53 i v) P)) ∧ (∀ (I : Nat → Nat → Int32) (P : Nat → Nat → Option Nat) (i : Nat) (v : Int32) (k : z_M → z_R), i < 8 → z_as (p_m I P) 54 (nI i) v k = k (p_m (p_w I 54 i v) P)) ∧ (∀ (I : Nat → Nat → Int32) (P : Nat → Nat → Option Nat) (i : Nat) (v : Int32) (k : z_M → z_R), i < 8 → z_as (p_m I P) 55 (nI i) v k = k (p_m (p_w I 55 i v) P)) ∧ (∀ (I : Nat → Nat → Int32) (P : Nat → Nat → Option Nat) (i : Nat) (v : Int32) (k : z_M → z_R), i < 3 → z_as (p_m I P) 56 (nI i) v k = k (p_m (p_w I 56 i v) P)) ∧ (∀ (I : Nat → Nat → Int32) (P : Nat → Nat → Option Nat) (i : Nat) (v : Int32) (k : z_M → z_R), i < 200 → z_as (p_m I P) 58 (nI i) v k = k (p_m (p_w I 58 i v) P)) ∧ (∀ (I : Nat → Nat → Int32) (P : Nat → Nat → Option Nat) (i : Nat) (v : Int32) (k : z_M → z_R), i < 35 → z_as (p_m I P) 59 (nI i) v k = k (p_m (p_w I 59 i v) P)) ∧ (∀ (I : Nat → Nat → Int32) (P : Nat → Nat → Option Nat) (i : Nat) (v : Int32) (k : z_M → z_R), i < 35 → z_as (p_m I P) 60 (nI i) v k = k (p_m (p_w I 60 i v) P)) ∧ (∀ (I : Nat → Nat → Int32) (P : Nat → Nat → Option Nat) (i : Nat) (v : Int32) (k : z_M → z_R), i < 22 → z_as (p_m I P) 61 (nI i) v k = k (p_m (p_w I 61 i v) P)) ∧ (∀ (I : Nat → Nat → Int32) (P : Nat → Nat → Option Nat) (i : Nat) (v : Int32) (k : z_M → z_R), i < 176 → z_as (p_m I P) 62 (nI i) v k = k (p_m (p_w I 62 i v) P)) ∧ (∀ (I : Nat → Nat → Int32) (P : Nat → Nat → Option Nat) (i : Nat) (v : Int32) (k : z_M → z_R), i < 44 → z_as (p_m I P) 63 (nI i) v k = k (p_m (p_w I 63 i v) P)) ∧ (∀ (I : Nat → Nat → Int32) (P : Nat → Nat → Option Nat) (i : Nat) (v : Int32) (k : z_M → z_R), i < 22 → z_as (p_m I P) 64 (nI i) v k = k (p_m (p_w I 64 i v) P)) := by
  refine ⟨?_, ?_, ?_, ?_, ?_, ?_, ?_, ?_, ?_, ?_, ?_, ?_, ?_, ?_, ?_, ?_, ?_, ?_, ?_, ?_, ?_, ?_, ?_, ?_, ?_, ?_, ?_, ?_, ?_, ?_, ?_, ?_, ?_, ?_, ?_, ?_, ?_, ?_, ?_, ?_, ?_, ?_, ?_⟩ <;> exact fun I P i v k h => p_as (by decide) (by decide) h
theorem p_G : (∀ (I : Nat → Nat → Int32) (P : Nat → Nat → Option Nat) (j : Nat) (k : Int32 → z_R), z_gI (p_m I P) 0 4 j k = k (I 0 j)) ∧ (∀ (I : Nat → Nat → Int32) (P : Nat → Nat → Option Nat) (j : Nat) (k : Int32 → z_R), z_gI (p_m I P) 1 1 j k = k (I 1 j)) ∧ (∀ (I : Nat → Nat → Int32) (P : Nat → Nat → Option Nat) (j : Nat) (k : Int32 → z_R), z_gI (p_m I P) 4 2 j k = k (I 4 j)) ∧ (∀ (I : Nat → Nat → Int32) (P : Nat → Nat → Option Nat) (j : Nat) (k : Int32 → z_R), z_gI (p_m I P) 9 2 j k = k (I 9 j)) ∧ (∀ (I : Nat → Nat → Int32) (P : Nat → Nat → Option Nat) (j : Nat) (k : Int32 → z_R), z_gI (p_m I P) 14 3 j k = k (I 14 j)) ∧ (∀ (I : Nat → Nat → Int32) (P : Nat → Nat → Option Nat) (j : Nat) (k : Int32 → z_R), z_gI (p_m I P) 17 3 j k = k (I 17 j)) ∧ (∀ (I : Nat → Nat → Int32) (P : Nat → Nat → Option Nat) (j : Nat) (k : Int32 → z_R), z_gI (p_m I P) 20 0 j k = k (I 20 j)) ∧ (∀ (I : Nat → Nat → Int32) (P : Nat → Nat → Option Nat) (j : Nat) (k : Int32 → z_R), z_gI (p_m I P) 22 3 j k = k (I 22 j)) ∧ (∀ (I : Nat → Nat → Int32) (P : Nat → Nat → Option Nat) (j : Nat) (k : Int32 → z_R), z_gI (p_m I P) 25 3 j k = k (I 25 j)) ∧ (∀ (I : Nat → Nat → Int32) (P : Nat → Nat → Option Nat) (j : Nat) (k : Int32 → z_R), z_gI (p_m I P) 28 3 j k = k (I 28 j)) ∧ (∀ (I : Nat → Nat → Int32) (P : Nat → Nat → Option Nat) (j : Nat) (k : Int32 → z_R), z_gI (p_m I P) 31 3 j k = k (I 31 j)) ∧ (∀ (I : Nat → Nat → Int32) (P : Nat → Nat → Option Nat) (j : Nat) (k : Int32 → z_R), z_gI (p_m I P) 34 3 j k = k (I 34 j)) ∧ (∀ (I : Nat → Nat → Int32) (P : Nat → Nat → Option Nat) (j : Nat) (k : Int32 → z_R), z_gI (p_m I P) 37 3 j k = k (I 37 j)) ∧ (∀ (I : Nat → Nat → Int32) (P : Nat → Nat → Option Nat) (j : Nat) (k : Int32 → z_R), z_gI (p_m I P) 40 3 j k = k (I 40 j)) ∧ (∀ (I : Nat → Nat → Int32) (P : Nat → Nat → Option Nat) (j : Nat) (k : Int32 → z_R), z_gI (p_m I P) 43 3 j k = k (I 43 j)) ∧ (∀ (I : Nat → Nat → Int32) (P : Nat → Nat → Option Nat) (j : Nat) (k : Int32 → z_R), z_gI (p_m I P) 46 0 j k = k (I 46 j)) ∧ (∀ (I : Nat → Nat → Int32) (P : Nat → Nat → Option Nat) (j : Nat) (k : Int32 → z_R), z_gI (p_m I P) 48 3 j k = k (I 48 j)) ∧ (∀ (I : Nat → Nat → Int32) (P : Nat → Nat → Option Nat) (j : Nat) (k : Int32 → z_R), z_gI (p_m I P) 51 3 j k = k (I 51 j)) ∧ (∀ (I : Nat → Nat → Int32) (P : Nat → Nat → Option Nat) (j : Nat) (k : Int32 → z_R), z_gI (p_m I P) 57 5 j k = k (I 57 j)) := by
  refine ⟨?_, ?_, ?_, ?_, ?_, ?_, ?_, ?_, ?_, ?_, ?_, ?_, ?_, ?_, ?_, ?_, ?_, ?_, ?_⟩ <;> exact fun I P j k => p_gI (by decide) (by decide)
theorem p_F : (∀ (I : Nat → Nat → Int32) (P : Nat → Nat → Option Nat) (j : Nat) (v : Int32) (k : z_M → z_R), z_sI (p_m I P) 0 4 j v k = k (p_m (p_w I 0 j v) P)) ∧ (∀ (I : Nat → Nat → Int32) (P : Nat → Nat → Option Nat) (j : Nat) (v : Int32) (k : z_M → z_R), z_sI (p_m I P) 1 1 j v k = k (p_m (p_w I 1 j v) P)) ∧ (∀ (I : Nat → Nat → Int32) (P : Nat → Nat → Option Nat) (j : Nat) (v : Int32) (k : z_M → z_R), z_sI (p_m I P) 4 2 j v k = k (p_m (p_w I 4 j v) P)) ∧ (∀ (I : Nat → Nat → Int32) (P : Nat → Nat → Option Nat) (j : Nat) (v : Int32) (k : z_M → z_R), z_sI (p_m I P) 9 2 j v k = k (p_m (p_w I 9 j v) P)) ∧ (∀ (I : Nat → Nat → Int32) (P : Nat → Nat → Option Nat) (j : Nat) (v : Int32) (k : z_M → z_R), z_sI (p_m I P) 14 3 j v k = k (p_m (p_w I 14 j v) P)) ∧ (∀ (I : Nat → Nat → Int32) (P : Nat → Nat → Option Nat) (j : Nat) (v : Int32) (k : z_M → z_R), z_sI (p_m I P) 17 3 j v k = k (p_m (p_w I 17 j v) P)) ∧ (∀ (I : Nat → Nat → Int32) (P : Nat → Nat → Option Nat) (j : Nat) (v : Int32) (k : z_M → z_R), z_sI (p_m I P) 20 0 j v k = k (p_m (p_w I 20 j v) P)) ∧ (∀ (I : Nat → Nat → Int32) (P : Nat → Nat → Option Nat) (j : Nat) (v : Int32) (k : z_M → z_R), z_sI (p_m I P) 22 3 j v k = k (p_m (p_w I 22 j v) P)) ∧ (∀ (I : Nat → Nat → Int32) (P : Nat → Nat → Option Nat) (j : Nat) (v : Int32) (k : z_M → z_R), z_sI (p_m I P) 25 3 j v k = k (p_m (p_w I 25 j v) P)) ∧ (∀ (I : Nat → Nat → Int32) (P : Nat → Nat → Option Nat) (j : Nat) (v : Int32) (k : z_M → z_R), z_sI (p_m I P) 28 3 j v k = k (p_m (p_w I 28 j v) P)) ∧ (∀ (I : Nat → Nat → Int32) (P : Nat → Nat → Option Nat) (j : Nat) (v : Int32) (k : z_M → z_R), z_sI (p_m I P) 31 3 j v k = k (p_m (p_w I 31 j v) P)) ∧ (∀ (I : Nat → Nat → Int32) (P : Nat → Nat → Option Nat) (j : Nat) (v : Int32) (k : z_M → z_R), z_sI (p_m I P) 34 3 j v k = k (p_m (p_w I 34 j v) P)) ∧ (∀ (I : Nat → Nat → Int32) (P : Nat → Nat → Option Nat) (j : Nat) (v : Int32) (k : z_M → z_R), z_sI (p_m I P) 37 3 j v k = k (p_m (p_w I 37 j v) P)) ∧ (∀ (I : Nat → Nat → Int32) (P : Nat → Nat → Option Nat) (j : Nat) (v : Int32) (k : z_M → z_R), z_sI (p_m I P) 40 3 j v k = k (p_m (p_w I 40 j v) P)) ∧ (∀ (I : Nat → Nat → Int32) (P : Nat → Nat → Option Nat) (j : Nat) (v : Int32) (k : z_M → z_R), z_sI (p_m I P) 43 3 j v k = k (p_m (p_w I 43 j v) P)) ∧ (∀ (I : Nat → Nat → Int32) (P : Nat → Nat → Option Nat) (j : Nat) (v : Int32) (k : z_M → z_R), z_sI (p_m I P) 46 0 j v k = k (p_m (p_w I 46 j v) P)) ∧ (∀ (I : Nat → Nat → Int32) (P : Nat → Nat → Option Nat) (j : Nat) (v : Int32) (k : z_M → z_R), z_sI (p_m I P) 48 3 j v k = k (p_m (p_w I 48 j v) P)) ∧ (∀ (I : Nat → Nat → Int32) (P : Nat → Nat → Option Nat) (j : Nat) (v : Int32) (k : z_M → z_R), z_sI (p_m I P) 51 3 j v k = k (p_m (p_w I 51 j v) P)) ∧ (∀ (I : Nat → Nat → Int32) (P : Nat → Nat → Option Nat) (j : Nat) (v : Int32) (k : z_M → z_R), z_sI (p_m I P) 57 5 j v k = k (p_m (p_w I 57 j v) P)) := by
  refine ⟨?_, ?_, ?_, ?_, ?_, ?_, ?_, ?_, ?_, ?_, ?_, ?_, ?_, ?_, ?_, ?_, ?_, ?_, ?_⟩ <;> exact fun I P j v k => p_sI (by decide) (by decide)
theorem p_C : (∀ (I : Nat → Nat → Int32) (P : Nat → Nat → Option Nat) (o : z_R) (k : Int32 → z_M → z_R), z_cv (p_m I P) 0 4 o k = z_b o k) ∧ (∀ (I : Nat → Nat → Int32) (P : Nat → Nat → Option Nat) (o : z_R) (k : Int32 → z_M → z_R), z_cv (p_m I P) 1 1 o k = z_b o k) ∧ (∀ (I : Nat → Nat → Int32) (P : Nat → Nat → Option Nat) (o : z_R) (k : Int32 → z_M → z_R), z_cv (p_m I P) 4 2 o k = z_b o k) ∧ (∀ (I : Nat → Nat → Int32) (P : Nat → Nat → Option Nat) (o : z_R) (k : Int32 → z_M → z_R), z_cv (p_m I P) 9 2 o k = z_b o k) ∧ (∀ (I : Nat → Nat → Int32) (P : Nat → Nat → Option Nat) (o : z_R) (k : Int32 → z_M → z_R), z_cv (p_m I P) 14 3 o k = z_b o k) ∧ (∀ (I : Nat → Nat → Int32) (P : Nat → Nat → Option Nat) (o : z_R) (k : Int32 → z_M → z_R), z_cv (p_m I P) 17 3 o k = z_b o k) ∧ (∀ (I : Nat → Nat → Int32) (P : Nat → Nat → Option Nat) (o : z_R) (k : Int32 → z_M → z_R), z_cv (p_m I P) 20 0 o k = z_b o k) ∧ (∀ (I : Nat → Nat → Int32) (P : Nat → Nat → Option Nat) (o : z_R) (k : Int32 → z_M → z_R), z_cv (p_m I P) 22 3 o k = z_b o k) ∧ (∀ (I : Nat → Nat → Int32) (P : Nat → Nat → Option Nat) (o : z_R) (k : Int32 → z_M → z_R), z_cv (p_m I P) 25 3 o k = z_b o k) ∧ (∀ (I : Nat → Nat → Int32) (P : Nat → Nat → Option Nat) (o : z_R) (k : Int32 → z_M → z_R), z_cv (p_m I P) 28 3 o k = z_b o k) ∧ (∀ (I : Nat → Nat → Int32) (P : Nat → Nat → Option Nat) (o : z_R) (k : Int32 → z_M → z_R), z_cv (p_m I P) 31 3 o k = z_b o k) ∧ (∀ (I : Nat → Nat → Int32) (P : Nat → Nat → Option Nat) (o : z_R) (k : Int32 → z_M → z_R), z_cv (p_m I P) 34 3 o k = z_b o k) ∧ (∀ (I : Nat → Nat → Int32) (P : Nat → Nat → Option Nat) (o : z_R) (k : Int32 → z_M → z_R), z_cv (p_m I P) 37 3 o k = z_b o k) ∧ (∀ (I : Nat → Nat → Int32) (P : Nat → Nat → Option Nat) (o : z_R) (k : Int32 → z_M → z_R), z_cv (p_m I P) 40 3 o k = z_b o k) ∧ (∀ (I : Nat → Nat → Int32) (P : Nat → Nat → Option Nat) (o : z_R) (k : Int32 → z_M → z_R), z_cv (p_m I P) 43 3 o k = z_b o k) ∧ (∀ (I : Nat → Nat → Int32) (P : Nat → Nat → Option Nat) (o : z_R) (k : Int32 → z_M → z_R), z_cv (p_m I P) 46 0 o k = z_b o k) ∧ (∀ (I : Nat → Nat → Int32) (P : Nat → Nat → Option Nat) (o : z_R) (k : Int32 → z_M → z_R), z_cv (p_m I P) 48 3 o k = z_b o k) ∧ (∀ (I : Nat → Nat → Int32) (P : Nat → Nat → Option Nat) (o : z_R) (k : Int32 → z_M → z_R), z_cv (p_m I P) 51 3 o k = z_b o k) ∧ (∀ (I : Nat → Nat → Int32) (P : Nat → Nat → Option Nat) (o : z_R) (k : Int32 → z_M → z_R), z_cv (p_m I P) 57 5 o k = z_b o k) := by
  refine ⟨?_, ?_, ?_, ?_, ?_, ?_, ?_, ?_, ?_, ?_, ?_, ?_, ?_, ?_, ?_, ?_, ?_, ?_, ?_⟩ <;> exact fun I P o k => p_cv (by decide) (by decide)
theorem p_N : (0 : Int32) = nI 0 ∧ (1 : Int32) = nI 1 ∧ (2 : Int32) = nI 2 ∧ (3 : Int32) = nI 3 ∧ (4 : Int32) = nI 4 ∧ (5 : Int32) = nI 5 ∧ (6 : Int32) = nI 6 ∧ (7 : Int32) = nI 7 ∧ (8 : Int32) = nI 8 ∧ (9 : Int32) = nI 9 ∧ (10 : Int32) = nI 10 ∧ (11 : Int32) = nI 11 ∧ (12 : Int32) = nI 12 ∧ (16 : Int32) = nI 16 ∧ (17 : Int32) = nI 17 ∧ (18 : Int32) = nI 18 ∧ (19 : Int32) = nI 19 ∧ (20 : Int32) = nI 20 ∧ (21 : Int32) = nI 21 ∧ (22 : Int32) = nI 22 ∧ (26 : Int32) = nI 26 ∧ (27 : Int32) = nI 27 ∧ (31 : Int32) = nI 31 ∧ (32 : Int32) = nI 32 ∧ (35 : Int32) = nI 35 ∧ (43 : Int32) = nI 43 ∧ (44 : Int32) = nI 44 ∧ (48 : Int32) = nI 48 ∧ (57 : Int32) = nI 57 ∧ (59 : Int32) = nI 59 ∧ (60 : Int32) = nI 60 ∧ (99 : Int32) = nI 99 ∧ (101 : Int32) = nI 101 ∧ (109 : Int32) = nI 109 ∧ (122 : Int32) = nI 122 ∧ (126 : Int32) = nI 126 ∧ (154 : Int32) = nI 154 ∧ (176 : Int32) = nI 176 ∧ (200 : Int32) = nI 200 ∧ (255 : Int32) = nI 255 ∧ (256 : Int32) = nI 256 ∧ (999 : Int32) = nI 999 ∧ (9999 : Int32) = nI 9999 := ⟨rfl, rfl, rfl, rfl, rfl, rfl, rfl, rfl, rfl, rfl, rfl, rfl, rfl, rfl, rfl, rfl, rfl, rfl, rfl, rfl, rfl, rfl, rfl, rfl, rfl, rfl, rfl, rfl, rfl, rfl, rfl, rfl, rfl, rfl, rfl, rfl, rfl, rfl, rfl, rfl, rfl, rfl, rfl⟩
/-- where the references point that never move -/
def p_F0 (P : Nat → Nat → Option Nat) : Prop := P 0 0 = some 1 ∧ P 0 3 = some 14 ∧ P 0 4 = some 17 ∧ P 0 5 = some 20 ∧ P 0 6 = some 46 ∧ P 0 7 = some 54 ∧ P 0 8 = some 55 ∧ P 0 9 = some 56 ∧ P 1 0 = some 2 ∧ P 1 2 = some 3 ∧ P 20 0 = some 21 ∧ P 46 0 = some 47 ∧ P 57 0 = some 58 ∧ P 57 2 = some 59 ∧ P 57 3 = some 60 ∧ P 57 4 = some 61 ∧ P 57 5 = some 62 ∧ P 57 7 = some 63 ∧ P 57 12 = some 64 ∧ P 4 3 = some 5 ∧ P 4 4 = some 6 ∧ P 4 5 = some 7 ∧ P 4 6 = some 8 ∧ P 9 3 = some 10 ∧ P 9 4 = some 11 ∧ P 9 5 = some 12 ∧ P 9 6 = some 13 ∧ P 14 0 = some 15 ∧ P 14 1 = some 16 ∧ P 17 0 = some 18 ∧ P 17 1 = some 19 ∧ P 22 0 = some 23 ∧ P 22 1 = some 24 ∧ P 25 0 = some 26 ∧ P 25 1 = some 27 ∧ P 28 0 = some 29 ∧ P 28 1 = some 30 ∧ P 31 0 = some 32 ∧ P 31 1 = some 33 ∧ P 34 0 = some 35 ∧ P 34 1 = some 36 ∧ P 37 0 = some 38 ∧ P 37 1 = some 39 ∧ P 40 0 = some 41 ∧ P 40 1 = some 42 ∧ P 43 0 = some 44 ∧ P 43 1 = some 45 ∧ P 48 0 = some 49 ∧ P 48 1 = some 50 ∧ P 51 0 = some 52 ∧ P 51 1 = some 53
theorem p_Q {P : Nat → Nat → Option Nat} (h : p_F0 P) : (∀ (I : Nat → Nat → Int32) (k : Nat → z_R), z_gP (p_m I P) 0 4 0 k = k 1) ∧ (∀ (I : Nat → Nat → Int32) (k : Nat → z_R), z_gP (p_m I P) 0 4 3 k = k 14) ∧ (∀ (I : Nat → Nat → Int32) (k : Nat → z_R), z_gP (p_m I P) 0 4 4 k = k 17) ∧ (∀ (I : Nat → Nat → Int32) (k : Nat → z_R), z_gP (p_m I P) 0 4 5 k = k 20) ∧ (∀ (I : Nat → Nat → Int32) (k : Nat → z_R), z_gP (p_m I P) 0 4 6 k = k 46) ∧ (∀ (I : Nat → Nat → Int32) (k : Nat → z_R), z_gP (p_m I P) 0 4 7 k = k 54) ∧ (∀ (I : Nat → Nat → Int32) (k : Nat → z_R), z_gP (p_m I P) 0 4 8 k = k 55) ∧ (∀ (I : Nat → Nat → Int32) (k : Nat → z_R), z_gP (p_m I P) 0 4 9 k = k 56) ∧ (∀ (I : Nat → Nat → Int32) (k : Nat → z_R), z_gP (p_m I P) 1 1 0 k = k 2) ∧ (∀ (I : Nat → Nat → Int32) (k : Nat → z_R), z_gP (p_m I P) 1 1 2 k = k 3) ∧ (∀ (I : Nat → Nat → Int32) (k : Nat → z_R), z_gP (p_m I P) 20 0 0 k = k 21) ∧ (∀ (I : Nat → Nat → Int32) (k : Nat → z_R), z_gP (p_m I P) 46 0 0 k = k 47) ∧ (∀ (I : Nat → Nat → Int32) (k : Nat → z_R), z_gP (p_m I P) 57 5 0 k = k 58) ∧ (∀ (I : Nat → Nat → Int32) (k : Nat → z_R), z_gP (p_m I P) 57 5 2 k = k 59) ∧ (∀ (I : Nat → Nat → Int32) (k : Nat → z_R), z_gP (p_m I P) 57 5 3 k = k 60) ∧ (∀ (I : Nat → Nat → Int32) (k : Nat → z_R), z_gP (p_m I P) 57 5 4 k = k 61) ∧ (∀ (I : Nat → Nat → Int32) (k : Nat → z_R), z_gP (p_m I P) 57 5 5 k = k 62) ∧ (∀ (I : Nat → Nat → Int32) (k : Nat → z_R), z_gP (p_m I P) 57 5 7 k = k 63) ∧ (∀ (I : Nat → Nat → Int32) (k : Nat → z_R), z_gP (p_m I P) 57 5 12 k = k 64) ∧ (∀ (I : Nat → Nat → Int32) (k : Nat → z_R), z_gP (p_m I P) 4 2 3 k = k 5) ∧ (∀ (I : Nat → Nat → Int32) (k : Nat → z_R), z_gP (p_m I P) 4 2 4 k = k 6) ∧ (∀ (I : Nat → Nat → Int32) (k : Nat → z_R), z_gP (p_m I P) 4 2 5 k = k 7) ∧ (∀ (I : Nat → Nat → Int32) (k : Nat → z_R), z_gP (p_m I P) 4 2 6 k = k 8) ∧ (∀ (I : Nat → Nat → Int32) (k : Nat → z_R), z_gP (p_m I P) 9 2 3 k = k 10) ∧ (∀ (I : Nat → Nat → Int32) (k : Nat → z_R), z_gP (p_m I P) 9 2 4 k = k 11) ∧ (∀ (I : Nat → Nat → Int32) (k : Nat → z_R), z_gP (p_m I P) 9 2 5 k = k 12) ∧ (∀ (I : Nat → Nat → Int32) (k : Nat → z_R), z_gP (p_m I P) 9 2 6 k = k 13) ∧ (∀ (I : Nat → Nat → Int32) (k : Nat → z_R), z_gP (p_m I P) 14 3 0 k = k 15) ∧ (∀ (I : Nat → Nat → Int32) (k : Nat → z_R), z_gP (p_m I P) 14 3 1 k = k 16) ∧ (∀ (I : Nat → Nat → Int32) (k : Nat → z_R), z_gP (p_m I P) 17 3 0 k = k 18) ∧ (∀ (I : Nat → Nat → Int32) (k : Nat → z_R), z_gP (p_m I P) 17 3 1 k = k 19) ∧ (∀ (I : Nat → Nat → Int32) (k : Nat → z_R), z_gP (p_m I P) 22 3 0 k = k 23) ∧ (∀ (I : Nat → Nat → Int32) (k : Nat → z_R), z_gP (p_m I P) 22 3 1 k = k 24) ∧ (∀ (I : Nat → Nat → Int32) (k : Nat → z_R), z_gP (p_m I P) 25 3 0 k = k 26) ∧ (∀ (I : Nat → Nat → Int32) (k : Nat → z_R), z_gP (p_m I P) 25 3 1 k = k 27) ∧ (∀ (I : Nat → Nat → Int32) (k : Nat → z_R), z_gP (p_m I P) 28 3 0 k = k 29) ∧ (∀ (I : Nat → Nat → Int32) (k : Nat → z_R), z_gP (p_m I P) 28 3 1 k = k 30) ∧ (∀ (I : Nat → Nat → Int32) (k : Nat → z_R), z_gP (p_m I P) 31 3 0 k = k 32) ∧ (∀ (I : Nat → Nat → Int32) (k : Nat → z_R), z_gP (p_m I P) 31 3 1 k = k 33) ∧ (∀ (I : Nat → Nat → Int32) (k : Nat → z_R), z_gP (p_m I P) 34 3 0 k = k 35) ∧ (∀ (I : Nat → Nat → Int32) (k : Nat → z_R), z_gP (p_m I P) 34 3 1 k = k 36) ∧ (∀ (I : Nat → Nat → Int32) (k : Nat → z_R), z_gP (p_m I P) 37 3 0 k = k 38) ∧ (∀ (I : Nat → Nat → Int32) (k : Nat → z_R), z_gP (p_m I P) 37 3 1 k = k 39) ∧ (∀ (I : Nat → Nat → Int32) (k : Nat → z_R), z_gP (p_m I P) 40 3 0 k = k 41) ∧ (∀ (I : Nat → Nat → Int32) (k : Nat → z_R), z_gP (p_m I P) 40 3 1 k = k 42) ∧ (∀ (I : Nat → Nat → Int32) (k : Nat → z_R), z_gP (p_m I P) 43 3 0 k = k 44) ∧ (∀ (I : Nat → Nat → Int32) (k : Nat → z_R), z_gP (p_m I P) 43 3 1 k = k 45) ∧ (∀ (I : Nat → Nat → Int32) (k : Nat → z_R), z_gP (p_m I P) 48 3 0 k = k 49) ∧ (∀ (I : Nat → Nat → Int32) (k : Nat → z_R), z_gP (p_m I P) 48 3 1 k = k 50) ∧ (∀ (I : Nat → Nat → Int32) (k : Nat → z_R), z_gP (p_m I P) 51 3 0 k = k 52) ∧ (∀ (I : Nat → Nat → Int32) (k : Nat → z_R), z_gP (p_m I P) 51 3 1 k = k 53) := by
  obtain ⟨h0, h1, h2, h3, h4, h5, h6, h7, h8, h9, h10, h11, h12, h13, h14, h15, h16, h17, h18, h19, h20, h21, h22, h23, h24, h25, h26, h27, h28, h29, h30, h31, h32, h33, h34, h35, h36, h37, h38, h39, h40, h41, h42, h43, h44, h45, h46, h47, h48, h49, h50⟩ := h
  exact ⟨fun I k => p_gP (by decide) (by decide) h0, fun I k => p_gP (by decide) (by decide) h1, fun I k => p_gP (by decide) (by decide) h2, fun I k => p_gP (by decide) (by decide) h3, fun I k => p_gP (by decide) (by decide) h4, fun I k => p_gP (by decide) (by decide) h5, fun I k => p_gP (by decide) (by decide) h6, fun I k => p_gP (by decide) (by decide) h7, fun I k => p_gP (by decide) (by decide) h8, fun I k => p_gP (by decide) (by decide) h9, fun I k => p_gP (by decide) (by decide) h10, fun I k => p_gP (by decide) (by decide) h11, fun I k => p_gP (by decide) (by decide) h12, fun I k => p_gP (by decide) (by decide) h13, fun I k => p_gP (by decide) (by decide) h14, fun I k => p_gP (by decide) (by decide) h15, fun I k => p_gP (by decide) (by decide) h16, fun I k => p_gP (by decide) (by decide) h17, fun I k => p_gP (by decide) (by decide) h18, fun I k => p_gP (by decide) (by decide) h19, fun I k => p_gP (by decide) (by decide) h20, fun I k => p_gP (by decide) (by decide) h21, fun I k => p_gP (by decide) (by decide) h22, fun I k => p_gP (by decide) (by decide) h23, fun I k => p_gP (by decide) (by decide) h24, fun I k => p_gP (by decide) (by decide) h25, fun I k => p_gP (by decide) (by decide) h26, fun I k => p_gP (by decide) (by decide) h27, fun I k => p_gP (by decide) (by decide) h28, fun I k => p_gP (by decide) (by decide) h29, fun I k => p_gP (by decide) (by decide) h30, fun I k => p_gP (by decide) (by decide) h31, fun I k => p_gP (by decide) (by decide) h32, fun I k => p_gP (by decide) (by decide) h33, fun I k => p_gP (by decide) (by decide) h34, fun I k => p_gP (by decide) (by decide) h35, fun I k => p_gP (by decide) (by decide) h36, fun I k => p_gP (by decide) (by decide) h37, fun I k => p_gP (by decide) (by decide) h38, fun I k => p_gP (by decide) (by decide) h39, fun I k => p_gP (by decide) (by decide) h40, fun I k => p_gP (by decide) (by decide) h41, fun I k => p_gP (by decide) (by decide) h42, fun I k => p_gP (by decide) (by decide) h43, fun I k => p_gP (by decide) (by decide) h44, fun I k => p_gP (by decide) (by decide) h45, fun I k => p_gP (by decide) (by decide) h46, fun I k => p_gP (by decide) (by decide) h47, fun I k => p_gP (by decide) (by decide) h48, fun I k => p_gP (by decide) (by decide) h49, fun I k => p_gP (by decide) (by decide) h50⟩
end
section
/-! WHAT A STATE IS: a squad (men, seed, kinds, first facings, errors), a standing (facings, looks, shut, words, the word ahead + 1 or 0, told, erred, shouted) -/
abbrev q_Q : Type := Nat × Nat × (Nat → Nat) × (Nat → Nat) × (Nat → Nat)
abbrev q_G : Type := (Nat → Nat) × (Nat → Nat) × Nat × Nat × Nat × Nat × Nat × Nat
/-- how far the word ahead turns -/
def q_t (a : Nat) : Nat := if a = 0 then 0 else if a = 1 then 3 else if a = 2 then 1 else 2
theorem q_t4 (a : Nat) : q_t a < 4 := by unfold q_t; split <;> (try split) <;> (try split) <;> omega
def q_a (a : Nat) : Int32 := nI a - 1
def q_ok (q : q_Q) : Prop := 1 ≤ q.1 ∧ q.1 ≤ 8 ∧ q.2.1 ≤ 99 ∧ ∀ i, i < q.1 → q.2.2.1 i ≤ 3 ∧ q.2.2.2.1 i < 4 ∧ q.2.2.2.2 i ≤ 10
def g_ok (n : Nat) (g : q_G) : Prop := (∀ i, i < n → g.1 i < 4 ∧ g.2.1 i < n) ∧ g.2.2.1 ≤ 1 ∧ g.2.2.2.1 ≤ 2000 ∧ g.2.2.2.2.1 ≤ 3 ∧ g.2.2.2.2.2.1 < 4 ∧ g.2.2.2.2.2.2.1 < 2 ^ n ∧ g.2.2.2.2.2.2.2 < 2 ^ n
/-- the class's squad at a, its standing at t -/
def c_Q (I : Nat → Nat → Int32) (a : Nat) (q : q_Q) : Prop := I a 0 = nI q.1 ∧ I a 1 = nI q.2.1 ∧ ∀ i, i < q.1 → I (a + 1) i = nI (q.2.2.1 i) ∧ I (a + 2) i = nI (q.2.2.2.1 i) ∧ I (a + 4) i = nI (q.2.2.2.2 i)
def c_G (I : Nat → Nat → Int32) (t n : Nat) (g : q_G) : Prop := (∀ i, i < n → I (t + 1) i = nI (g.1 i) ∧ I (t + 2) i = nI (g.2.1 i)) ∧ I t 2 = nI g.2.2.1 ∧ I t 3 = nI g.2.2.2.1 ∧ I t 4 = nI (q_t g.2.2.2.2.1) ∧ I t 5 = nI g.2.2.2.2.2.1 ∧ I t 6 = nI g.2.2.2.2.2.2.1 ∧ I t 7 = nI g.2.2.2.2.2.2.2
/-- the reference's squad, its row at a from o on -/
def m_Q (I : Nat → Nat → Int32) (q : q_Q) : Prop := I 59 0 = nI q.1 ∧ I 59 1 = nI q.2.1 ∧ ∀ i, i < q.1 → I 59 (3 + i) = nI (q.2.2.1 i) ∧ I 59 (11 + i) = nI (q.2.2.2.1 i) ∧ I 59 (27 + i) = nI (q.2.2.2.2 i)
def m_G (I : Nat → Nat → Int32) (a o n : Nat) (g : q_G) : Prop := (∀ i, i < n → I a (o + i) = nI (g.1 i) ∧ I a (o + (8 + i)) = nI (g.2.1 i)) ∧ I a (o + 16) = nI g.2.2.1 ∧ I a (o + 17) = nI g.2.2.2.1 ∧ I a (o + 18) = q_a g.2.2.2.2.1 ∧ I a (o + 19) = nI g.2.2.2.2.2.1 ∧ I a (o + 20) = nI g.2.2.2.2.2.2.1 ∧ I a (o + 21) = nI g.2.2.2.2.2.2.2
/-- rows outside S stay -/
def p_same (S : Nat → Prop) (I I' : Nat → Nat → Int32) : Prop := ∀ a, ¬ S a → I' a = I a
theorem p_same.rf {S : Nat → Prop} {I : Nat → Nat → Int32} : p_same S I I := fun _ _ => rfl
theorem p_same.tr {S : Nat → Prop} {I I' I'' : Nat → Nat → Int32} (h : p_same S I I') (h' : p_same S I' I'') : p_same S I I'' := fun a ha => (h' a ha).trans (h a ha)
theorem p_same.w {S : Nat → Prop} {I I' : Nat → Nat → Int32} {a j : Nat} {v : Int32} (h : p_same S I I') (hs : S a) : p_same S I (p_w I' a j v) := by
  intro b hb
  have hne : b ≠ a := fun e => hb (e ▸ hs)
  funext k
  rw [p_w_ne (Or.inl hne), h b hb]
theorem p_same.r {S : Nat → Prop} {I I' : Nat → Nat → Int32} {a : Nat} {f : Nat → Int32} (h : p_same S I I') (hs : S a) : p_same S I (p_r I' a f) := by
  intro b hb
  have hne : b ≠ a := fun e => hb (e ▸ hs)
  funext k
  rw [p_r_ne hne, h b hb]
theorem p_same.mono {S S' : Nat → Prop} {I I' : Nat → Nat → Int32} (h : p_same S I I') (hs : ∀ a, S a → S' a) : p_same S' I I' := fun a ha => h a (fun z => ha (hs a z))
theorem c_Q.keep {S : Nat → Prop} {I I' : Nat → Nat → Int32} {a : Nat} {q : q_Q} (h : c_Q I a q) (hs : p_same S I I') (h0 : ¬ S a) (h1 : ¬ S (a + 1)) (h2 : ¬ S (a + 2)) (h4 : ¬ S (a + 4)) : c_Q I' a q := by
  unfold c_Q
  rw [hs _ h0, hs _ h1, hs _ h2, hs _ h4]
  exact h
theorem c_G.keep {S : Nat → Prop} {I I' : Nat → Nat → Int32} {t n : Nat} {g : q_G} (h : c_G I t n g) (hs : p_same S I I') (h0 : ¬ S t) (h1 : ¬ S (t + 1)) (h2 : ¬ S (t + 2)) : c_G I' t n g := by
  unfold c_G
  rw [hs _ h0, hs _ h1, hs _ h2]
  exact h
theorem m_Q.keep {S : Nat → Prop} {I I' : Nat → Nat → Int32} {q : q_Q} (h : m_Q I q) (hs : p_same S I I') (h0 : ¬ S 59) : m_Q I' q := by
  unfold m_Q
  rw [hs _ h0]
  exact h
theorem m_G.keep {S : Nat → Prop} {I I' : Nat → Nat → Int32} {a o n : Nat} {g : q_G} (h : m_G I a o n g) (hs : p_same S I I') (h0 : ¬ S a) : m_G I' a o n g := by
  unfold m_G
  rw [hs _ h0]
  exact h
/-- a squad's place: 4 or 9 -/
def c_sq (P : Nat → Nat → Option Nat) (s : Nat) : Prop := (s = 4 ∨ s = 9) ∧ P 0 1 = some s
theorem c_sq1 {P : Nat → Nat → Option Nat} {s : Nat} (h : c_sq P s) (I : Nat → Nat → Int32) (k : Nat → z_R) : z_gP (p_m I P) 0 4 1 k = k s := p_gP (by decide) (by decide) h.2
theorem c_sqI {P : Nat → Nat → Option Nat} {s : Nat} (h : c_sq P s) (I : Nat → Nat → Int32) (j : Nat) (k : Int32 → z_R) : z_gI (p_m I P) s 2 j k = k (I s j) := by
  rcases h.1 with rfl | rfl
  · exact p_gI (by decide) (by decide)
  · exact p_gI (by decide) (by decide)
theorem c_sqP {P : Nat → Nat → Option Nat} {s : Nat} (h : c_sq P s) (hP : p_F0 P) : (∀ (I : Nat → Nat → Int32) (k : Nat → z_R), z_gP (p_m I P) s 2 3 k = k (s + 1)) ∧ (∀ (I : Nat → Nat → Int32) (k : Nat → z_R), z_gP (p_m I P) s 2 4 k = k (s + 2)) ∧ (∀ (I : Nat → Nat → Int32) (k : Nat → z_R), z_gP (p_m I P) s 2 5 k = k (s + 3)) ∧ (∀ (I : Nat → Nat → Int32) (k : Nat → z_R), z_gP (p_m I P) s 2 6 k = k (s + 4)) := by
  have hq := p_Q hP
  rcases h.1 with rfl | rfl
  · refine ⟨?_, ?_, ?_, ?_⟩ <;> intro I k <;> simp only [hq]
  · refine ⟨?_, ?_, ?_, ?_⟩ <;> intro I k <;> simp only [hq]
theorem c_sqA {P : Nat → Nat → Option Nat} {s : Nat} (h : c_sq P s) : (∀ (I : Nat → Nat → Int32) (i : Nat) (k : Int32 → z_R), i < 8 → z_al (p_m I P) (s + 1) (nI i) k = k (I (s + 1) i)) ∧ (∀ (I : Nat → Nat → Int32) (i : Nat) (k : Int32 → z_R), i < 8 → z_al (p_m I P) (s + 2) (nI i) k = k (I (s + 2) i)) ∧ (∀ (I : Nat → Nat → Int32) (i : Nat) (k : Int32 → z_R), i < 8 → z_al (p_m I P) (s + 4) (nI i) k = k (I (s + 4) i)) := by
  rcases h.1 with rfl | rfl
  · exact ⟨fun I i k hi => p_al (by decide) (by decide) hi, fun I i k hi => p_al (by decide) (by decide) hi, fun I i k hi => p_al (by decide) (by decide) hi⟩
  · exact ⟨fun I i k hi => p_al (by decide) (by decide) hi, fun I i k hi => p_al (by decide) (by decide) hi, fun I i k hi => p_al (by decide) (by decide) hi⟩
/-! numbers -/
theorem p_A : (∀ a b : Nat, nI a + nI b = nI (a + b)) ∧ (∀ a b : Nat, a < 2147483648 → b < 2147483648 → (nI a = nI b) = (a = b)) ∧ (∀ a b : Nat, a < 2147483648 → b < 2147483648 → (nI a < nI b) = (a < b)) ∧ (∀ a b : Nat, a < 2147483648 → b < 2147483648 → (nI a ≤ nI b) = (a ≤ b)) ∧ (∀ a : Nat, a < 2147483648 → (nI a = -nI 4) = False) ∧ (∀ a : Nat, a < 2147483648 → (nI a = -nI 1) = False) ∧ ((-nI 4 = -nI 4) = True) :=
  ⟨nI_add, fun a b ha hb => propext (nI_eq ha hb), fun a b ha hb => propext (nI_ltI ha hb), fun a b ha hb => propext (nI_leI ha hb), fun a ha => eq_false (fun h => by
    have h2 := congrArg Int32.toInt h
    rw [nI_toInt ha, show (-nI 4).toInt = -4 by decide] at h2
    omega), fun a ha => eq_false (fun h => by
    have h2 := congrArg Int32.toInt h
    rw [nI_toInt ha, show (-nI 1).toInt = -1 by decide] at h2
    omega), eq_true rfl⟩
theorem p_sb {a b : Nat} (h : b ≤ a) : nI a - nI b = nI (a - b) := pk_sub h
theorem p_mo {a d : Nat} (ha : a < 2147483648) (h0 : 0 < d) (hd : d < 2147483648) : z_mI (nI a) (nI d) = nI (a % d) := pk_rem ha h0 hd
theorem p_di {a d : Nat} (ha : a < 2147483648) (h0 : 0 < d) (hd : d < 2147483648) : nI a / nI d = nI (a / d) := pk_div ha h0 hd
theorem p_tf : ((1 = 0) = False) ∧ ((0 = 1) = False) ∧ ((0 = 0) = True) ∧ ((1 = 1) = True) := by simp
/-- is it a number below n -/
abbrev q_is (v : Int32) (n : Nat) : Prop := 0 ≤ v.toInt ∧ v.toInt < n
theorem q_is_nI {v : Int32} {n : Nat} (h : q_is v n) (hn : n < 2147483648) : ∃ i, i < n ∧ v = nI i := by
  refine ⟨v.toInt.toNat, by omega, ?_⟩
  apply Int32.toInt_inj.mp
  rw [nI_toInt (by omega)]
  omega
theorem q_is_lt {v : Int32} {n : Nat} (h : ¬ q_is v n) (hn : n < 2147483648) : v < nI 0 ∨ nI n ≤ v := by
  rw [Int32.lt_iff_toInt_lt, Int32.le_iff_toInt_le, nI_toInt (by omega), nI_toInt (by omega)]
  omega
/-! small tests -/
theorem c_man1 {I : Nat → Nat → Int32} {P : Nat → Nat → Option Nat} {s n i : Nat} (hs : c_sq P s) (hI : I s 0 = nI n) (hn : n ≤ 8) (hi : i < n) : f_X4_isMan 0 (nI i) (p_m I P) = some (nI 1, p_m I P) := by
  unfold f_X4_isMan
  simp (disch := omega) only [c_sq1 hs, c_sqI hs, hI, p_N, p_A]
  rw [if_neg (by omega), if_neg (by omega)]
theorem c_man0 {I : Nat → Nat → Int32} {P : Nat → Nat → Option Nat} {s n : Nat} {v : Int32} (hs : c_sq P s) (hI : I s 0 = nI n) (hn : n ≤ 8) (hv : ¬ q_is v n) : f_X4_isMan 0 v (p_m I P) = some (nI 0, p_m I P) := by
  unfold f_X4_isMan
  simp (disch := omega) only [c_sq1 hs, c_sqI hs, hI, p_N]
  rcases q_is_lt hv (by omega) with h | h
  · rw [if_pos h]
  · rw [if_pos h]; split <;> rfl
theorem m_in1 {lo hi i : Nat} (m : z_M) (h1 : lo ≤ i) (h2 : i ≤ hi) (h3 : hi < 2147483648) : f_X5_in (nI i) (nI lo) (nI hi) m = some (nI 1, m) := by
  unfold f_X5_in
  simp (disch := omega) only [p_N, p_A]
  rw [if_neg (by omega), if_neg (by omega)]
theorem m_in0 {lo hi : Nat} {v : Int32} (m : z_M) (hv : ¬ q_is v (hi + 1) ∨ v.toInt < lo) (h3 : hi < 2147483647) (h4 : lo < 2147483648) : f_X5_in v (nI lo) (nI hi) m = some (nI 0, m) := by
  unfold f_X5_in
  simp only [p_N]
  by_cases h : v < nI lo
  · rw [if_pos h]
  · rw [if_neg h, if_pos]
    rw [Int32.lt_iff_toInt_lt, nI_toInt (by omega)] at h ⊢
    omega
theorem m_man1 {I : Nat → Nat → Int32} {P : Nat → Nat → Option Nat} {n i : Nat} (hP : p_F0 P) (hI : I 59 0 = nI n) (hn : n ≤ 8) (hi : i < n) : f_X5_isMan 57 (nI i) (p_m I P) = some (nI 1, p_m I P) := by
  unfold f_X5_isMan
  simp (disch := omega) only [p_Q hP, p_N, p_L, hI, p_sb, m_in1, p_b]
  rfl
theorem m_man0 {I : Nat → Nat → Int32} {P : Nat → Nat → Option Nat} {n : Nat} {v : Int32} (hP : p_F0 P) (hI : I 59 0 = nI n) (h1 : 1 ≤ n) (hn : n ≤ 8) (hv : ¬ q_is v n) : f_X5_isMan 57 v (p_m I P) = some (nI 0, p_m I P) := by
  unfold f_X5_isMan
  have h0 := m_in0 (v := v) (lo := 0) (hi := n - 1) (p_m I P) (Or.inl (by rw [show n - 1 + 1 = n by omega]; exact hv)) (by omega) (by omega)
  simp (disch := omega) only [p_Q hP, p_N, p_L, hI, p_sb, h0, p_b]
  rfl
theorem c_word1 {i : Nat} (m : z_M) (hi : i < 3) : f_X4_isWord (nI i) m = some (nI 1, m) := by
  unfold f_X4_isWord
  simp (disch := omega) only [p_N, p_A]
  rw [if_neg (by omega), if_neg (by omega)]
theorem c_word0 {v : Int32} (m : z_M) (hv : ¬ q_is v 3) : f_X4_isWord v m = some (nI 0, m) := by
  unfold f_X4_isWord
  simp only [p_N]
  rcases q_is_lt hv (by omega) with h | h
  · rw [if_pos h]
  · rw [if_pos h]; split <;> rfl
theorem m_word1 {i : Nat} (m : z_M) (hi : i < 3) : f_X5_isWord (nI i) m = some (nI 1, m) := by
  unfold f_X5_isWord
  simp (disch := omega) only [p_N, m_in1, p_b]
  rfl
theorem m_word0 {v : Int32} (m : z_M) (hv : ¬ q_is v 3) : f_X5_isWord v m = some (nI 0, m) := by
  unfold f_X5_isWord
  have h0 := m_in0 (v := v) (lo := 0) (hi := 2) m (Or.inl hv) (by omega) (by omega)
  simp only [p_N, h0, p_b]
  rfl
theorem c_ei1 {i : Nat} (m : z_M) (hi : i < 2) : f_X4_isEither (nI i) m = some (nI 1, m) := by
  unfold f_X4_isEither f_X4_isEither_L9
  simp (disch := omega) only [p_N, p_A]
  rcases (show i = 0 ∨ i = 1 by omega) with rfl | rfl <;> simp
theorem c_ei0 {v : Int32} (m : z_M) (hv : ¬ q_is v 2) : f_X4_isEither v m = some (nI 0, m) := by
  unfold f_X4_isEither
  rw [if_neg, if_neg]
  · rfl
  · rintro rfl; exact hv (by decide)
  · rintro rfl; exact hv (by decide)
theorem m_ei1 {i : Nat} (m : z_M) (hi : i < 2) : f_X5_in (nI i) (nI 0) (nI 1) m = some (nI 1, m) := m_in1 m (by omega) (by omega) (by omega)
theorem m_ei0 {v : Int32} (m : z_M) (hv : ¬ q_is v 2) : f_X5_in v (nI 0) (nI 1) m = some (nI 0, m) := m_in0 m (Or.inl hv) (by omega) (by omega)
end
section
/-! WHOM A MAN FOLLOWS -/
def q_ce (kd lk : Nat → Nat) (b : Nat) : Nat → Nat → Nat
  | 0, _ => 99
  | k + 1, a => if a = b then 99 else if kd a = 2 then q_ce kd lk b k (lk a) else a
def q_r (x : Nat) : Int32 := if x = 99 then -nI 4 else nI x
theorem q_r99 : q_r 99 = -nI 4 := rfl
theorem q_rn {x : Nat} (h : x < 99) : q_r x = nI x := if_neg (by omega)
theorem q_ce_lt {kd lk : Nat → Nat} {b n : Nat} (hlk : ∀ i, i < n → lk i < n) : ∀ (k a : Nat), a < n → q_ce kd lk b k a = 99 ∨ q_ce kd lk b k a < n
  | 0, a, _ => Or.inl rfl
  | k + 1, a, ha => by
    unfold q_ce
    split
    · exact Or.inl rfl
    · split
      · exact q_ce_lt hlk k (lk a) (hlk a ha)
      · exact Or.inr ha
theorem c_ceL {I : Nat → Nat → Int32} {P : Nat → Nat → Option Nat} {s n b : Nat} {bI : Int32} {kd lk : Nat → Nat} (hP : p_F0 P) (hs : c_sq P s) (hI : I s 0 = nI n) (hn : n ≤ 8) (hk : ∀ i, i < n → I (s + 1) i = nI (kd i)) (hk3 : ∀ i, i < n → kd i ≤ 3) (hl : ∀ i, i < n → I 16 i = nI (lk i)) (hlk : ∀ i, i < n → lk i < n) (hb : (bI = nI b ∧ b < 8) ∨ (bI = -nI 4 ∧ b = 99)) :
    ∀ (f a st : Nat), a < n → st ≤ n + 1 → n + 1 - st < f → f_X4_chainEnd_L5 f 0 bI (nI a) (nI st) (p_m I P) = some (q_r (q_ce kd lk b (n + 1 - st) a), p_m I P) := by
  intro f
  induction f with
  | zero => intro a st _ _ h; omega
  | succ f ih =>
    intro a st ha hst hf
    have hbe : (nI a = bI) = (a = b) := by
      rcases hb with ⟨h1, h2⟩ | ⟨h1, h2⟩
      · rw [h1]; exact propext (nI_eq (by omega) (by omega))
      · rw [h1, h2, p_A.2.2.2.2.1 a (by omega)]
        exact (eq_false (by omega)).symm
    unfold f_X4_chainEnd_L5
    have h3 := hk3 a ha
    simp (disch := omega) only [c_sq1 hs, c_sqI hs, c_sqP hs hP, c_sqA hs, p_Q hP, p_L, p_N, hI, hk a ha, hl a ha, hbe, p_A]
    by_cases h1 : n < st
    · rw [if_pos h1, show n + 1 - st = 0 by omega]
      rfl
    · rw [if_neg h1, show n + 1 - st = (n - st) + 1 by omega]
      unfold q_ce
      by_cases h2 : a = b
      · rw [if_pos h2, if_pos h2]
        rfl
      · rw [if_neg h2, if_neg h2]
        by_cases h4 : kd a = 2
        · rw [if_pos h4, if_pos h4, ih (lk a) (st + 1) (hlk a ha) (by omega) (by omega), show n + 1 - (st + 1) = n - st by omega]
        · rw [if_neg h4, if_neg h4, q_rn (by omega)]
theorem c_ce {I : Nat → Nat → Int32} {P : Nat → Nat → Option Nat} {s n b a : Nat} {bI : Int32} {kd lk : Nat → Nat} (hP : p_F0 P) (hs : c_sq P s) (hI : I s 0 = nI n) (hn : n ≤ 8) (hk : ∀ i, i < n → I (s + 1) i = nI (kd i)) (hk3 : ∀ i, i < n → kd i ≤ 3) (hl : ∀ i, i < n → I 16 i = nI (lk i)) (hlk : ∀ i, i < n → lk i < n) (hb : (bI = nI b ∧ b < 8) ∨ (bI = -nI 4 ∧ b = 99)) (ha : a < n) :
    f_X4_chainEnd 0 (nI a) bI (p_m I P) = some (q_r (q_ce kd lk b (n + 1) a), p_m I P) := by
  unfold f_X4_chainEnd
  rw [show (0 : Int32) = nI 0 from rfl]
  exact c_ceL hP hs hI hn hk hk3 hl hlk hb 400 a 0 ha (by omega) (by omega)
/-- the reference, with one man taken for a looking one (T, at TA), or none (99) -/
theorem m_look {I : Nat → Nat → Int32} {P : Nat → Nat → Option Nat} {n T a : Nat} {kd : Nat → Nat} (hP : p_F0 P) (hn : n ≤ 8) (hk : ∀ i, i < n → I 59 (3 + i) = nI (kd i)) (hk3 : ∀ i, i < n → kd i ≤ 3) (hT : (I 57 10 = nI T ∧ T < 8) ∨ (I 57 10 = -nI 1 ∧ T = 99)) (ha : a < n) :
    f_X5_isLooking 57 (nI a) (p_m I P) = some (if (if a = T then 2 else kd a) = 2 then nI 1 else nI 0, p_m I P) ∧ (nI a = I 57 10) = (a = T) := by
  have hbe : (nI a = I 57 10) = (a = T) := by
    rcases hT with ⟨h1, h2⟩ | ⟨h1, h2⟩
    · rw [h1]; exact propext (nI_eq (by omega) (by omega))
    · rw [h1, h2, p_A.2.2.2.2.2.1 a (by omega)]
      exact (eq_false (by omega)).symm
  refine ⟨?_, hbe⟩
  unfold f_X5_isLooking f_X5_isLooking_L20
  have h3 := hk3 a ha
  simp (disch := omega) only [p_Q hP, p_G, p_L, p_N, hbe, p_A, hk a ha]
  by_cases h1 : a = T
  · rw [if_pos h1, if_pos h1, if_pos rfl]
  · rw [if_neg h1, if_neg h1]
    by_cases h2 : kd a = 2
    · rw [if_pos h2, if_pos h2]
    · rw [if_neg h2, if_neg h2]
theorem m_ldL {I : Nat → Nat → Int32} {P : Nat → Nat → Option Nat} {n T TA : Nat} {kd lk : Nat → Nat} (hP : p_F0 P) (hn : n ≤ 8) (hk : ∀ i, i < n → I 59 (3 + i) = nI (kd i)) (hk3 : ∀ i, i < n → kd i ≤ 3) (hl : ∀ i, i < n → I 61 (8 + i) = nI (lk i)) (hlk : ∀ i, i < n → lk i < n) (hT : (I 57 10 = nI T ∧ T < 8) ∨ (I 57 10 = -nI 1 ∧ T = 99)) (hA : T < 8 → I 57 11 = nI TA ∧ TA < n) :
    ∀ (f a st : Nat), a < n → st ≤ 9 → 9 - st < f → f_X5_leader_L4 f 57 (nI a) (nI st) (p_m I P) = some (q_r (q_ce (fun i => if i = T then 2 else kd i) (fun i => if i = T then TA else lk i) 99 (9 - st) a), p_m I P) := by
  intro f
  induction f with
  | zero => intro a st _ _ h; omega
  | succ f ih =>
    intro a st ha hst hf
    obtain ⟨e1, e2⟩ := m_look (P := P) hP hn hk hk3 hT ha
    unfold f_X5_leader_L4 f_X5_leader_L44
    simp (disch := omega) only [p_Q hP, p_G, p_L, p_C, p_N, p_b, e1, e2, hl a ha, p_A]
    by_cases h1 : 8 < st
    · rw [if_pos h1, show 9 - st = 0 by omega]
      rfl
    · rw [if_neg h1, show 9 - st = (8 - st) + 1 by omega]
      unfold q_ce
      rw [if_neg (show ¬ a = 99 by omega)]
      by_cases h2 : a = T
      · subst h2
        simp only [if_true]
        rw [if_neg (by decide)]
        have hT8 : a < 8 := by omega
        rw [(hA hT8).1, ih TA (st + 1) (hA hT8).2 (by omega) (by omega), show 9 - (st + 1) = 8 - st by omega]
      · rw [if_neg h2, if_neg h2]
        by_cases h4 : kd a = 2
        · rw [if_pos h4, if_pos h4, if_neg (by decide), if_neg h2, ih (lk a) (st + 1) (hlk a ha) (by omega) (by omega), show 9 - (st + 1) = 8 - st by omega]
        · rw [if_neg h4, if_neg h4, if_pos rfl, q_rn (by omega)]
/-- the reference's leader when nobody is taken -/
theorem m_ld {I : Nat → Nat → Int32} {P : Nat → Nat → Option Nat} {n a : Nat} {kd lk : Nat → Nat} (hP : p_F0 P) (hn : n ≤ 8) (hk : ∀ i, i < n → I 59 (3 + i) = nI (kd i)) (hk3 : ∀ i, i < n → kd i ≤ 3) (hl : ∀ i, i < n → I 61 (8 + i) = nI (lk i)) (hlk : ∀ i, i < n → lk i < n) (hT : I 57 10 = -nI 1) (ha : a < n) :
    f_X5_leader 57 (nI a) (p_m I P) = some (q_r (q_ce kd lk 99 9 a), p_m I P) := by
  unfold f_X5_leader
  rw [show (0 : Int32) = nI 0 from rfl, m_ldL (T := 99) (TA := 0) hP hn hk hk3 hl hlk (Or.inr ⟨hT, rfl⟩) (fun h => by omega) 400 a 0 ha (by omega) (by omega)]
  congr 3
  have key : ∀ (k a : Nat), q_ce (fun i => if i = 99 then 2 else kd i) (fun i => if i = 99 then 0 else lk i) 99 k a = q_ce kd lk 99 k a := by
    intro k
    induction k with
    | zero => intro a; rfl
    | succ k ih =>
      intro a
      unfold q_ce
      by_cases h : a = 99
      · rw [if_pos h, if_pos h]
      · rw [if_neg h, if_neg h, if_neg h, if_neg h]
        split
        · exact ih _
        · rfl
  exact key _ a
/-! a row of more than n numbers below n has two alike -/
theorem q_pig : ∀ (n : Nat) (f : Nat → Nat), (∀ j, j ≤ n → f j < n) → ∃ i j, i < j ∧ j ≤ n ∧ f i = f j
  | 0, f, h => absurd (h 0 (Nat.le_refl _)) (Nat.not_lt_zero _)
  | n + 1, f, h => by
    by_cases hx : ∃ i, i ≤ n ∧ f i = f (n + 1)
    · obtain ⟨i, hi, e⟩ := hx
      exact ⟨i, n + 1, by omega, Nat.le_refl _, e⟩
    · -- the last value is met once: take it out
      have hx' : ∀ i, i ≤ n → f i ≠ f (n + 1) := fun i hi e => hx ⟨i, hi, e⟩
      obtain ⟨i, j, h1, h2, e⟩ := q_pig n (fun i => if f i < f (n + 1) then f i else f i - 1) (fun j hj => by
        have a1 := h j (by omega)
        have a2 := h (n + 1) (Nat.le_refl _)
        have a3 := hx' j hj
        show (if f j < f (n + 1) then f j else f j - 1) < n
        split <;> omega)
      refine ⟨i, j, h1, by omega, ?_⟩
      have a1 := hx' i (by omega)
      have a2 := hx' j (by omega)
      split at e <;> split at e <;> omega
/-- the k-th one of a row of looks -/
def q_it (lk : Nat → Nat) (a : Nat) : Nat → Nat
  | 0 => a
  | k + 1 => lk (q_it lk a k)
theorem q_it_lt {lk : Nat → Nat} {n : Nat} (hlk : ∀ i, i < n → lk i < n) {a : Nat} (ha : a < n) : ∀ k, q_it lk a k < n
  | 0 => ha
  | k + 1 => hlk _ (q_it_lt hlk ha k)
theorem q_it_s (lk : Nat → Nat) (a : Nat) : ∀ k, q_it lk (lk a) k = q_it lk a (k + 1)
  | 0 => rfl
  | k + 1 => by
    show lk (q_it lk (lk a) k) = lk (q_it lk a (k + 1))
    rw [q_it_s lk a k]
/-- it doesn't end within k: all k ones go on -/
theorem q_go {kd lk : Nat → Nat} {b : Nat} (hb : 99 ≤ b) : ∀ (k a : Nat), (∀ j, j < k → q_it lk a j < 99) → (q_ce kd lk b k a = 99 ↔ ∀ j, j < k → kd (q_it lk a j) = 2)
  | 0, a, _ => by
    constructor
    · intro _ j hj; omega
    · intro _; rfl
  | k + 1, a, hlt => by
    have h0 : a < 99 := hlt 0 (by omega)
    unfold q_ce
    rw [if_neg (show ¬ a = b by omega)]
    by_cases h2 : kd a = 2
    · rw [if_pos h2, q_go hb k (lk a) (fun j hj => by rw [q_it_s]; exact hlt (j + 1) (by omega))]
      constructor
      · intro h j hj
        cases j with
        | zero => exact h2
        | succ j => rw [← q_it_s]; exact h j (by omega)
      · intro h j hj
        rw [q_it_s]
        exact h (j + 1) (by omega)
    · rw [if_neg h2]
      constructor
      · intro h; omega
      · intro h; exact absurd (h 0 (by omega)) h2
/-- if n ones go on, all go on -/
theorem q_all {kd lk : Nat → Nat} {n a : Nat} (hlk : ∀ i, i < n → lk i < n) (ha : a < n) (h : ∀ j, j < n → kd (q_it lk a j) = 2) : ∀ j, kd (q_it lk a j) = 2 := by
  obtain ⟨i, j, hij, hj, e⟩ := q_pig n (q_it lk a) (fun j _ => q_it_lt hlk ha j)
  have per : ∀ k, q_it lk a (i + k) = q_it lk a (j + k) := by
    intro k
    induction k with
    | zero => exact e
    | succ k ih => show lk (q_it lk a (i + k)) = lk (q_it lk a (j + k)); rw [ih]
  intro k
  induction k using Nat.strongRecOn with
  | ind k ih =>
    by_cases hk : k < n
    · exact h k hk
    · have e1 := per (k - j)
      rw [show j + (k - j) = k by omega] at e1
      rw [← e1]
      exact ih (i + (k - j)) (by omega)
theorem q_ce_eq {kd lk : Nat → Nat} {b : Nat} : ∀ (k k' a : Nat), k ≤ k' → q_ce kd lk b k a ≠ 99 → q_ce kd lk b k' a = q_ce kd lk b k a
  | 0, k', a, _, h => absurd rfl h
  | k + 1, 0, a, h, _ => by omega
  | k + 1, k' + 1, a, h, hne => by
    unfold q_ce at hne ⊢
    by_cases h1 : a = b
    · rw [if_pos h1, if_pos h1]
    · rw [if_neg h1, if_neg h1]
      rw [if_neg h1] at hne
      by_cases h2 : kd a = 2
      · rw [if_pos h2] at hne ⊢
        rw [if_pos h2]
        exact q_ce_eq k k' (lk a) (by omega) hne
      · rw [if_neg h2, if_neg h2]
/-- n steps are enough -/
theorem q_fuel {kd lk : Nat → Nat} {n a k k' : Nat} (hlk : ∀ i, i < n → lk i < n) (hn : n ≤ 8) (ha : a < n) (hk : n ≤ k) (hk' : n ≤ k') : q_ce kd lk 99 k a = q_ce kd lk 99 k' a := by
  have lt99 : ∀ j, q_it lk a j < 99 := fun j => by have := q_it_lt hlk ha j; omega
  by_cases h : q_ce kd lk 99 n a = 99
  · have hall := q_all hlk ha ((q_go (Nat.le_refl _) n a (fun j _ => lt99 j)).mp h)
    rw [(q_go (Nat.le_refl _) k a (fun j _ => lt99 j)).mpr (fun j _ => hall j), (q_go (Nat.le_refl _) k' a (fun j _ => lt99 j)).mpr (fun j _ => hall j)]
  · rw [q_ce_eq n k a hk h, q_ce_eq n k' a hk' h]
end
section
/-! BASES: what a query needs of either side -/
def q_scr (a : Nat) : Prop := (54 ≤ a ∧ a ≤ 56) ∨ (17 ≤ a ∧ a ≤ 19)
def c_B (I : Nat → Nat → Int32) (P : Nat → Nat → Option Nat) (s : Nat) (q : q_Q) (g : q_G) : Prop := p_F0 P ∧ c_sq P s ∧ q_ok q ∧ g_ok q.1 g ∧ c_Q I s q ∧ c_G I 14 q.1 g
def m_B (I : Nat → Nat → Int32) (P : Nat → Nat → Option Nat) (q : q_Q) (g : q_G) : Prop := p_F0 P ∧ q_ok q ∧ g_ok q.1 g ∧ m_Q I q ∧ m_G I 61 0 q.1 g ∧ I 57 10 = -nI 1
def m_keep (I I' : Nat → Nat → Int32) : Prop := (∀ a, a ≠ 57 → a ≠ 60 → a ≠ 64 → I' a = I a) ∧ ∀ j, j ≠ 9 → j ≠ 11 → j ≠ 13 → I' 57 j = I 57 j
theorem m_keep.rf {I : Nat → Nat → Int32} : m_keep I I := ⟨fun _ _ _ _ => rfl, fun _ _ _ _ => rfl⟩
theorem m_keep.tr {I I' I'' : Nat → Nat → Int32} (h : m_keep I I') (h' : m_keep I' I'') : m_keep I I'' := ⟨fun a h1 h2 h3 => (h'.1 a h1 h2 h3).trans (h.1 a h1 h2 h3), fun j h1 h2 h3 => (h'.2 j h1 h2 h3).trans (h.2 j h1 h2 h3)⟩
theorem c_B.keep {I I' : Nat → Nat → Int32} {P : Nat → Nat → Option Nat} {s : Nat} {q : q_Q} {g : q_G} (h : c_B I P s q g) (hs : p_same q_scr I I') : c_B I' P s q g := by
  obtain ⟨h1, h2, h3, h4, h5, h6⟩ := h
  refine ⟨h1, h2, h3, h4, ?_, ?_⟩
  · rcases h2.1 with rfl | rfl
    · exact h5.keep hs (by unfold q_scr; omega) (by unfold q_scr; omega) (by unfold q_scr; omega) (by unfold q_scr; omega)
    · exact h5.keep hs (by unfold q_scr; omega) (by unfold q_scr; omega) (by unfold q_scr; omega) (by unfold q_scr; omega)
  · exact h6.keep hs (by unfold q_scr; omega) (by unfold q_scr; omega) (by unfold q_scr; omega)
theorem m_B.keep {I I' : Nat → Nat → Int32} {P : Nat → Nat → Option Nat} {q : q_Q} {g : q_G} {S : Nat → Prop} (h : m_B I P q g) (hs : p_same S I I') (hS : ∀ a, S a → a < 57) : m_B I' P q g := by
  obtain ⟨h1, h2, h3, h4, h5, h6⟩ := h
  refine ⟨h1, h2, h3, h4.keep hs (fun z => by have := hS _ z; omega), h5.keep hs (fun z => by have := hS _ z; omega), ?_⟩
  rw [hs 57 (fun z => by have := hS _ z; omega)]
  exact h6
theorem m_B.keepM {I I' : Nat → Nat → Int32} {P : Nat → Nat → Option Nat} {q : q_Q} {g : q_G} (h : m_B I P q g) (hk : m_keep I I') : m_B I' P q g := by
  obtain ⟨h1, h2, h3, h4, h5, h6⟩ := h
  have hs : p_same (fun a => a = 57 ∨ a = 60 ∨ a = 64) I I' := fun a ha => hk.1 a (by omega) (by omega) (by omega)
  refine ⟨h1, h2, h3, h4.keep hs (by omega), h5.keep hs (by omega), ?_⟩
  rw [hk.2 10 (by omega) (by omega) (by omega)]
  exact h6
/-- the reference's cells, spelled out -/
theorem m_B.x {I : Nat → Nat → Int32} {P : Nat → Nat → Option Nat} {q : q_Q} {g : q_G} (h : m_B I P q g) : (I 59 0 = nI q.1 ∧ I 59 1 = nI q.2.1) ∧ (∀ i, i < q.1 → I 59 (3 + i) = nI (q.2.2.1 i)) ∧ (∀ i, i < q.1 → I 59 (11 + i) = nI (q.2.2.2.1 i)) ∧ (∀ i, i < q.1 → I 59 (27 + i) = nI (q.2.2.2.2 i)) ∧ (∀ i, i < q.1 → I 61 i = nI (g.1 i)) ∧ (∀ i, i < q.1 → I 61 (8 + i) = nI (g.2.1 i)) ∧ I 61 16 = nI g.2.2.1 ∧ I 61 17 = nI g.2.2.2.1 ∧ I 61 18 = q_a g.2.2.2.2.1 ∧ I 61 19 = nI g.2.2.2.2.2.1 ∧ I 61 20 = nI g.2.2.2.2.2.2.1 ∧ I 61 21 = nI g.2.2.2.2.2.2.2 := by
  obtain ⟨-, -, -, ⟨a1, a2, a3⟩, ⟨b1, b2⟩, -⟩ := h
  simp only [Nat.zero_add] at b1 b2
  exact ⟨⟨a1, a2⟩, fun i hi => (a3 i hi).1, fun i hi => (a3 i hi).2.1, fun i hi => (a3 i hi).2.2, fun i hi => (b1 i hi).1, fun i hi => (b1 i hi).2, b2⟩
theorem c_B.x {I : Nat → Nat → Int32} {P : Nat → Nat → Option Nat} {s : Nat} {q : q_Q} {g : q_G} (h : c_B I P s q g) : (I s 0 = nI q.1 ∧ I s 1 = nI q.2.1) ∧ (∀ i, i < q.1 → I (s + 1) i = nI (q.2.2.1 i)) ∧ (∀ i, i < q.1 → I (s + 2) i = nI (q.2.2.2.1 i)) ∧ (∀ i, i < q.1 → I (s + 4) i = nI (q.2.2.2.2 i)) ∧ (∀ i, i < q.1 → I 15 i = nI (g.1 i)) ∧ (∀ i, i < q.1 → I 16 i = nI (g.2.1 i)) ∧ I 14 2 = nI g.2.2.1 ∧ I 14 3 = nI g.2.2.2.1 ∧ I 14 4 = nI (q_t g.2.2.2.2.1) ∧ I 14 5 = nI g.2.2.2.2.2.1 ∧ I 14 6 = nI g.2.2.2.2.2.2.1 ∧ I 14 7 = nI g.2.2.2.2.2.2.2 := by
  obtain ⟨-, -, -, -, ⟨a1, a2, a3⟩, ⟨b1, b2⟩⟩ := h
  exact ⟨⟨a1, a2⟩, fun i hi => (a3 i hi).1, fun i hi => (a3 i hi).2.1, fun i hi => (a3 i hi).2.2, fun i hi => (b1 i hi).1, fun i hi => (b1 i hi).2, b2⟩
/-- whose turn a man copies -/
def q_ld (q : q_Q) (g : q_G) (i : Nat) : Nat := if g.2.2.1 = 1 then i else if q_ce q.2.2.1 g.2.1 99 9 i = 99 then i else q_ce q.2.2.1 g.2.1 99 9 i
theorem q_ld_lt {q : q_Q} {g : q_G} (hg : g_ok q.1 g) (hq : q_ok q) {i : Nat} (hi : i < q.1) : q_ld q g i < q.1 := by
  unfold q_ld
  split
  · exact hi
  · split
    · exact hi
    · rcases q_ce_lt (kd := q.2.2.1) (b := 99) (fun i hi => (hg.1 i hi).2) 9 i hi with h | h
      · contradiction
      · exact h
section
variable {I : Nat → Nat → Int32} {P : Nat → Nat → Option Nat} {s : Nat} {q : q_Q} {g : q_G}
theorem c_end (h : c_B I P s q g) {i : Nat} (hi : i < q.1) : f_X4_chainEnd 0 (nI i) (-nI 4) (p_m I P) = some (q_r (q_ce q.2.2.1 g.2.1 99 9 i), p_m I P) := by
  have hx := h.x
  rw [c_ce (kd := q.2.2.1) (lk := g.2.1) h.1 h.2.1 hx.1.1 h.2.2.1.2.1 hx.2.1 (fun i hi => (h.2.2.1.2.2.2 i hi).1) hx.2.2.2.2.2.1 (fun i hi => (h.2.2.2.1.1 i hi).2) (Or.inr ⟨rfl, rfl⟩) hi]
  rw [q_fuel (fun i hi => (h.2.2.2.1.1 i hi).2) h.2.2.1.2.1 hi (by have := h.2.2.1.2.1; omega) (show q.1 ≤ 9 by have := h.2.2.1.2.1; omega)]
theorem c_endB (h : c_B I P s q g) {i b : Nat} (hi : i < q.1) (hb : b < q.1) : f_X4_chainEnd 0 (nI i) (nI b) (p_m I P) = some (q_r (q_ce q.2.2.1 g.2.1 b (q.1 + 1) i), p_m I P) := by
  have hx := h.x
  have h8 := h.2.2.1.2.1
  exact c_ce (kd := q.2.2.1) (lk := g.2.1) h.1 h.2.1 hx.1.1 h8 hx.2.1 (fun i hi => (h.2.2.1.2.2.2 i hi).1) hx.2.2.2.2.2.1 (fun i hi => (h.2.2.2.1.1 i hi).2) (Or.inl ⟨rfl, by omega⟩) hi
theorem m_end (h : m_B I P q g) {i : Nat} (hi : i < q.1) : f_X5_leader 57 (nI i) (p_m I P) = some (q_r (q_ce q.2.2.1 g.2.1 99 9 i), p_m I P) := by
  have hx := h.x
  exact m_ld h.1 h.2.1.2.1 hx.2.1 (fun i hi => (h.2.1.2.2.2 i hi).1) hx.2.2.2.2.2.1 (fun i hi => (h.2.2.1.1 i hi).2) h.2.2.2.2.2 hi
theorem q_r_eq (h : ∀ i, i < q.1 → g.2.1 i < q.1) (hn : q.1 ≤ 8) {i : Nat} (hi : i < q.1) : (q_r (q_ce q.2.2.1 g.2.1 99 9 i) = -nI 4) = (q_ce q.2.2.1 g.2.1 99 9 i = 99) := by
  rcases q_ce_lt (kd := q.2.2.1) (b := 99) h 9 i hi with e | e
  · rw [e]; simp [q_r]
  · rw [q_rn (by omega), p_A.2.2.2.2.1 _ (by omega)]
    exact (eq_false (by omega)).symm
theorem m_as (h : m_B I P q g) {i : Nat} (hi : i < q.1) : f_X5_turnsAs 57 (nI i) (p_m I P) = some (nI (q_ld q g i), p_m I P) := by
  have hx := h.x
  have h8 := h.2.1.2.1
  have hs1 := h.2.2.1.2.1
  have he := q_r_eq (q := q) (g := g) (fun i hi => (h.2.2.1.1 i hi).2) h8 hi
  unfold f_X5_turnsAs f_X5_turnsAs_L20 q_ld
  simp (disch := omega) only [p_Q h.1, p_L, p_C, p_N, p_b, hx, m_end h hi, p_A, he]
  by_cases h1 : g.2.2.1 = 1
  · rw [if_pos h1, if_pos h1, if_neg (fun z => z)]
  · rw [if_neg h1, if_neg h1]
    rcases q_ce_lt (kd := q.2.2.1) (b := 99) (fun i hi => (h.2.2.1.1 i hi).2) 9 i hi with e | e
    · rw [if_pos e, if_pos e]
    · rw [if_neg (by omega), if_neg (by omega), q_rn (by omega)]
theorem c_fl (h : c_B I P s q g) : ∀ (f i : Nat) (I : Nat → Nat → Int32), c_B I P s q g → i ≤ q.1 → q.1 - i < f → ∃ I', f_X4_findLeaders_L2 f 0 (nI i) (p_m I P) = some (nI 0, p_m I' P) ∧ p_same (fun a => a = 54) I I' ∧ (∀ j, j < i → I' 54 j = I 54 j) ∧ ∀ j, i ≤ j → j < q.1 → I' 54 j = nI (q_ld q g j) := by
  intro f
  induction f with
  | zero => intro i I _ _ h; omega
  | succ f ih =>
    intro i I h hi hf
    have hx := h.x
    have h8 := h.2.2.1.2.1
    have hs1 := h.2.2.2.1.2.1
    unfold f_X4_findLeaders_L2 f_X4_findLeaders_L35 f_X4_findLeaders_L52
    simp (disch := omega) only [p_Q h.1, c_sq1 h.2.1, c_sqI h.2.1, p_G, p_C, p_N, hx, p_A]
    by_cases h1 : q.1 ≤ i
    · rw [if_pos h1]
      exact ⟨I, rfl, p_same.rf, fun _ _ => rfl, fun j h2 h3 => by omega⟩
    · rw [if_neg h1]
      have hin : i < q.1 := by omega
      have he := q_r_eq (q := q) (g := g) (fun i hi => (h.2.2.2.1.1 i hi).2) h8 hin
      have K : ∀ v : Nat, v = q_ld q g i → ∃ I', f_X4_findLeaders_L2 f 0 (nI (i + 1)) (p_m (p_w I 54 i (nI v)) P) = some (nI 0, p_m I' P) ∧ p_same (fun a => a = 54) I I' ∧ (∀ j, j < i → I' 54 j = I 54 j) ∧ ∀ j, i ≤ j → j < q.1 → I' 54 j = nI (q_ld q g j) := by
        intro v hv
        obtain ⟨I', a1, a2, a3, a4⟩ := ih (i + 1) (p_w I 54 i (nI v)) (h.keep (p_same.rf.w (by unfold q_scr; omega))) (by omega) (by omega)
        refine ⟨I', a1, (p_same.w (S := fun a => a = 54) p_same.rf rfl).tr a2, fun j hj => ?_, fun j h2 h3 => ?_⟩
        · rw [a3 j (by omega), p_w_ne (Or.inr (by omega))]
        · by_cases hij : j = i
          · subst hij
            rw [a3 j (by omega), p_w_eq, hv]
          · exact a4 j (by omega) h3
      by_cases h2 : g.2.2.1 = 1
      · rw [if_pos h2]
        have hne : (nI i = -nI 4) = False := p_A.2.2.2.2.1 i (by omega)
        simp (disch := omega) only [hne, if_false, p_S]
        exact K i (by unfold q_ld; rw [if_pos h2])
      · rw [if_neg h2, c_end h hin]
        simp (disch := omega) only [p_b, p_Q h.1, he]
        by_cases h3 : q_ce q.2.2.1 g.2.1 99 9 i = 99
        · rw [if_pos h3]
          simp (disch := omega) only [p_S]
          exact K i (by unfold q_ld; rw [if_neg h2, if_pos h3])
        · rw [if_neg h3]
          simp (disch := omega) only [p_S]
          rcases q_ce_lt (kd := q.2.2.1) (b := 99) (fun i hi => (h.2.2.2.1.1 i hi).2) 9 i hin with e | e
          · contradiction
          · rw [q_rn (by omega)]
            exact K _ (by unfold q_ld; rw [if_neg h2, if_neg h3])
theorem c_leaders (h : c_B I P s q g) : ∃ I', f_X4_findLeaders 0 (p_m I P) = some (nI 0, p_m I' P) ∧ p_same (fun a => a = 54) I I' ∧ ∀ j, j < q.1 → I' 54 j = nI (q_ld q g j) := by
  unfold f_X4_findLeaders
  have h8 := h.2.2.1.2.1
  obtain ⟨I', a1, a2, -, a4⟩ := c_fl h 400 0 I h (by omega) (by omega)
  exact ⟨I', a1, a2, fun j hj => a4 j (by omega) hj⟩
end
end
section
/-! DRAWS, BITS, MANNERS -/
def q_d (x : Nat) : Nat := x * x % 65521 / 8
theorem q_d_lt (x : Nat) : q_d x < 8191 := by
  unfold q_d
  have : x * x % 65521 < 65521 := Nat.mod_lt _ (by decide)
  omega
theorem p_ML {a b : Nat} (ha : a < 2 ^ 63) (h0 : 0 < b) (hb : b < 2 ^ 63) : z_mL (lN a) (lN b) = lN (a % b) := pk_lRem ha h0 hb
theorem q_sq {x : Nat} (h : x < 1000000000) : x * x < 2 ^ 63 := Nat.lt_of_le_of_lt (Nat.mul_le_mul (Nat.le_of_lt h) (Nat.le_of_lt h)) (by decide)
theorem c_draw {x : Nat} (h : x < 1000000000) (m : z_M) : f_X4_drawOf (lN x) m = some (nI (q_d x), m) := by
  unfold f_X4_drawOf q_d
  have h1 : x * x % 65521 < 65521 := Nat.mod_lt _ (by decide)
  rw [show (65521 : Int64) = lN 65521 from rfl, show (8 : Int64) = lN 8 from rfl, lN_mul, p_ML (q_sq h) (by decide) (by decide), pk_lDiv (by omega) (by decide) (by decide), lN_i]
theorem m_draw {x : Nat} (h : x < 1000000000) (m : z_M) : f_X5_drawOf (lN x) m = some (nI (q_d x), m) := by
  unfold f_X5_drawOf q_d
  have h1 : x * x % 65521 < 65521 := Nat.mod_lt _ (by decide)
  rw [show (65521 : Int64) = lN 65521 from rfl, lN_mul, p_ML (q_sq h) (by decide) (by decide), lN_i, show (8 : Int32) = nI 8 from rfl, p_di (by omega) (by decide) (by decide)]
/-- the number out of which is drawn -/
def q_x (s w a : Nat) : Nat := 7919 * s + 6151 * w + 3571 * a + 1
theorem q_xL {s w a : Nat} (hs : s ≤ 99) (hw : w ≤ 2000) (ha : a < 8) : (((7919 * (nI s).toInt64) + (6151 * (nI w).toInt64)) + (3571 * (nI a).toInt64)) + 1 = lN (q_x s w a) := by
  rw [nI_l (by omega), nI_l (by omega), nI_l (by omega), show (7919 : Int64) = lN 7919 from rfl, show (6151 : Int64) = lN 6151 from rfl, show (3571 : Int64) = lN 3571 from rfl, lN_mul, lN_mul, lN_mul, lN_add, lN_add, lN_1]
  rfl
theorem q_x_lt {s w a : Nat} (hs : s ≤ 99) (hw : w ≤ 2000) (ha : a < 8) : q_x s w a < 1000000000 := by
  unfold q_x
  omega
/-- does a chief err by the draw -/
def q_er (q : q_Q) (w a : Nat) : Bool := decide (q_d (q_x q.2.1 w a) % 10 < q.2.2.2.2 a)
/-- as foreseen -/
def q_ef (q : q_Q) (a : Nat) : Bool := decide (5 ≤ q.2.2.2.2 a)
theorem p_or (a b : Nat) : nI a ||| nI b = nI (a ||| b) := by
  apply Int32.toBitVec_inj.mp
  show BitVec.ofNat 32 a ||| BitVec.ofNat 32 b = BitVec.ofNat 32 (a ||| b)
  exact (BitVec.ofNat_or ..).symm
theorem p_sh : ∀ i, i < 8 → (nI 1) <<< (nI i &&& nI 31) = nI (2 ^ i) := by decide
theorem p_bt : ∀ e, e < 256 → ∀ a, a < 8 → (((nI e >>> (nI a &&& nI 31)) &&& nI 1) = nI (if e.testBit a then 1 else 0)) := by decide +kernel
def q_or (p : Nat → Bool) (e : Nat) : Nat → Nat
  | 0 => e
  | i + 1 => if p i then q_or p e i ||| 2 ^ i else q_or p e i
theorem q_or_lt {p : Nat → Bool} {e n : Nat} (he : e < 2 ^ n) : ∀ i, i ≤ n → q_or p e i < 2 ^ n
  | 0, _ => he
  | i + 1, h => by
    unfold q_or
    have h1 := q_or_lt (p := p) he i (by omega)
    split
    · exact Nat.or_lt_two_pow h1 (Nat.pow_lt_pow_right (by decide) (by omega))
    · exact h1
theorem q_or_bit {p : Nat → Bool} {a : Nat} : ∀ i, (q_or p 0 i).testBit a = (decide (a < i) && p a)
  | 0 => by simp [q_or]
  | i + 1 => by
    have ih := q_or_bit (p := p) (a := a) i
    unfold q_or
    by_cases hp : p i = true
    · rw [if_pos hp, Nat.testBit_or, ih, Nat.testBit_two_pow]
      by_cases h : a = i
      · subst h; simp [hp]
      · have : decide (i = a) = false := by simp; omega
        rw [this, Bool.or_false]
        congr 1
        simp
        omega
    · rw [if_neg hp, ih]
      by_cases h : a = i
      · subst h; simp [hp]
      · congr 1
        simp
        omega
theorem q_or_ext {p p' : Nat → Bool} {e : Nat} : ∀ i, (∀ j, j < i → p j = p' j) → q_or p e i = q_or p' e i
  | 0, _ => rfl
  | i + 1, h => by
    unfold q_or
    rw [h i (by omega), q_or_ext i (fun j hj => h j (by omega))]
/-- the manner of a chief: 0 as told, 1 astray, 2 behind -/
def q_mn (q : q_Q) (a : Nat) (e : Bool) : Nat := if q.2.2.1 a = 3 then 2 else if (q.2.2.1 a = 1 ∨ q.2.2.1 a = 2) ∧ e = true then 1 else 0
theorem q_mn3 (q : q_Q) (a : Nat) (e : Bool) : q_mn q a e < 3 := by unfold q_mn; split <;> (try split) <;> omega
def q_tb (mn t ta : Nat) : Nat := if mn = 2 then ta else if mn = 1 then 4 - t else t
/-- how a man turns at a word -/
def q_tw (q : q_Q) (g : q_G) (w : Nat) (er : Nat → Bool) (i : Nat) : Nat := q_tb (q_mn q (q_ld q g i) (er (q_ld q g i))) (q_t (w + 1)) (q_t g.2.2.2.2.1)
theorem q_tw_lt (q : q_Q) (g : q_G) (w : Nat) (er : Nat → Bool) (i : Nat) : q_tw q g w er i < 4 := by
  have h1 := q_t4 (w + 1)
  have h2 := q_t4 g.2.2.2.2.1
  unfold q_tw q_tb
  split
  · exact h2
  · split
    · have : 0 < q_t (w + 1) := by unfold q_t; split <;> (try split) <;> (try split) <;> omega
      omega
    · exact h1
section
variable {I : Nat → Nat → Int32} {P : Nat → Nat → Option Nat} {s : Nat} {q : q_Q} {g : q_G}
/-- what the class's squad alone gives -/
def c_K (I : Nat → Nat → Int32) (P : Nat → Nat → Option Nat) (s : Nat) (q : q_Q) : Prop := p_F0 P ∧ c_sq P s ∧ q_ok q ∧ c_Q I s q
theorem c_B.k (h : c_B I P s q g) : c_K I P s q := ⟨h.1, h.2.1, h.2.2.1, h.2.2.2.2.1⟩
theorem c_K.keep {S : Nat → Prop} {I' : Nat → Nat → Int32} (h : c_K I P s q) (hs : p_same S I I') (hS : ∀ a, S a → 14 ≤ a) : c_K I' P s q := by
  obtain ⟨h1, h2, h3, h4⟩ := h
  refine ⟨h1, h2, h3, ?_⟩
  rcases h2.1 with rfl | rfl
  · exact h4.keep hs (fun z => by have := hS _ z; omega) (fun z => by have := hS _ z; omega) (fun z => by have := hS _ z; omega) (fun z => by have := hS _ z; omega)
  · exact h4.keep hs (fun z => by have := hS _ z; omega) (fun z => by have := hS _ z; omega) (fun z => by have := hS _ z; omega) (fun z => by have := hS _ z; omega)
theorem c_K.x (h : c_K I P s q) : (I s 0 = nI q.1 ∧ I s 1 = nI q.2.1) ∧ (∀ i, i < q.1 → I (s + 1) i = nI (q.2.2.1 i)) ∧ (∀ i, i < q.1 → I (s + 2) i = nI (q.2.2.2.1 i)) ∧ (∀ i, i < q.1 → I (s + 4) i = nI (q.2.2.2.2 i)) := by
  obtain ⟨-, -, -, a1, a2, a3⟩ := h
  exact ⟨⟨a1, a2⟩, fun i hi => (a3 i hi).1, fun i hi => (a3 i hi).2.1, fun i hi => (a3 i hi).2.2⟩
theorem p_b1 {c : Prop} [Decidable c] {m : z_M} {x y : Int32} : (if c then some (x, m) else some (y, m)) = some (if c then x else y, m) := by split <;> rfl
theorem c_errs (h : c_K I P s q) {a w : Nat} (ha : a < q.1) (hw : w ≤ 2000) : f_X4_errsByDraw 0 (nI a) (nI w) (p_m I P) = some (nI (if q_er q w a then 1 else 0), p_m I P) := by
  have hx := h.x
  have h8 := h.2.2.1.2.1
  have hsd := h.2.2.1.2.2.1
  have he := (h.2.2.1.2.2.2 a ha).2.2
  have hd := q_d_lt (q_x q.2.1 w a)
  unfold f_X4_errsByDraw z_lL
  simp (disch := omega) only [c_sq1 h.2.1, c_sqI h.2.1, c_sqP h.2.1 h.1, c_sqA h.2.1, hx, q_xL]
  rw [c_draw (q_x_lt hsd hw (by omega))]
  simp (disch := omega) only [p_b, c_sq1 h.2.1, c_sqI h.2.1, c_sqP h.2.1 h.1, c_sqA h.2.1, hx, p_N, p_mo, p_A]
  unfold q_er
  by_cases hc : q_d (q_x q.2.1 w a) % 10 < q.2.2.2.2 a
  · rw [if_neg (by omega)]; simp [hc]
  · rw [if_pos (by omega)]; simp [hc]
theorem c_chancy (h : c_K I P s q) {a : Nat} (ha : a < q.1) : f_X4_isChancy 0 (nI a) (p_m I P) = some (nI (if q.2.2.1 a = 1 ∨ q.2.2.1 a = 2 then 1 else 0), p_m I P) := by
  have hx := h.x
  have h8 := h.2.2.1.2.1
  have hk := (h.2.2.1.2.2.2 a ha).1
  unfold f_X4_isChancy f_X4_isChancy_L26
  simp (disch := omega) only [c_sq1 h.2.1, c_sqI h.2.1, c_sqP h.2.1 h.1, c_sqA h.2.1, hx, p_N, p_A]
  by_cases h1 : q.2.2.1 a = 1
  · simp [h1]
  · by_cases h2 : q.2.2.1 a = 2
    · simp [h2]
    · simp [h1, h2]
theorem c_manner (h : c_K I P s q) {a : Nat} (ha : a < q.1) (e : Bool) : f_X4_mannerOf 0 (nI a) (nI (if e then 1 else 0)) (p_m I P) = some (nI (q_mn q a e), p_m I P) := by
  have hx := h.x
  have h8 := h.2.2.1.2.1
  have hk := (h.2.2.1.2.2.2 a ha).1
  unfold f_X4_mannerOf q_mn
  simp (disch := omega) only [c_sq1 h.2.1, c_sqI h.2.1, c_sqP h.2.1 h.1, c_sqA h.2.1, p_C, hx, p_N, p_A, c_chancy h ha, p_b]
  by_cases h3 : q.2.2.1 a = 3
  · simp [h3]
  · rw [if_neg h3, if_neg h3]
    by_cases h1 : q.2.2.1 a = 1 ∨ q.2.2.1 a = 2
    · rw [if_pos h1]
      cases e <;> simp (disch := omega) [p_A, h1]
    · rw [if_neg h1]
      simp (disch := omega) [h1]
theorem c_turnBy {mn t ta : Nat} (h1 : mn < 3) (h2 : t < 4) (m : z_M) : f_X4_turnBy (nI mn) (nI t) (nI ta) m = some (nI (q_tb mn t ta), m) := by
  unfold f_X4_turnBy q_tb
  simp (disch := omega) only [p_N, p_A, p_sb]
  split
  · rfl
  · split <;> rfl
theorem m_turnOf {a : Nat} (ha : a ≤ 3) (m : z_M) : f_X5_turnOf (q_a a) m = some (nI (q_t a), m) := by
  unfold f_X5_turnOf
  rcases (show a = 0 ∨ a = 1 ∨ a = 2 ∨ a = 3 by omega) with rfl | rfl | rfl | rfl <;> rfl
theorem q_aw (w : Nat) : q_a (w + 1) = nI w := by
  unfold q_a
  exact nI_pred w
theorem m_turnW {w : Nat} (hw : w < 3) (m : z_M) : f_X5_turnOf (nI w) m = some (nI (q_t (w + 1)), m) := by
  rw [← q_aw]; exact m_turnOf (by omega) m
theorem m_may (h : m_B I P q g) {a : Nat} (ha : a < q.1) : f_X5_mayErr 57 (nI a) (p_m I P) = some (nI (if q.2.2.1 a = 1 ∨ q.2.2.1 a = 2 then 1 else 0), p_m I P) := by
  have hx := h.x
  have h8 := h.2.1.2.1
  have hk := (h.2.1.2.2.2 a ha).1
  unfold f_X5_mayErr
  simp (disch := omega) only [p_Q h.1, p_L, p_N, p_A, hx]
  by_cases h0 : q.2.2.1 a = 0
  · simp [h0]
  · by_cases h3 : q.2.2.1 a = 3
    · simp [h3]
    · rw [if_neg h0, if_neg h3, if_pos (by omega)]
theorem m_turnBy (h : m_B I P q g) {i w e : Nat} (hi : i < q.1) (hw : w < 3) (he : e < 256) : f_X5_turnBy 57 (nI i) (nI w) (nI e) (p_m I P) = some (nI (q_tw q g w (fun a => e.testBit a) i), p_m I P) := by
  have hx := h.x
  have h8 := h.2.1.2.1
  have hl := q_ld_lt h.2.2.1 h.2.1 hi
  have hk := (h.2.1.2.2.2 _ hl).1
  have hah := h.2.2.1.2.2.2.1
  unfold f_X5_turnBy f_X5_turnBy_L54 f_X5_turnBy_L55 f_X5_turnBy_L70 q_tw q_mn q_tb
  simp (disch := omega) only [p_Q h.1, p_L, p_C, p_N, p_A, p_b, hx, m_as h hi, m_may h hl, m_turnOf hah, m_turnW hw, p_bt e he]
  by_cases h3 : q.2.2.1 (q_ld q g i) = 3
  · rw [if_pos h3, if_pos h3, if_pos rfl]
  · rw [if_neg h3, if_neg h3]
    by_cases h1 : q.2.2.1 (q_ld q g i) = 1 ∨ q.2.2.1 (q_ld q g i) = 2
    · simp only [h1, if_true, true_and]
      by_cases hb : e.testBit (q_ld q g i) = true
      · simp only [hb, if_true]
        have hwr : f_X5_wrongly (nI w) (p_m I P) = some (nI (if w = 2 then 2 else 1 - w), p_m I P) := by
          unfold f_X5_wrongly
          rcases (show w = 0 ∨ w = 1 ∨ w = 2 by omega) with rfl | rfl | rfl <;> rfl
        rw [if_neg (by decide), if_neg (by decide), if_neg (by decide)]
        rw [hwr, p_b, m_turnW (by split <;> omega)]
        rcases (show w = 0 ∨ w = 1 ∨ w = 2 by omega) with rfl | rfl | rfl <;> rfl
      · simp only [hb]
        rfl
    · simp only [h1, false_and, if_false]
      rfl
end
end
section
/-! A WORD IS SAID -/
/-- the state while the men turn one behind the other; p: the turns -/
def q_mid (tw : Nat → Nat) (t : Nat) (g : q_G) (i : Nat) : q_G := (fun j => if j < i then (g.1 j + tw j) % 4 else g.1 j, g.2.1, g.2.2.1, g.2.2.2.1, g.2.2.2.2.1, g.2.2.2.2.2.1, q_or (fun j => !decide (tw j = t)) g.2.2.2.2.2.2.1 i, g.2.2.2.2.2.2.2)
def q_fin (n : Nat) (tw : Nat → Nat) (w : Nat) (g : q_G) : q_G := (fun j => if j < n then (g.1 j + tw j) % 4 else g.1 j, g.2.1, g.2.2.1, g.2.2.2.1 + 1, w + 1, (g.2.2.2.2.2.1 + q_t (w + 1)) % 4, q_or (fun j => !decide (tw j = q_t (w + 1))) g.2.2.2.2.2.2.1 n, g.2.2.2.2.2.2.2)
def q_say (q : q_Q) (g : q_G) (w : Nat) (er : Nat → Bool) : q_G := q_fin q.1 (q_tw q g w er) w g
theorem q_say_ok {q : q_Q} {g : q_G} {w : Nat} {er : Nat → Bool} (hg : g_ok q.1 g) (hw : w < 3) (hl : g.2.2.2.1 < 2000) : g_ok q.1 (q_say q g w er) := by
  obtain ⟨h1, h2, h3, h4, h5, h6, h7⟩ := hg
  refine ⟨fun i hi => ⟨?_, (h1 i hi).2⟩, h2, ?_, ?_, ?_, q_or_lt h6 _ (Nat.le_refl _), h7⟩
  · show (if i < q.1 then (g.1 i + q_tw q g w er i) % 4 else g.1 i) < 4
    rw [if_pos hi]
    exact Nat.mod_lt _ (by decide)
  · show g.2.2.2.1 + 1 ≤ 2000
    omega
  · show w + 1 ≤ 3
    omega
  · exact Nat.mod_lt _ (by decide)
theorem p_same.o {I I' : Nat → Nat → Int32} {a j : Nat} {v : Int32} (h : p_same (fun x => x = a) I I') : p_same (fun x => x = a) I (p_w I' a j v) := h.w rfl
theorem c_G.ext {I : Nat → Nat → Int32} {t n : Nat} {g g' : q_G} (h : c_G I t n g) (h1 : ∀ i, i < n → g'.1 i = g.1 i) (h2 : g'.2 = g.2) : c_G I t n g' := by
  obtain ⟨a, b⟩ := h
  unfold c_G
  rw [h2]
  exact ⟨fun i hi => by rw [h1 i hi]; exact a i hi, b⟩
theorem m_G.ext {I : Nat → Nat → Int32} {a o n : Nat} {g g' : q_G} (h : m_G I a o n g) (h1 : ∀ i, i < n → g'.1 i = g.1 i) (h2 : g'.2 = g.2) : m_G I a o n g' := by
  obtain ⟨x, y⟩ := h
  unfold m_G
  rw [h2]
  exact ⟨fun i hi => by rw [h1 i hi]; exact x i hi, y⟩
section
variable {I : Nat → Nat → Int32} {P : Nat → Nat → Option Nat} {s t n : Nat} {q : q_Q} {g : q_G}
/-- reading and writing a standing at 14 or 17 -/
theorem c_st (hP : p_F0 P) (ht : t = 14 ∨ t = 17) : (∀ (I : Nat → Nat → Int32) (j : Nat) (k : Int32 → z_R), z_gI (p_m I P) t 3 j k = k (I t j)) ∧ (∀ (I : Nat → Nat → Int32) (j : Nat) (v : Int32) (k : z_M → z_R), z_sI (p_m I P) t 3 j v k = k (p_m (p_w I t j v) P)) ∧ (∀ (I : Nat → Nat → Int32) (k : Nat → z_R), z_gP (p_m I P) t 3 0 k = k (t + 1)) ∧ (∀ (I : Nat → Nat → Int32) (k : Nat → z_R), z_gP (p_m I P) t 3 1 k = k (t + 2)) ∧ (∀ (I : Nat → Nat → Int32) (i : Nat) (k : Int32 → z_R), i < 8 → z_al (p_m I P) (t + 1) (nI i) k = k (I (t + 1) i)) ∧ (∀ (I : Nat → Nat → Int32) (i : Nat) (v : Int32) (k : z_M → z_R), i < 8 → z_as (p_m I P) (t + 1) (nI i) v k = k (p_m (p_w I (t + 1) i v) P)) := by
  have hq := p_Q hP
  rcases ht with rfl | rfl
  · exact ⟨fun I j k => p_gI (by decide) (by decide), fun I j v k => p_sI (by decide) (by decide), fun I k => by simp only [hq], fun I k => by simp only [hq], fun I i k hi => p_al (by decide) (by decide) hi, fun I i v k hi => p_as (by decide) (by decide) hi⟩
  · exact ⟨fun I j k => p_gI (by decide) (by decide), fun I j v k => p_sI (by decide) (by decide), fun I k => by simp only [hq], fun I k => by simp only [hq], fun I i k hi => p_al (by decide) (by decide) hi, fun I i v k hi => p_as (by decide) (by decide) hi⟩
theorem c_G.fc (h : c_G I t n g) {i v : Nat} : c_G (p_w I (t + 1) i (nI v)) t n (fun j => if j = i then v else g.1 j, g.2) := by
  obtain ⟨a, b⟩ := h
  refine ⟨fun j hj => ?_, ?_⟩
  · by_cases e : j = i
    · subst e
      refine ⟨?_, ?_⟩
      · rw [p_w_eq]; simp
      · rw [p_w_ne (Or.inl (by omega))]; exact (a j hj).2
    · refine ⟨?_, ?_⟩
      · rw [p_w_ne (Or.inr e)]; simp [e]; exact (a j hj).1
      · rw [p_w_ne (Or.inr e)]; exact (a j hj).2
  · simp only [p_w_ne (I := I) (a := t + 1) (b := t) (Or.inl (by omega))]
    exact b
theorem c_G.er (h : c_G I t n g) {v : Nat} : c_G (p_w I t 6 (nI v)) t n (g.1, g.2.1, g.2.2.1, g.2.2.2.1, g.2.2.2.2.1, g.2.2.2.2.2.1, v, g.2.2.2.2.2.2.2) := by
  obtain ⟨a, b1, b2, b3, b4, b5, b6⟩ := h
  refine ⟨fun j hj => ?_, ?_, ?_, ?_, ?_, ?_, ?_⟩
  · rw [p_w_ne (Or.inl (by omega)), p_w_ne (Or.inl (by omega))]; exact a j hj
  · rw [p_w_ne (Or.inr (by omega))]; exact b1
  · rw [p_w_ne (Or.inr (by omega))]; exact b2
  · rw [p_w_ne (Or.inr (by omega))]; exact b3
  · rw [p_w_ne (Or.inr (by omega))]; exact b4
  · rw [p_w_eq]
  · rw [p_w_ne (Or.inr (by omega))]; exact b6
theorem c_sayL (hP : p_F0 P) (ht : t = 14 ∨ t = 17) {er : Nat → Bool} {w : Nat} (hw : w < 3) (hg : g_ok q.1 g) (hl : g.2.2.2.1 ≤ 2000) (her : ∀ a, a < q.1 → er a = q_er q g.2.2.2.1 a) :
    ∀ (f i : Nat) (I : Nat → Nat → Int32), c_K I P s q → (∀ j, j < q.1 → I 54 j = nI (q_ld q g j)) → c_G I t q.1 (q_mid (q_tw q g w er) (q_t (w + 1)) g i) → i ≤ q.1 → q.1 - i < f →
      ∃ I', f_X4_say_L9 f 0 t (nI (q_t (w + 1))) (nI i) (p_m I P) = some (nI 0, p_m I' P) ∧ p_same (fun a => a = t ∨ a = t + 1) I I' ∧ c_G I' t q.1 (q_say q g w er) := by
  intro f
  induction f with
  | zero => intro i I _ _ _ _ h; omega
  | succ f ih =>
    intro i I hK hL hG hi hf
    have hx := hK.x
    have h8 := hK.2.2.1.2.1
    have htd := hg.2.2.2.2.1
    have ht4 := q_t4 (w + 1)
    have hst := c_st hP ht
    unfold f_X4_say_L9 f_X4_say_L99 z_lt
    simp (disch := omega) only [p_Q hP, c_sq1 hK.2.1, c_sqI hK.2.1, hst, p_N, hx, p_A]
    by_cases h1 : q.1 ≤ i
    · have hin : i = q.1 := by omega
      subst hin
      rw [if_pos h1]
      obtain ⟨a, b1, b2, b3, b4, b5, b6⟩ := hG
      have e3 : I t 3 = nI g.2.2.2.1 := b2
      have e5 : I t 5 = nI g.2.2.2.2.2.1 := b4
      rw [p_w_ne (b := t) (k := 5) (Or.inr (by omega)), p_w_ne (b := t) (k := 5) (Or.inr (by omega)), e3, e5]
      simp (disch := omega) only [p_A, p_mo]
      refine ⟨_, rfl, ((p_same.rf.w (Or.inl rfl)).w (Or.inl rfl)).w (Or.inl rfl), fun j hj => ?_, ?_, ?_, ?_, ?_, ?_, ?_⟩
      · rw [p_w_ne (Or.inl (by omega)), p_w_ne (Or.inl (by omega)), p_w_ne (Or.inl (by omega)), p_w_ne (Or.inl (by omega)), p_w_ne (Or.inl (by omega)), p_w_ne (Or.inl (by omega))]
        exact a j hj
      · rw [p_w_ne (Or.inr (by omega)), p_w_ne (Or.inr (by omega)), p_w_ne (Or.inr (by omega))]; exact b1
      · rw [p_w_ne (Or.inr (by omega)), p_w_ne (Or.inr (by omega)), p_w_eq]; rfl
      · rw [p_w_ne (Or.inr (by omega)), p_w_eq]; rfl
      · rw [p_w_eq]; rfl
      · rw [p_w_ne (Or.inr (by omega)), p_w_ne (Or.inr (by omega)), p_w_ne (Or.inr (by omega))]; exact b5
      · rw [p_w_ne (Or.inr (by omega)), p_w_ne (Or.inr (by omega)), p_w_ne (Or.inr (by omega))]; exact b6
    · rw [if_neg h1]
      have hin : i < q.1 := by omega
      have hld := q_ld_lt hg hK.2.2.1 hin
      have e3 : I t 3 = nI g.2.2.2.1 := hG.2.2.1
      have e4 : I t 4 = nI (q_t g.2.2.2.2.1) := hG.2.2.2.1
      have e6 : I t 6 = nI (q_or (fun j => !decide (q_tw q g w er j = q_t (w + 1))) g.2.2.2.2.2.2.1 i) := hG.2.2.2.2.2.1
      have e1 : I (t + 1) i = nI (g.1 i) := by
        have := (hG.1 i hin).1
        rw [this]
        show nI (if i < i then _ else g.1 i) = _
        rw [if_neg (by omega)]
      have hfc := (hg.1 i hin).1
      have htw := q_tw_lt q g w er i
      have htwe : q_tb (q_mn q (q_ld q g i) (q_er q g.2.2.2.1 (q_ld q g i))) (q_t (w + 1)) (q_t g.2.2.2.2.1) = q_tw q g w er i := by
        unfold q_tw; rw [her _ hld]
      simp (disch := omega) only [p_L, p_C, hL i hin, e3, c_errs hK hld hl, p_b, p_Q hP, hst, c_manner hK hld, e4, c_turnBy (q_mn3 _ _ _) ht4, htwe, e1, p_A, p_mo, p_w_ne]
      have hG2 := hG.fc (i := i) (v := (g.1 i + q_tw q g w er i) % 4)
      have hK2 : c_K (p_w I (t + 1) i (nI ((g.1 i + q_tw q g w er i) % 4))) P s q := hK.keep (S := fun a => 14 ≤ a) (p_same.rf.w (by omega)) (fun a h => h)
      have hL2 : ∀ j, j < q.1 → p_w I (t + 1) i (nI ((g.1 i + q_tw q g w er i) % 4)) 54 j = nI (q_ld q g j) := fun j hj => by rw [p_w_ne (Or.inl (by omega))]; exact hL j hj
      have hor : q_or (fun j => !decide (q_tw q g w er j = q_t (w + 1))) g.2.2.2.2.2.2.1 (i + 1) = if q_tw q g w er i = q_t (w + 1) then q_or (fun j => !decide (q_tw q g w er j = q_t (w + 1))) g.2.2.2.2.2.2.1 i else q_or (fun j => !decide (q_tw q g w er j = q_t (w + 1))) g.2.2.2.2.2.2.1 i ||| 2 ^ i := by
        show (if (!decide (q_tw q g w er i = q_t (w + 1))) = true then _ else _) = _
        by_cases hc : q_tw q g w er i = q_t (w + 1)
        · simp [hc]
        · simp [hc]
      have hm1 : ∀ j, j < q.1 → (q_mid (q_tw q g w er) (q_t (w + 1)) g (i + 1)).1 j = if j = i then (g.1 i + q_tw q g w er i) % 4 else (q_mid (q_tw q g w er) (q_t (w + 1)) g i).1 j := by
        intro j hj
        show (if j < i + 1 then (g.1 j + q_tw q g w er j) % 4 else g.1 j) = if j = i then (g.1 i + q_tw q g w er i) % 4 else if j < i then (g.1 j + q_tw q g w er j) % 4 else g.1 j
        by_cases e : j = i
        · subst e; rw [if_pos (by omega), if_pos rfl]
        · rw [if_neg e]
          by_cases e2 : j < i
          · rw [if_pos (by omega), if_pos e2]
          · rw [if_neg (by omega), if_neg e2]
      by_cases hc : q_tw q g w er i = q_t (w + 1)
      · rw [if_pos hc]
        rw [if_pos hc] at hor
        obtain ⟨I', a1, a2, a3⟩ := ih (i + 1) _ hK2 hL2 (hG2.ext hm1 (by show (_, _, _, _, _, _, _) = (_, _, _, _, _, _, _); rw [hor]; try rfl)) (by omega) (by omega)
        exact ⟨I', a1, (p_same.w (S := fun a => a = t ∨ a = t + 1) p_same.rf (Or.inr rfl)).tr a2, a3⟩
      · rw [if_neg hc]
        rw [if_neg hc] at hor
        rw [e6, p_sh i (by omega), p_or]
        have hG3 := hG2.er (v := q_or (fun j => !decide (q_tw q g w er j = q_t (w + 1))) g.2.2.2.2.2.2.1 i ||| 2 ^ i)
        obtain ⟨I', a1, a2, a3⟩ := ih (i + 1) _ (hK2.keep (S := fun a => 14 ≤ a) (p_same.rf.w (by omega)) (fun a h => h)) (fun j hj => by rw [p_w_ne (Or.inl (by omega))]; exact hL2 j hj) (hG3.ext hm1 (by show (_, _, _, _, _, _, _) = (_, _, _, _, _, _, _); rw [hor]; try rfl)) (by omega) (by omega)
        exact ⟨I', a1, (p_same.w (S := fun a => a = t ∨ a = t + 1) (p_same.w p_same.rf (Or.inr rfl)) (Or.inl rfl)).tr a2, a3⟩
theorem c_say (ht : t = 14 ∨ t = 17) {w : Nat} (hw : w < 3) (hg : g_ok q.1 g) (hK : c_K I P s q) (hL : ∀ j, j < q.1 → I 54 j = nI (q_ld q g j)) (hG : c_G I t q.1 g) :
    ∃ I', f_X4_say 0 t (nI w) (p_m I P) = some (nI 0, p_m I' P) ∧ p_same (fun a => a = t ∨ a = t + 1) I I' ∧ c_G I' t q.1 (q_say q g w (q_er q g.2.2.2.1)) := by
  unfold f_X4_say
  rw [p_tl (t := 0) (i := w) hw, show z_tb 0 w = nI (q_t (w + 1)) by rcases (show w = 0 ∨ w = 1 ∨ w = 2 by omega) with rfl | rfl | rfl <;> rfl]
  have h8 := hK.2.2.1.2.1
  refine c_sayL (g := g) hK.1 ht hw hg hg.2.2.1 (fun _ _ => rfl) 400 0 I hK hL (hG.ext (fun i _ => rfl) rfl) (by omega) (by omega)

/-! the reference -/
theorem m_G.fc {a : Nat} (h : m_G I a 0 n g) (hn : n ≤ 8) {i v : Nat} (hi : i < n) : m_G (p_w I a i (nI v)) a 0 n (fun j => if j = i then v else g.1 j, g.2) := by
  obtain ⟨x, b1, b2, b3, b4, b5, b6⟩ := h
  refine ⟨fun j hj => ?_, ?_, ?_, ?_, ?_, ?_, ?_⟩
  · refine ⟨?_, ?_⟩
    · by_cases e : j = i
      · subst e; rw [Nat.zero_add, p_w_eq]; simp
      · rw [p_w_ne (Or.inr (by omega))]; simp [e]; have := (x j hj).1; rw [Nat.zero_add] at this; exact this
    · rw [p_w_ne (Or.inr (by omega))]; exact (x j hj).2
  · rw [p_w_ne (Or.inr (by omega))]; exact b1
  · rw [p_w_ne (Or.inr (by omega))]; exact b2
  · rw [p_w_ne (Or.inr (by omega))]; exact b3
  · rw [p_w_ne (Or.inr (by omega))]; exact b4
  · rw [p_w_ne (Or.inr (by omega))]; exact b5
  · rw [p_w_ne (Or.inr (by omega))]; exact b6
theorem m_G.er {a : Nat} (h : m_G I a 0 n g) (hn : n ≤ 8) {v : Nat} : m_G (p_w I a 20 (nI v)) a 0 n (g.1, g.2.1, g.2.2.1, g.2.2.2.1, g.2.2.2.2.1, g.2.2.2.2.2.1, v, g.2.2.2.2.2.2.2) := by
  obtain ⟨x, b1, b2, b3, b4, b5, b6⟩ := h
  refine ⟨fun j hj => ?_, ?_, ?_, ?_, ?_, ?_, ?_⟩
  · rw [p_w_ne (Or.inr (by omega)), p_w_ne (Or.inr (by omega))]; exact x j hj
  · rw [p_w_ne (Or.inr (by omega))]; exact b1
  · rw [p_w_ne (Or.inr (by omega))]; exact b2
  · rw [p_w_ne (Or.inr (by omega))]; exact b3
  · rw [p_w_ne (Or.inr (by omega))]; exact b4
  · rw [Nat.zero_add, p_w_eq]
  · rw [p_w_ne (Or.inr (by omega))]; exact b6
theorem q_mid_ld (tw : Nat → Nat) (t i j : Nat) : q_ld q (q_mid tw t g i) j = q_ld q g j := rfl
theorem q_mid_tw (tw : Nat → Nat) (t w i j : Nat) (er : Nat → Bool) : q_tw q (q_mid tw t g i) w er j = q_tw q g w er j := rfl
theorem m_sayL (hP : p_F0 P) {er : Nat → Bool} {w e : Nat} (hw : w < 3) (he : e < 256) (hq : q_ok q) (hg : g_ok q.1 g) (her : ∀ a, a < q.1 → er a = e.testBit a) :
    ∀ (f i : Nat) (I : Nat → Nat → Int32), m_Q I q → I 57 10 = -nI 1 → m_G I 61 0 q.1 (q_mid (q_tw q g w er) (q_t (w + 1)) g i) → i ≤ q.1 → q.1 - i < f →
      ∃ I', f_X5_says_L2 f 57 (nI w) (nI e) (nI i) (p_m I P) = some (nI 0, p_m I' P) ∧ p_same (fun a => a = 61) I I' ∧ m_G I' 61 0 q.1 (q_say q g w er) := by
  intro f
  induction f with
  | zero => intro i I _ _ _ _ h; omega
  | succ f ih =>
    intro i I hQ hT hG hi hf
    have h8 := hq.2.1
    have htd := hg.2.2.2.2.1
    have ht4 := q_t4 (w + 1)
    have hmid : g_ok q.1 (q_mid (q_tw q g w er) (q_t (w + 1)) g i) := by
      obtain ⟨h1, h2, h3, h4, h5, h6, h7⟩ := hg
      refine ⟨fun j hj => ⟨?_, (h1 j hj).2⟩, h2, h3, h4, h5, q_or_lt h6 _ hi, h7⟩
      show (if j < i then _ else g.1 j) < 4
      split
      · exact Nat.mod_lt _ (by decide)
      · exact (h1 j hj).1
    have hB : m_B I P q (q_mid (q_tw q g w er) (q_t (w + 1)) g i) := ⟨hP, hq, hmid, hQ, hG, hT⟩
    have hx := hB.x
    unfold f_X5_says_L2 f_X5_says_L45 z_lt
    simp (disch := omega) only [p_Q hP, p_L, p_N, hx, p_A]
    by_cases h1 : q.1 ≤ i
    · have hin : i = q.1 := by omega
      subst hin
      rw [if_pos h1]
      obtain ⟨x, b1, b2, b3, b4, b5, b6⟩ := hG
      have e17 : I 61 17 = nI g.2.2.2.1 := b2
      have e19 : I 61 19 = nI g.2.2.2.2.2.1 := b4
      simp (disch := omega) only [p_Q hP, p_L, p_S, p_b, m_turnW hw, p_w_ne, e17, e19, p_A, p_mo]
      refine ⟨_, rfl, ((p_same.rf.o).o).o, fun j hj => ?_, ?_, ?_, ?_, ?_, ?_, ?_⟩
      · simp (disch := omega) only [p_w_ne]
        exact x j hj
      · simp (disch := omega) only [p_w_ne]; exact b1
      · rw [Nat.zero_add, p_w_eq]; rfl
      · rw [p_w_ne (Or.inr (by omega)), p_w_ne (Or.inr (by omega)), Nat.zero_add, p_w_eq]; exact (q_aw w).symm
      · rw [p_w_ne (Or.inr (by omega)), Nat.zero_add, p_w_eq]; rfl
      · simp (disch := omega) only [p_w_ne]; exact b5
      · simp (disch := omega) only [p_w_ne]; exact b6
    · rw [if_neg h1]
      have hin : i < q.1 := by omega
      have hld := q_ld_lt hg hq hin
      have e20 : I 61 20 = nI (q_or (fun j => !decide (q_tw q g w er j = q_t (w + 1))) g.2.2.2.2.2.2.1 i) := hx.2.2.2.2.2.2.2.2.2.2.1
      have e1 : I 61 i = nI (g.1 i) := by
        rw [hx.2.2.2.2.1 i hin]
        show nI (if i < i then _ else g.1 i) = _
        rw [if_neg (by omega)]
      have hfc := (hg.1 i hin).1
      have htw := q_tw_lt q g w er i
      have htwe : q_tw q (q_mid (q_tw q g w er) (q_t (w + 1)) g i) w (fun a => e.testBit a) i = q_tw q g w er i := by
        rw [q_mid_tw]
        unfold q_tw; rw [her _ hld]
      simp (disch := omega) only [p_Q hP, p_L, p_S, p_C, p_b, m_turnBy hB hin hw he, htwe, e20, m_turnW hw, p_A]
      have hm1 : ∀ j, j < q.1 → (q_mid (q_tw q g w er) (q_t (w + 1)) g (i + 1)).1 j = if j = i then (g.1 i + q_tw q g w er i) % 4 else (q_mid (q_tw q g w er) (q_t (w + 1)) g i).1 j := by
        intro j hj
        show (if j < i + 1 then (g.1 j + q_tw q g w er j) % 4 else g.1 j) = if j = i then (g.1 i + q_tw q g w er i) % 4 else if j < i then (g.1 j + q_tw q g w er j) % 4 else g.1 j
        by_cases e : j = i
        · subst e; rw [if_pos (by omega), if_pos rfl]
        · rw [if_neg e]
          by_cases e2 : j < i
          · rw [if_pos (by omega), if_pos e2]
          · rw [if_neg (by omega), if_neg e2]
      have hor : q_or (fun j => !decide (q_tw q g w er j = q_t (w + 1))) g.2.2.2.2.2.2.1 (i + 1) = if q_tw q g w er i = q_t (w + 1) then q_or (fun j => !decide (q_tw q g w er j = q_t (w + 1))) g.2.2.2.2.2.2.1 i else q_or (fun j => !decide (q_tw q g w er j = q_t (w + 1))) g.2.2.2.2.2.2.1 i ||| 2 ^ i := by
        show (if (!decide (q_tw q g w er i = q_t (w + 1))) = true then _ else _) = _
        by_cases hc : q_tw q g w er i = q_t (w + 1)
        · simp [hc]
        · simp [hc]
      have K : ∀ v : Nat, v = q_or (fun j => !decide (q_tw q g w er j = q_t (w + 1))) g.2.2.2.2.2.2.1 (i + 1) → ∃ I', f_X5_says_L2 f 57 (nI w) (nI e) (nI (i + 1)) (p_m (p_w (p_w I 61 20 (nI v)) 61 i (nI ((g.1 i + q_tw q g w er i) % 4))) P) = some (nI 0, p_m I' P) ∧ p_same (fun a => a = 61) I I' ∧ m_G I' 61 0 q.1 (q_say q g w er) := by
        intro v hv
        have hG2 := (hG.er h8 (v := v)).fc h8 (v := (g.1 i + q_tw q g w er i) % 4) hin
        obtain ⟨I', a1, a2, a3⟩ := ih (i + 1) _ (hQ.keep (S := fun a => a = 61) ((p_same.rf.o).o) (by omega)) (by rw [p_w_ne (Or.inl (by omega)), p_w_ne (Or.inl (by omega))]; exact hT) (hG2.ext hm1 (by show (_, _, _, _, _, _, _) = (_, _, _, _, _, _, _); rw [hv]; try rfl)) (by omega) (by omega)
        exact ⟨I', a1, (p_same.w (S := fun a => a = 61) (p_same.w p_same.rf rfl) rfl).tr a2, a3⟩
      by_cases hc : q_tw q g w er i = q_t (w + 1)
      · rw [if_pos hc]
        rw [if_pos hc] at hor
        rw [p_or, Nat.or_zero]
        simp (disch := omega) only [p_w_ne, e1, p_A, p_mo]
        exact K _ hor.symm
      · rw [if_neg hc]
        rw [if_neg hc] at hor
        rw [p_sh i (by omega), p_or]
        simp (disch := omega) only [p_w_ne, e1, p_A, p_mo]
        exact K _ hor.symm
theorem m_say {w e : Nat} {er : Nat → Bool} (hw : w < 3) (he : e < 256) (h : m_B I P q g) (her : ∀ a, a < q.1 → er a = e.testBit a) :
    ∃ I', f_X5_says 57 (nI w) (nI e) (p_m I P) = some (nI 0, p_m I' P) ∧ p_same (fun a => a = 61) I I' ∧ m_G I' 61 0 q.1 (q_say q g w er) := by
  unfold f_X5_says
  have h8 := h.2.1.2.1
  exact m_sayL h.1 hw he h.2.1 h.2.2.1 her 400 0 I h.2.2.2.1 h.2.2.2.2.2 (h.2.2.2.2.1.ext (fun i _ => rfl) rfl) (by omega) (by omega)
/-- the errors of the reference, as bits -/
theorem m_errL (h : m_B I P q g) (fo : Nat) (hfo : fo < 2) {p : Nat → Bool} (hp : ∀ i, i < q.1 → p i = if fo = 1 then q_ef q i else q_er q g.2.2.2.1 i) :
    ∀ (f i : Nat), i ≤ q.1 → q.1 - i < f → f_X5_errors_L4 f 57 (nI fo) (nI (q_or p 0 i)) (nI i) (p_m I P) = some (nI (q_or p 0 q.1), p_m I P) := by
  intro f
  induction f with
  | zero => intro i _ h; omega
  | succ f ih =>
    intro i hi hf
    have hx := h.x
    have h8 := h.2.1.2.1
    have hsd := h.2.1.2.2.1
    have hwd := h.2.2.1.2.2.1
    unfold f_X5_errors_L4 f_X5_errors_L73 f_X5_errors_L91 f_X5_errors_L97 f_X5_errors_L98 z_lt
    simp (disch := omega) only [p_Q h.1, p_L, p_N, hx, p_A]
    by_cases h1 : q.1 ≤ i
    · rw [if_pos h1, show i = q.1 by omega]
    · rw [if_neg h1]
      have hin : i < q.1 := by omega
      have her := (h.2.1.2.2.2 i hin).2.2
      have hd := q_d_lt (q_x q.2.1 g.2.2.2.1 i)
      have hxx : 7919 * (nI q.2.1).toInt64 + 6151 * (nI g.2.2.2.1).toInt64 + 3571 * (nI i).toInt64 + 1 = lN (q_x q.2.1 g.2.2.2.1 i) := q_xL hsd hwd (by omega)
      rw [hxx, m_draw (q_x_lt hsd hwd (by omega))]
      simp (disch := omega) only [p_Q h.1, p_L, p_b, hx, p_A, p_mo, p_sh, p_or, Nat.or_zero]
      have hs : q_or p 0 (i + 1) = if p i then q_or p 0 i ||| 2 ^ i else q_or p 0 i := rfl
      have hpi := hp i hin
      rcases (show fo = 0 ∨ fo = 1 by omega) with rfl | rfl
      · simp only [if_true]
        rw [if_neg (by decide)] at hpi
        unfold q_er at hpi
        by_cases hc : q_d (q_x q.2.1 g.2.2.2.1 i) % 10 < q.2.2.2.2 i
        · rw [if_neg (by omega)]
          rw [hpi, if_pos (by simp [hc])] at hs
          rw [← hs]
          exact ih (i + 1) (by omega) (by omega)
        · rw [if_pos (by omega)]
          rw [hpi, if_neg (by simp [hc])] at hs
          rw [← hs]
          exact ih (i + 1) (by omega) (by omega)
      · rw [if_neg (by decide)]
        rw [if_pos rfl] at hpi
        unfold q_ef at hpi
        by_cases hc : 5 ≤ q.2.2.2.2 i
        · rw [if_pos hc]
          rw [hpi, if_pos (by simp [hc])] at hs
          rw [← hs]
          exact ih (i + 1) (by omega) (by omega)
        · rw [if_neg hc, if_neg (by decide)]
          rw [hpi, if_neg (by simp [hc])] at hs
          rw [← hs]
          exact ih (i + 1) (by omega) (by omega)
theorem m_errs (h : m_B I P q g) (fo : Nat) (hfo : fo < 2) : ∃ e, e < 256 ∧ f_X5_errors 57 (nI fo) (p_m I P) = some (nI e, p_m I P) ∧ ∀ a, a < q.1 → (if fo = 1 then q_ef q a else q_er q g.2.2.2.1 a) = e.testBit a := by
  have h8 := h.2.1.2.1
  refine ⟨q_or (fun i => if fo = 1 then q_ef q i else q_er q g.2.2.2.1 i) 0 q.1, ?_, ?_, fun a ha => ?_⟩
  · have := q_or_lt (p := fun i => if fo = 1 then q_ef q i else q_er q g.2.2.2.1 i) (e := 0) (n := 8) (by decide) q.1 h8
    exact this
  · unfold f_X5_errors
    exact m_errL h fo hfo (fun i hi => rfl) 400 0 (by omega) (by omega)
  · rw [q_or_bit]
    simp [ha]
end
end
section
/-! WHO IS WRONG, HOW MANY -/
def q_pf (x : Nat) : Nat → Nat
  | 0 => 0
  | k + 1 => q_pf x k + (if x.testBit k then 1 else 0)
theorem q_pf_le (x : Nat) : ∀ k, q_pf x k ≤ k
  | 0 => Nat.le_refl _
  | k + 1 => by
    have := q_pf_le x k
    unfold q_pf
    split <;> omega
def j_bc (v : Int32) : Int32 := match f_J6_bitCount_0f7a4 v (0, 0, fun _ _ => 0, fun _ _ => none) with
  | some q => q.1
  | none => 0
theorem j_bc_eq (v : Int32) (m : z_M) : f_J6_bitCount_0f7a4 v m = some (j_bc v, m) := rfl
theorem j_bc_8 : ∀ x, x < 256 → j_bc (nI x) = nI (q_pf x 8) := by decide +kernel
theorem c_bits {x : Nat} (h : x < 256) (m : z_M) : f_J6_bitCount_0f7a4 (nI x) m = some (nI (q_pf x 8), m) := by rw [j_bc_eq, j_bc_8 x h]
theorem m_onesL {x : Nat} (hx : x < 256) (m : z_M) : ∀ (f k : Nat), k ≤ 8 → 8 - k < f → f_X5_ones_L4 f (nI x) (nI (q_pf x k)) (nI k) m = some (nI (q_pf x 8), m) := by
  intro f
  induction f with
  | zero => intro k _ h; omega
  | succ f ih =>
    intro k hk hf
    unfold f_X5_ones_L4 z_lt
    simp (disch := omega) only [p_N, p_A]
    by_cases h : 8 ≤ k
    · rw [if_pos h, show k = 8 by omega]
    · rw [if_neg h, p_bt x hx k (by omega), nI_add]
      exact ih (k + 1) (by omega) (by omega)
theorem m_ones {x : Nat} (hx : x < 256) (m : z_M) : f_X5_ones (nI x) m = some (nI (q_pf x 8), m) := by
  unfold f_X5_ones
  exact m_onesL hx m 400 0 (by omega) (by omega)
def q_due (q : q_Q) (g : q_G) (i : Nat) : Nat := (q.2.2.2.1 i + g.2.2.2.2.2.1) % 4
def q_wr (q : q_Q) (g : q_G) : Nat := q_or (fun i => !decide (g.1 i = q_due q g i)) 0 q.1
theorem q_wr_lt {q : q_Q} {g : q_G} (hq : q_ok q) : q_wr q g < 256 := q_or_lt (n := 8) (by decide) q.1 hq.2.1
section
variable {I : Nat → Nat → Int32} {P : Nat → Nat → Option Nat} {s t : Nat} {q : q_Q} {g : q_G}
theorem c_due (ht : t = 14 ∨ t = 17) (hK : c_K I P s q) (hG : c_G I t q.1 g) (hg : g_ok q.1 g) {i : Nat} (hi : i < q.1) : f_X4_dueFacing 0 t (nI i) (p_m I P) = some (nI (q_due q g i), p_m I P) := by
  have hx := hK.x
  have h8 := hK.2.2.1.2.1
  have hf := (hK.2.2.1.2.2.2 i hi).2.1
  have htd := hg.2.2.2.2.1
  have hst := c_st hK.1 ht
  unfold f_X4_dueFacing q_due
  simp (disch := omega) only [c_sq1 hK.2.1, c_sqP hK.2.1 hK.1, c_sqA hK.2.1, hst, hx, hG.2.2.2.2.1, p_N, p_A, p_mo]
theorem m_due (h : m_B I P q g) {i : Nat} (hi : i < q.1) : f_X5_dueOf 57 (nI i) (p_m I P) = some (nI (q_due q g i), p_m I P) := by
  have hx := h.x
  have h8 := h.2.1.2.1
  have hf := (h.2.1.2.2.2 i hi).2.1
  have htd := h.2.2.1.2.2.2.2.1
  unfold f_X5_dueOf q_due
  simp (disch := omega) only [p_Q h.1, p_L, hx, p_N, p_A, p_mo]
theorem c_wrL (ht : t = 14 ∨ t = 17) (hK : c_K I P s q) (hG : c_G I t q.1 g) (hg : g_ok q.1 g) : ∀ (f i : Nat), i ≤ q.1 → q.1 - i < f → f_X4_wrongMen_L4 f 0 t (nI (q_or (fun i => !decide (g.1 i = q_due q g i)) 0 i)) (nI i) (p_m I P) = some (nI (q_wr q g), p_m I P) := by
  intro f
  induction f with
  | zero => intro i _ h; omega
  | succ f ih =>
    intro i hi hf
    have hx := hK.x
    have h8 := hK.2.2.1.2.1
    have hst := c_st hK.1 ht
    unfold f_X4_wrongMen_L4 f_X4_wrongMen_L36 z_lt
    simp (disch := omega) only [c_sq1 hK.2.1, c_sqI hK.2.1, hst, p_N, hx, p_A]
    by_cases h1 : q.1 ≤ i
    · rw [if_pos h1, show i = q.1 by omega]
      rfl
    · rw [if_neg h1]
      have hin : i < q.1 := by omega
      have hfc := (hg.1 i hin).1
      have hdu : q_due q g i < 4 := Nat.mod_lt _ (by decide)
      simp (disch := omega) only [p_C, c_due ht hK hG hg hin, p_b, (hG.1 i hin).1, p_A, p_sh, p_or]
      have hs : q_or (fun i => !decide (g.1 i = q_due q g i)) 0 (i + 1) = if (!decide (g.1 i = q_due q g i)) = true then q_or (fun i => !decide (g.1 i = q_due q g i)) 0 i ||| 2 ^ i else q_or (fun i => !decide (g.1 i = q_due q g i)) 0 i := rfl
      by_cases hc : g.1 i = q_due q g i
      · rw [if_pos hc]
        rw [if_neg (by simp [hc])] at hs
        rw [← hs]
        exact ih (i + 1) (by omega) (by omega)
      · rw [if_neg hc]
        rw [if_pos (by simp [hc])] at hs
        rw [← hs]
        exact ih (i + 1) (by omega) (by omega)
theorem c_wrong (ht : t = 14 ∨ t = 17) (hK : c_K I P s q) (hG : c_G I t q.1 g) (hg : g_ok q.1 g) : f_X4_wrongMen 0 t (p_m I P) = some (nI (q_wr q g), p_m I P) := by
  have h8 := hK.2.2.1.2.1
  unfold f_X4_wrongMen
  exact c_wrL ht hK hG hg 400 0 (by omega) (by omega)
theorem m_wrL (h : m_B I P q g) : ∀ (f i : Nat), i ≤ q.1 → q.1 - i < f → f_X5_wrong_L4 f 57 (nI (q_or (fun i => !decide (g.1 i = q_due q g i)) 0 i)) (nI i) (p_m I P) = some (nI (q_wr q g), p_m I P) := by
  intro f
  induction f with
  | zero => intro i _ h; omega
  | succ f ih =>
    intro i hi hf
    have hx := h.x
    have h8 := h.2.1.2.1
    unfold f_X5_wrong_L4 f_X5_wrong_L36 z_lt
    simp (disch := omega) only [p_Q h.1, p_L, p_N, hx, p_A]
    by_cases h1 : q.1 ≤ i
    · rw [if_pos h1, show i = q.1 by omega]
      rfl
    · rw [if_neg h1]
      have hin : i < q.1 := by omega
      have hfc := (h.2.2.1.1 i hin).1
      have hdu : q_due q g i < 4 := Nat.mod_lt _ (by decide)
      simp (disch := omega) only [p_C, p_L, m_due h hin, p_b, hx, p_A, p_sh, p_or, Nat.or_zero]
      have hs : q_or (fun i => !decide (g.1 i = q_due q g i)) 0 (i + 1) = if (!decide (g.1 i = q_due q g i)) = true then q_or (fun i => !decide (g.1 i = q_due q g i)) 0 i ||| 2 ^ i else q_or (fun i => !decide (g.1 i = q_due q g i)) 0 i := rfl
      by_cases hc : g.1 i = q_due q g i
      · rw [if_pos hc]
        rw [if_neg (by simp [hc])] at hs
        rw [← hs]
        exact ih (i + 1) (by omega) (by omega)
      · rw [if_neg hc]
        rw [if_pos (by simp [hc])] at hs
        rw [← hs]
        exact ih (i + 1) (by omega) (by omega)
theorem m_wrong (h : m_B I P q g) : f_X5_wrong 57 (p_m I P) = some (nI (q_wr q g), p_m I P) := by
  have h8 := h.2.1.2.1
  unfold f_X5_wrong
  exact m_wrL h 400 0 (by omega) (by omega)
end
end
section
/-! STANDINGS PUT BY, THE CLASS -/
def q_st (t : Nat) : Prop := t = 14 ∨ t = 17 ∨ t = 22 ∨ t = 25 ∨ t = 28 ∨ t = 31 ∨ t = 34 ∨ t = 37 ∨ t = 40 ∨ t = 43 ∨ t = 48 ∨ t = 51
def q_pool (t : Nat) : Prop := t = 22 ∨ t = 25 ∨ t = 28 ∨ t = 31 ∨ t = 34 ∨ t = 37 ∨ t = 40 ∨ t = 43
theorem q_pool_st {t : Nat} (h : q_pool t) : q_st t := by unfold q_pool at h; unfold q_st; omega
section
variable {I : Nat → Nat → Int32} {P : Nat → Nat → Option Nat} {s t n : Nat} {q : q_Q} {g : q_G}
theorem c_stg (hP : p_F0 P) (ht : q_st t) : (∀ (I : Nat → Nat → Int32) (j : Nat) (k : Int32 → z_R), z_gI (p_m I P) t 3 j k = k (I t j)) ∧ (∀ (I : Nat → Nat → Int32) (j : Nat) (v : Int32) (k : z_M → z_R), z_sI (p_m I P) t 3 j v k = k (p_m (p_w I t j v) P)) ∧ (∀ (I : Nat → Nat → Int32) (k : Nat → z_R), z_gP (p_m I P) t 3 0 k = k (t + 1)) ∧ (∀ (I : Nat → Nat → Int32) (k : Nat → z_R), z_gP (p_m I P) t 3 1 k = k (t + 2)) ∧ (t < 65 ∧ t + 1 < 65 ∧ t + 2 < 65) ∧ (z_k t = 3 ∧ z_k (t + 1) = 6 ∧ z_k (t + 2) = 6 ∧ z_n (t + 1) = 8 ∧ z_n (t + 2) = 8) ∧ ∀ (I : Nat → Nat → Int32) (o : z_R) (k : Int32 → z_M → z_R), z_cv (p_m I P) t 3 o k = z_b o k := by
  have hq := p_Q hP
  rcases ht with rfl | rfl | rfl | rfl | rfl | rfl | rfl | rfl | rfl | rfl | rfl | rfl <;> exact ⟨fun I j k => p_gI (by decide) (by decide), fun I j v k => p_sI (by decide) (by decide), fun I k => by simp only [hq], fun I k => by simp only [hq], by decide, by decide, fun I o k => p_cv (by decide) (by decide)⟩
/-- one standing is copied to another one -/
theorem c_copy (hP : p_F0 P) {d : Nat} (hd : q_st d) (ht : q_st t) (hne : d ≠ t) : ∃ I', f_X3_copy d t (p_m I P) = some (nI 0, p_m I' P) ∧ p_same (fun a => a = d ∨ a = d + 1 ∨ a = d + 2) I I' ∧ ∀ n g, n ≤ 8 → c_G I t n g → c_G I' d n g := by
  obtain ⟨d1, d2, d3, d4, ⟨d5, d6, d7⟩, ⟨d8, d9, d10, d11, d12⟩, -⟩ := c_stg hP hd
  obtain ⟨s1, s2, s3, s4, ⟨s5, s6, s7⟩, ⟨s8, s9, s10, s11, s12⟩, -⟩ := c_stg hP ht
  have far : d + 2 < t ∨ t + 2 < d := by unfold q_st at hd ht; omega
  unfold f_X3_copy
  rw [s3, d3, p_cp s6 s9 d6 d9 s11 d11, s4, d4, p_cp s7 s10 d7 d10 s12 d12]
  simp only [s1, d2]
  have e : ∀ (I : Nat → Nat → Int32) (j : Nat), p_r (p_r I (d + 1) (va_cpy (I (t + 1)) (I (d + 1)) 0 0 8)) (d + 2) (va_cpy (p_r I (d + 1) (va_cpy (I (t + 1)) (I (d + 1)) 0 0 8) (t + 2)) (p_r I (d + 1) (va_cpy (I (t + 1)) (I (d + 1)) 0 0 8) (d + 2)) 0 0 8) t j = I t j := fun I j => by rw [p_r_ne (by omega), p_r_ne (by omega)]
  simp (disch := omega) only [p_w_ne, e]
  refine ⟨_, rfl, ?_, fun n g hn hG => ?_⟩
  · exact (((((((p_same.rf.r (Or.inr (Or.inl rfl))).r (Or.inr (Or.inr rfl))).w (Or.inl rfl)).w (Or.inl rfl)).w (Or.inl rfl)).w (Or.inl rfl)).w (Or.inl rfl)).w (Or.inl rfl)
  · obtain ⟨a, b1, b2, b3, b4, b5, b6⟩ := hG
    refine ⟨fun i hi => ⟨?_, ?_⟩, ?_, ?_, ?_, ?_, ?_, ?_⟩
    · simp (disch := omega) only [p_w_ne]
      rw [p_r_ne (by omega), p_r_eq, sb_cpy0 (by omega)]
      exact (a i hi).1
    · simp (disch := omega) only [p_w_ne]
      rw [p_r_eq, sb_cpy0 (by omega), p_r_ne (by omega)]
      exact (a i hi).2
    · simp (disch := omega) only [p_w_ne, p_w_eq]; exact b1
    · simp (disch := omega) only [p_w_ne, p_w_eq]; exact b2
    · simp (disch := omega) only [p_w_ne, p_w_eq]; exact b3
    · simp (disch := omega) only [p_w_ne, p_w_eq]; exact b4
    · simp (disch := omega) only [p_w_ne, p_w_eq]; exact b5
    · simp (disch := omega) only [p_w_eq]; exact b6
/-- the pile's oldest goes to its end -/
theorem c_loseL {pl : Nat → Nat} (hpl : ∀ j, j < 8 → q_pool (pl j)) : ∀ (f j : Nat) (P : Nat → Nat → Option Nat), p_F0 P → 1 ≤ j → j ≤ 8 → 8 - j < f → (∀ i, i < 8 → P 21 i = some (if i + 1 < j then pl (i + 1) else pl i)) →
    ∃ P', f_X0_loseOldest_L9 f 20 (pl 0) (nI j) (p_m I P) = some (nI 0, p_m (p_w I 20 1 (nI 7)) P') ∧ (∀ a, a ≠ 21 → P' a = P a) ∧ ∀ i, i < 8 → P' 21 i = some (if i = 7 then pl 0 else pl (i + 1)) := by
  intro f
  induction f with
  | zero => intro j P _ _ _ h; omega
  | succ f ih =>
    intro j P hP h1 h8 hf hI
    have hp0 := hpl 0 (by omega)
    have hl : ∀ (I : Nat → Nat → Int32) (P : Nat → Nat → Option Nat) (k : Int32 → z_R), z_ln (p_m I P) 21 k = k (nI 8) := fun I P k => p_ln (by decide) (by decide)
    have hF : ∀ (i b : Nat), p_F0 (p_p P 21 i b) := by
      intro i b
      obtain ⟨h0, h1, h2, h3, h4, h5, h6, h7, h8, h9, h10, h11, h12, h13, h14, h15, h16, h17, h18, h19, h20, h21, h22, h23, h24, h25, h26, h27, h28, h29, h30, h31, h32, h33, h34, h35, h36, h37, h38, h39, h40, h41, h42, h43, h44, h45, h46, h47, h48, h49, h50⟩ := hP
      unfold p_F0 p_p
      simp [*]
    unfold f_X0_loseOldest_L9 z_lt
    simp (disch := omega) only [p_Q hP, hl, p_N, p_A]
    by_cases hj : 8 ≤ j
    · rw [if_pos hj]
      have hj8 : j = 8 := by omega
      subst hj8
      rw [p_sb (by omega), p_ps (i := 7) (by decide) (by decide) (by decide) (by have := hp0; unfold q_pool at this; omega) (c_stg hP (q_pool_st hp0)).2.2.2.2.2.1.1]
      simp (disch := omega) only [p_Q (hF _ _), hl, p_F, p_sb]
      refine ⟨_, rfl, fun a ha => ?_, fun i hi => ?_⟩
      · funext k; simp [p_p, ha]
      · by_cases e : i = 7
        · subst e; simp [p_p]
        · simp only [p_p, true_and, e, if_false]
          rw [hI i hi, if_pos (by omega)]
    · rw [if_neg hj]
      have hpj := hpl j (by omega)
      have e1 : P 21 j = some (pl j) := by rw [hI j (by omega), if_neg (by omega)]
      rw [p_pl (i := j) (b := pl j) (by decide) (by decide) (by show j < 8; omega) e1, p_sb (by omega), p_ps (i := j - 1) (by decide) (by decide) (by show j - 1 < 8; omega) (by have := hpj; unfold q_pool at this; omega) (c_stg hP (q_pool_st hpj)).2.2.2.2.2.1.1]
      obtain ⟨P', a1, a2, a3⟩ := ih (j + 1) (p_p P 21 (j - 1) (pl j)) (hF _ _) (by omega) (by omega) (by omega) (fun i hi => by
        simp only [p_p, true_and]
        by_cases e : i = j - 1
        · subst e
          rw [if_pos rfl, if_pos (by omega), show j - 1 + 1 = j by omega]
        · rw [if_neg e, hI i hi]
          by_cases e2 : i + 1 < j
          · rw [if_pos e2, if_pos (by omega)]
          · rw [if_neg e2, if_neg (by omega)])
      refine ⟨P', a1, fun a ha => ?_, a3⟩
      rw [a2 a ha]
      funext k; simp [p_p, ha]
theorem p_F0.keep {P' : Nat → Nat → Option Nat} (h : p_F0 P) (hs : ∀ a, a ≠ 21 → P' a = P a) : p_F0 P' := by
  unfold p_F0 at h ⊢
  rw [hs 0 (by decide), hs 1 (by decide), hs 20 (by decide), hs 46 (by decide), hs 57 (by decide), hs 4 (by decide), hs 9 (by decide), hs 14 (by decide), hs 17 (by decide), hs 22 (by decide), hs 25 (by decide), hs 28 (by decide), hs 31 (by decide), hs 34 (by decide), hs 37 (by decide), hs 40 (by decide), hs 43 (by decide), hs 48 (by decide), hs 51 (by decide)]
  exact h
/-- the undo pile: places pl, size k, states past -/
def c_U (I : Nat → Nat → Int32) (P : Nat → Nat → Option Nat) (n : Nat) (pl : Nat → Nat) (k : Nat) (past : Nat → q_G) : Prop := I 20 1 = nI k ∧ k ≤ 8 ∧ (∀ j, j < 8 → P 21 j = some (pl j) ∧ q_pool (pl j)) ∧ (∀ i j, i < 8 → j < 8 → pl i = pl j → i = j) ∧ ∀ j, j < k → c_G I (pl j) n (past j)
def q_push (past : Nat → q_G) (k : Nat) (g : q_G) : Nat → q_G := if k < 8 then fun j => if j = k then g else past j else fun j => if j = 7 then g else past (j + 1)
def q_pk (k : Nat) : Nat := if k < 8 then k + 1 else 8
def q_und (a : Nat) : Prop := 20 ≤ a ∧ a ≤ 45
theorem q_far {a b : Nat} (ha : q_pool a) (hb : q_pool b) (h : a ≠ b) : a + 2 < b ∨ b + 2 < a := by unfold q_pool at ha hb; omega
theorem c_putL (hP : p_F0 P) {n k : Nat} {pl : Nat → Nat} {past : Nat → q_G} (hU : c_U I P n pl k past) (hk : k < 8) (hG : c_G I 14 n g) (hn : n ≤ 8) :
    ∃ I', f_X0_put_L16 20 14 (p_m I P) = some (nI 0, p_m I' P) ∧ p_same q_und I I' ∧ c_U I' P n pl (k + 1) (fun j => if j = k then g else past j) := by
  obtain ⟨u1, u2, u3, u4, u5⟩ := hU
  obtain ⟨e1, e2⟩ := u3 k hk
  obtain ⟨I1, a1, a2, a3⟩ := c_copy (I := I) (d := pl k) (t := 14) hP (q_pool_st e2) (Or.inl rfl) (by unfold q_pool at e2; omega)
  have hst := c_stg hP (q_pool_st e2)
  have h20 : I1 20 1 = nI k := by rw [a2 20 (by unfold q_pool at e2; omega)]; exact u1
  unfold f_X0_put_L16 z_lt
  simp (disch := omega) only [p_Q hP, p_G, u1]
  rw [p_pl (a := 21) (i := k) (b := pl k) (by decide) (by decide) (show k < 8 from hk) e1]
  simp (disch := omega) only [hst, a1, p_b, p_G, h20, p_N, p_A, p_F]
  refine ⟨_, rfl, ?_, by rw [p_w_eq], by omega, u3, u4, fun j hj => ?_⟩
  · refine (p_same.mono (S' := q_und) a2 (fun a ha => ?_)).w ?_
    · unfold q_pool at e2; unfold q_und; omega
    · unfold q_und; omega
  · show c_G _ (pl j) n (if j = k then g else past j)
    by_cases ej : j = k
    · subst ej
      rw [if_pos rfl]
      have := a3 n g hn hG
      exact this.keep (S := fun a => a = 20) (p_same.rf.o) (by unfold q_pool at e2; omega) (by unfold q_pool at e2; omega) (by unfold q_pool at e2; omega)
    · rw [if_neg ej]
      have hj8 : j < 8 := by omega
      have hpj := (u3 j hj8).2
      have hf := q_far hpj e2 (fun h => ej (u4 j k hj8 hk h))
      have := (u5 j (by omega)).keep a2 (by omega) (by omega) (by omega)
      exact this.keep (S := fun a => a = 20) (p_same.rf.o) (by unfold q_pool at hpj; omega) (by unfold q_pool at hpj; omega) (by unfold q_pool at hpj; omega)
theorem c_put (hP : p_F0 P) {n k : Nat} {pl : Nat → Nat} {past : Nat → q_G} (hU : c_U I P n pl k past) (hG : c_G I 14 n g) (hn : n ≤ 8) :
    ∃ I' P' pl', f_X0_put 20 14 (p_m I P) = some (nI 0, p_m I' P') ∧ p_same q_und I I' ∧ (∀ a, a ≠ 21 → P' a = P a) ∧ c_U I' P' n pl' (q_pk k) (q_push past k g) := by
  have hU0 := hU
  obtain ⟨u1, u2, u3, u4, u5⟩ := hU
  have hl : ∀ (I : Nat → Nat → Int32) (P : Nat → Nat → Option Nat) (k : Int32 → z_R), z_ln (p_m I P) 21 k = k (nI 8) := fun I P k => p_ln (by decide) (by decide)
  unfold f_X0_put q_pk q_push
  simp (disch := omega) only [p_Q hP, p_G, hl, u1, p_A]
  by_cases hk : k < 8
  · rw [if_pos hk, if_pos hk, if_pos hk]
    obtain ⟨I', a1, a2, a3⟩ := c_putL (g := g) hP hU0 hk hG hn
    exact ⟨I', P, pl, a1, a2, fun _ _ => rfl, a3⟩
  · rw [if_neg hk, if_neg hk, if_neg hk]
    have hk8 : k = 8 := by omega
    subst hk8
    obtain ⟨P1, b1, b2, b3⟩ := c_loseL (I := I) (pl := pl) (fun j hj => (u3 j hj).2) 400 1 P hP (by omega) (by omega) (by omega) (fun i hi => by rw [if_neg (by omega)]; exact (u3 i hi).1)
    have hlo : f_X0_loseOldest 20 (p_m I P) = some (nI 0, p_m (p_w I 20 1 (nI 7)) P1) := by
      unfold f_X0_loseOldest
      simp (disch := omega) only [p_Q hP, p_N]
      rw [p_pl (i := 0) (b := pl 0) (by decide) (by decide) (by decide) (u3 0 (by omega)).1]
      exact b1
    simp (disch := omega) only [p_C, hlo, p_b]
    have hU1 : c_U (p_w I 20 1 (nI 7)) P1 n (fun i => if i = 7 then pl 0 else pl (i + 1)) 7 (fun j => past (j + 1)) := by
      refine ⟨by rw [p_w_eq], by omega, fun j hj => ⟨b3 j hj, ?_⟩, fun i j hi hj he => ?_, fun j hj => ?_⟩
      · dsimp only
        split
        · exact (u3 0 (by omega)).2
        · exact (u3 (j + 1) (by omega)).2
      · dsimp only at he
        split at he <;> split at he
        · omega
        · have := u4 0 (j + 1) (by omega) (by omega) he; omega
        · have := u4 (i + 1) 0 (by omega) (by omega) he; omega
        · have := u4 (i + 1) (j + 1) (by omega) (by omega) he; omega
      · dsimp only
        rw [if_neg (by omega)]
        have hpj := (u3 (j + 1) (by omega)).2
        exact (u5 (j + 1) (by omega)).keep (S := fun a => a = 20) (p_same.rf.o) (by unfold q_pool at hpj; omega) (by unfold q_pool at hpj; omega) (by unfold q_pool at hpj; omega)
    obtain ⟨I', a1, a2, a3⟩ := c_putL (g := g) (p_F0.keep hP b2) hU1 (by omega) (hG.keep (S := fun a => a = 20) (p_same.rf.o) (by omega) (by omega) (by omega)) hn
    refine ⟨I', P1, _, a1, ?_, b2, a3⟩
    exact (p_same.w (S := q_und) p_same.rf (by unfold q_und; omega)).tr a2
/-- the latest is taken back -/
theorem c_undo (hP : p_F0 P) {n k : Nat} {pl : Nat → Nat} {past : Nat → q_G} (hU : c_U I P n pl (k + 1) past) (hn : n ≤ 8) :
    ∃ I', f_X0_takeTop 20 14 (p_m I P) = some (nI 1, p_m I' P) ∧ p_same (fun a => a = 20 ∨ a = 14 ∨ a = 15 ∨ a = 16) I I' ∧ c_U I' P n pl k past ∧ c_G I' 14 n (past k) := by
  obtain ⟨u1, u2, u3, u4, u5⟩ := hU
  obtain ⟨e1, e2⟩ := u3 k (by omega)
  obtain ⟨I1, a1, a2, a3⟩ := c_copy (I := p_w I 20 1 (nI k)) (d := 14) (t := pl k) hP (Or.inl rfl) (q_pool_st e2) (by unfold q_pool at e2; omega)
  have hk : c_G (p_w I 20 1 (nI k)) (pl k) n (past k) := (u5 k (by omega)).keep (S := fun a => a = 20) (p_same.rf.o) (by unfold q_pool at e2; omega) (by unfold q_pool at e2; omega) (by unfold q_pool at e2; omega)
  have hsb : nI (k + 1) - nI 1 = nI k := p_sb (by omega)
  unfold f_X0_takeTop z_lt
  simp (disch := omega) only [p_Q hP, p_G, p_F, u1, p_N, p_A, hsb, p_w_eq]
  rw [if_pos (by omega), p_pl (i := k) (b := pl k) (by decide) (by decide) (by show k < 8; omega) e1]
  simp (disch := omega) only [p_C, a1, p_b]
  have hs : p_same (fun a => a = 20 ∨ a = 14 ∨ a = 15 ∨ a = 16) I I1 := (p_same.w (S := fun a => a = 20 ∨ a = 14 ∨ a = 15 ∨ a = 16) p_same.rf (Or.inl rfl)).tr (a2.mono (fun a ha => by omega))
  refine ⟨I1, rfl, hs, ⟨?_, by omega, u3, u4, fun j hj => ?_⟩, a3 n _ hn hk⟩
  · rw [a2 20 (by omega), p_w_eq]
  · have hpj := (u3 j (by omega)).2
    exact (u5 j (by omega)).keep hs (by unfold q_pool at hpj; omega) (by unfold q_pool at hpj; omega) (by unfold q_pool at hpj; omega)
theorem c_undo0 (hP : p_F0 P) (h : I 20 1 = nI 0) : f_X0_takeTop 20 14 (p_m I P) = some (nI 0, p_m I P) := by
  unfold f_X0_takeTop
  simp (disch := omega) only [p_Q hP, p_G, h, p_N, p_A]
  rfl
/-- the kept ones -/
def c_Kp (I : Nat → Nat → Int32) (P : Nat → Nat → Option Nat) (n : Nat) (k : Nat) (img : Nat → q_G) : Prop := I 46 1 = nI k ∧ k ≤ 2 ∧ P 47 0 = some 48 ∧ P 47 1 = some 51 ∧ ∀ j, j < k → c_G I (48 + 3 * j) n (img j)
theorem c_kp {k0 : Nat} {img : Nat → q_G} (h : c_Kp I P n k0 img) {j : Nat} (hj : j < 2) : P 47 j = some (48 + 3 * j) ∧ q_st (48 + 3 * j) := by
  rcases (show j = 0 ∨ j = 1 by omega) with rfl | rfl
  · exact ⟨h.2.2.1, by unfold q_st; omega⟩
  · exact ⟨h.2.2.2.1, by unfold q_st; omega⟩
theorem c_keepP (hP : p_F0 P) {n k : Nat} {img : Nat → q_G} (hU : c_Kp I P n k img) (hk : k < 2) (hG : c_G I 14 n g) (hn : n ≤ 8) :
    ∃ I', f_X0_put 46 14 (p_m I P) = some (nI 0, p_m I' P) ∧ p_same (fun a => 46 ≤ a ∧ a ≤ 53) I I' ∧ c_Kp I' P n (k + 1) (fun j => if j = k then g else img j) := by
  have hl : ∀ (I : Nat → Nat → Int32) (P : Nat → Nat → Option Nat) (k : Int32 → z_R), z_ln (p_m I P) 47 k = k (nI 2) := fun I P k => p_ln (by decide) (by decide)
  obtain ⟨e1, e2⟩ := c_kp hU hk
  obtain ⟨u1, u2, u3, u4, u5⟩ := hU
  obtain ⟨I1, a1, a2, a3⟩ := c_copy (I := I) (d := 48 + 3 * k) (t := 14) hP e2 (Or.inl rfl) (by omega)
  have hst := c_stg hP e2
  have h46 : I1 46 1 = nI k := by rw [a2 46 (by omega)]; exact u1
  unfold f_X0_put f_X0_put_L16 z_lt
  simp (disch := omega) only [p_Q hP, p_G, hl, u1, p_A]
  rw [if_pos hk, p_pl (a := 47) (i := k) (b := 48 + 3 * k) (by decide) (by decide) (show k < 2 from hk) e1]
  simp (disch := omega) only [hst, a1, p_b, p_G, h46, p_N, p_A, p_F]
  refine ⟨_, rfl, ?_, by rw [p_w_eq], by omega, u3, u4, fun j hj => ?_⟩
  · exact (p_same.mono (S' := fun a => 46 ≤ a ∧ a ≤ 53) a2 (fun a ha => by omega)).w (by omega)
  · show c_G _ (48 + 3 * j) n (if j = k then g else img j)
    by_cases ej : j = k
    · subst ej
      rw [if_pos rfl]
      exact (a3 n g hn hG).keep (S := fun a => a = 46) (p_same.rf.o) (by omega) (by omega) (by omega)
    · rw [if_neg ej]
      exact ((u5 j (by omega)).keep a2 (by omega) (by omega) (by omega)).keep (S := fun a => a = 46) (p_same.rf.o) (by omega) (by omega) (by omega)
theorem c_backP (hP : p_F0 P) {n k : Nat} {img : Nat → q_G} (hU : c_Kp I P n (k + 1) img) (hn : n ≤ 8) :
    ∃ I', f_X0_takeTop 46 14 (p_m I P) = some (nI 1, p_m I' P) ∧ p_same (fun a => a = 46 ∨ a = 14 ∨ a = 15 ∨ a = 16) I I' ∧ c_Kp I' P n k img ∧ c_G I' 14 n (img k) := by
  obtain ⟨e1, e2⟩ := c_kp hU (j := k) (by have := hU.2.1; omega)
  obtain ⟨u1, u2, u3, u4, u5⟩ := hU
  obtain ⟨I1, a1, a2, a3⟩ := c_copy (I := p_w I 46 1 (nI k)) (d := 14) (t := 48 + 3 * k) hP (Or.inl rfl) e2 (by omega)
  have hk : c_G (p_w I 46 1 (nI k)) (48 + 3 * k) n (img k) := (u5 k (by omega)).keep (S := fun a => a = 46) (p_same.rf.o) (by omega) (by omega) (by omega)
  have hsb : nI (k + 1) - nI 1 = nI k := p_sb (by omega)
  unfold f_X0_takeTop z_lt
  simp (disch := omega) only [p_Q hP, p_G, p_F, u1, p_N, p_A, hsb, p_w_eq]
  rw [if_pos (by omega), p_pl (i := k) (b := 48 + 3 * k) (by decide) (by decide) (by show k < 2; omega) e1]
  simp (disch := omega) only [p_C, a1, p_b]
  have hs : p_same (fun a => a = 46 ∨ a = 14 ∨ a = 15 ∨ a = 16) I I1 := (p_same.w (S := fun a => a = 46 ∨ a = 14 ∨ a = 15 ∨ a = 16) p_same.rf (Or.inl rfl)).tr (a2.mono (fun a ha => by omega))
  refine ⟨I1, rfl, hs, ⟨?_, by omega, u3, u4, fun j hj => ?_⟩, a3 n _ hn hk⟩
  · rw [a2 46 (by omega), p_w_eq]
  · exact (u5 j (by omega)).keep hs (by omega) (by omega) (by omega)
theorem c_back0 (hP : p_F0 P) (h : I 46 1 = nI 0) : f_X0_takeTop 46 14 (p_m I P) = some (nI 0, p_m I P) := by
  unfold f_X0_takeTop
  simp (disch := omega) only [p_Q hP, p_G, h, p_N, p_A]
  rfl
end
end
section
/-! STANDINGS PUT BY, THE REFERENCE -/
theorem m_G.copy {I I' : Nat → Nat → Int32} {a o a' o' n : Nat} {g : q_G} (h : m_G I a o n g) (hn : n ≤ 8) (hc : ∀ j, j < 22 → I' a' (o' + j) = I a (o + j)) : m_G I' a' o' n g := by
  obtain ⟨x, b1, b2, b3, b4, b5, b6⟩ := h
  refine ⟨fun i hi => ⟨?_, ?_⟩, ?_, ?_, ?_, ?_, ?_, ?_⟩
  · rw [hc i (by omega)]; exact (x i hi).1
  · rw [hc (8 + i) (by omega)]; exact (x i hi).2
  · rw [hc 16 (by omega)]; exact b1
  · rw [hc 17 (by omega)]; exact b2
  · rw [hc 18 (by omega)]; exact b3
  · rw [hc 19 (by omega)]; exact b4
  · rw [hc 20 (by omega)]; exact b5
  · rw [hc 21 (by omega)]; exact b6
section
variable {P : Nat → Nat → Option Nat}
theorem p_22 (k j : Nat) : nI 22 * nI k + nI j = nI (22 * k + j) := by rw [pk_mul, nI_add]
/-- s goes behind the others of past -/
theorem m_keepsC (hP : p_F0 P) {k : Nat} (hk : k < 8) : ∀ (f j : Nat) (I : Nat → Nat → Int32), I 57 6 = nI k → j ≤ 22 → 22 - j < f →
    ∃ I', f_X5_keeps_L51 f 57 (nI j) (p_m I P) = some (nI 0, p_m I' P) ∧ p_same (fun a => a = 62 ∨ a = 57) I I' ∧ (∀ x, x ≠ 6 → I' 57 x = I 57 x) ∧ I' 57 6 = nI (k + 1) ∧ (∀ x, x < 22 * k + j ∨ 22 * k + 22 ≤ x → I' 62 x = I 62 x) ∧ ∀ x, j ≤ x → x < 22 → I' 62 (22 * k + x) = I 61 x := by
  intro f
  induction f with
  | zero => intro j I _ _ h; omega
  | succ f ih =>
    intro j I h6 hj hf
    unfold f_X5_keeps_L51 z_lt
    simp (disch := omega) only [p_Q hP, p_L, p_G, p_F, h6, p_N, p_A]
    by_cases h : 22 ≤ j
    · rw [if_pos h]
      refine ⟨_, rfl, p_same.rf.w (Or.inr rfl), fun x hx => by rw [p_w_ne (Or.inr hx)], by rw [p_w_eq], fun x _ => by rw [p_w_ne (Or.inl (by omega))], fun x h1 h2 => by omega⟩
    · rw [if_neg h, p_22]
      simp (disch := omega) only [p_S]
      obtain ⟨I', a1, a2, a3, a4, a5, a6⟩ := ih (j + 1) (p_w I 62 (22 * k + j) (I 61 j)) (by rw [p_w_ne (Or.inl (by omega))]; exact h6) (by omega) (by omega)
      refine ⟨I', a1, (p_same.w (S := fun a => a = 62 ∨ a = 57) p_same.rf (Or.inl rfl)).tr a2, fun x hx => ?_, a4, fun x hx => ?_, fun x h1 h2 => ?_⟩
      · rw [a3 x hx, p_w_ne (Or.inl (by omega))]
      · rw [a5 x (by omega), p_w_ne (Or.inr (by omega))]
      · by_cases e : x = j
        · subst e
          rw [a5 _ (by omega), p_w_eq]
        · rw [a6 x (by omega) h2, p_w_ne (Or.inl (by omega))]
theorem m_shift (hP : p_F0 P) : ∀ (f j : Nat) (I : Nat → Nat → Int32), I 57 6 = nI 8 → j ≤ 154 → 154 - j < f →
    ∃ I1, f_X5_keeps_L11 f 57 (nI j) (p_m I P) = f_X5_keeps_L49 57 (p_m I1 P) ∧ p_same (fun a => a = 62 ∨ a = 57) I I1 ∧ (∀ x, x ≠ 6 → I1 57 x = I 57 x) ∧ I1 57 6 = nI 7 ∧ (∀ x, x < j → I1 62 x = I 62 x) ∧ ∀ x, j ≤ x → x < 154 → I1 62 x = I 62 (x + 22) := by
  intro f
  induction f with
  | zero => intro j I _ _ h; omega
  | succ f ih =>
    intro j I h6 hj hf
    unfold f_X5_keeps_L11 z_lt
    simp (disch := omega) only [p_Q hP, p_L, p_G, p_F, h6, p_N, p_A]
    by_cases h : 154 ≤ j
    · rw [if_pos h]
      refine ⟨p_w I 57 6 (nI 7), by rw [p_sb (by omega)], p_same.rf.w (Or.inr rfl), fun x hx => by rw [p_w_ne (Or.inr hx)], by rw [p_w_eq], fun x _ => by rw [p_w_ne (Or.inl (by omega))], fun x h1 h2 => by omega⟩
    · rw [if_neg h]
      simp (disch := omega) only [p_L, p_S]
      obtain ⟨I', a1, a2, a3, a4, a5, a6⟩ := ih (j + 1) (p_w I 62 j (I 62 (j + 22))) (by rw [p_w_ne (Or.inl (by omega))]; exact h6) (by omega) (by omega)
      refine ⟨I', a1, (p_same.w (S := fun a => a = 62 ∨ a = 57) p_same.rf (Or.inl rfl)).tr a2, fun x hx => ?_, a4, fun x hx => ?_, fun x h1 h2 => ?_⟩
      · rw [a3 x hx, p_w_ne (Or.inl (by omega))]
      · rw [a5 x (by omega), p_w_ne (Or.inr (by omega))]
      · by_cases e : x = j
        · subst e
          rw [a5 _ (by omega), p_w_eq]
        · rw [a6 x (by omega) h2, p_w_ne (Or.inr (by omega))]
/-- the reference's pile -/
def m_U (I : Nat → Nat → Int32) (n k : Nat) (past : Nat → q_G) : Prop := I 57 6 = nI k ∧ k ≤ 8 ∧ ∀ j, j < k → m_G I 62 (22 * j) n (past j)
def m_Kp (I : Nat → Nat → Int32) (n k : Nat) (img : Nat → q_G) : Prop := I 57 8 = nI k ∧ k ≤ 2 ∧ ∀ j, j < k → m_G I 63 (22 * j) n (img j)
theorem m_keeps (hP : p_F0 P) {I : Nat → Nat → Int32} {n k : Nat} {g : q_G} {past : Nat → q_G} (hn : n ≤ 8) (hU : m_U I n k past) (hG : m_G I 61 0 n g) :
    ∃ I', f_X5_keeps 57 (p_m I P) = some (nI 0, p_m I' P) ∧ p_same (fun a => a = 62 ∨ a = 57) I I' ∧ (∀ x, x ≠ 6 → I' 57 x = I 57 x) ∧ m_U I' n (q_pk k) (q_push past k g) := by
  obtain ⟨u1, u2, u3⟩ := hU
  unfold f_X5_keeps q_pk q_push
  simp (disch := omega) only [p_G, u1, p_N, p_A]
  by_cases h : k = 8
  · subst h
    rw [if_pos rfl, if_neg (by omega), if_neg (by omega)]
    obtain ⟨I1, a1, a2, a3, a4, a5, a6⟩ := m_shift hP 400 0 I u1 (by omega) (by omega)
    obtain ⟨I2, b1, b2, b3, b4, b5, b6⟩ := m_keepsC hP (k := 7) (by omega) 400 0 I1 a4 (by omega) (by omega)
    refine ⟨I2, by rw [a1]; exact b1, a2.tr b2, fun x hx => by rw [b3 x hx, a3 x hx], b4, by omega, fun j hj => ?_⟩
    dsimp only
    by_cases e : j = 7
    · subst e
      rw [if_pos rfl]
      refine hG.copy hn (fun x hx => ?_)
      rw [b6 x (by omega) hx, a2 61 (by omega), Nat.zero_add]
    · rw [if_neg e]
      refine (u3 (j + 1) (by omega)).copy hn (fun x hx => ?_)
      rw [b5 _ (by omega), a6 _ (by omega) (by omega)]
      congr 1
      omega
  · rw [if_neg h, if_pos (by omega), if_pos (by omega)]
    obtain ⟨I2, b1, b2, b3, b4, b5, b6⟩ := m_keepsC hP (k := k) (by omega) 400 0 I u1 (by omega) (by omega)
    refine ⟨I2, b1, b2, b3, b4, by omega, fun j hj => ?_⟩
    dsimp only
    by_cases e : j = k
    · subst e
      rw [if_pos rfl]
      refine hG.copy hn (fun x hx => ?_)
      rw [b6 x (by omega) hx, Nat.zero_add]
    · rw [if_neg e]
      refine (u3 j (by omega)).copy hn (fun x hx => ?_)
      rw [b5 _ (by omega)]
theorem m_undoL (hP : p_F0 P) {k : Nat} (hk : k < 8) : ∀ (f j : Nat) (I : Nat → Nat → Int32), I 57 6 = nI k → j ≤ 22 → 22 - j < f →
    ∃ I', f_X5_undo_L22 f 57 (nI j) (p_m I P) = some (nI k, p_m I' P) ∧ p_same (fun a => a = 61) I I' ∧ (∀ x, x < j ∨ 22 ≤ x → I' 61 x = I 61 x) ∧ ∀ x, j ≤ x → x < 22 → I' 61 x = I 62 (22 * k + x) := by
  intro f
  induction f with
  | zero => intro j I _ _ h; omega
  | succ f ih =>
    intro j I h6 hj hf
    unfold f_X5_undo_L22
    simp (disch := omega) only [p_Q hP, p_L, p_G, h6, p_N, p_A]
    by_cases h : 22 ≤ j
    · rw [if_pos h]
      exact ⟨I, rfl, p_same.rf, fun _ _ => rfl, fun x h1 h2 => by omega⟩
    · rw [if_neg h, p_22]
      simp (disch := omega) only [p_L, p_S]
      obtain ⟨I', a1, a2, a5, a6⟩ := ih (j + 1) (p_w I 61 j (I 62 (22 * k + j))) (by rw [p_w_ne (Or.inl (by omega))]; exact h6) (by omega) (by omega)
      refine ⟨I', a1, (p_same.rf.o).tr a2, fun x hx => ?_, fun x h1 h2 => ?_⟩
      · rw [a5 x (by omega), p_w_ne (Or.inr (by omega))]
      · by_cases e : x = j
        · subst e
          rw [a5 _ (by omega), p_w_eq]
        · rw [a6 x (by omega) h2, p_w_ne (Or.inl (by omega))]
theorem m_undo (hP : p_F0 P) {I : Nat → Nat → Int32} {n k : Nat} {past : Nat → q_G} (hn : n ≤ 8) (hU : m_U I n (k + 1) past) :
    ∃ I', f_X5_undo 57 (p_m I P) = some (nI k, p_m I' P) ∧ p_same (fun a => a = 61 ∨ a = 57) I I' ∧ (∀ x, x ≠ 6 → I' 57 x = I 57 x) ∧ m_U I' n k past ∧ m_G I' 61 0 n (past k) := by
  obtain ⟨u1, u2, u3⟩ := hU
  have hsb : nI (k + 1) - nI 1 = nI k := p_sb (by omega)
  obtain ⟨I', a1, a2, a3, a4⟩ := m_undoL hP (k := k) (by omega) 400 0 (p_w I 57 6 (nI k)) (by rw [p_w_eq]) (by omega) (by omega)
  unfold f_X5_undo z_lt
  simp (disch := omega) only [p_G, p_F, u1, p_N, p_A, hsb]
  rw [if_neg (by omega)]
  refine ⟨I', a1, (p_same.w (S := fun a => a = 61 ∨ a = 57) p_same.rf (Or.inr rfl)).tr (a2.mono (fun a ha => Or.inl ha)), fun x hx => ?_, ⟨?_, by omega, fun j hj => ?_⟩, ?_⟩
  · rw [a2 57 (by omega), p_w_ne (Or.inr hx)]
  · rw [a2 57 (by omega), p_w_eq]
  · refine (u3 j (by omega)).copy hn (fun x hx => ?_)
    rw [a2 62 (by omega), p_w_ne (Or.inl (by omega))]
  · refine (u3 k (by omega)).copy hn (fun x hx => ?_)
    rw [Nat.zero_add, a4 x (by omega) hx, p_w_ne (Or.inl (by omega))]
theorem m_undo0 {I : Nat → Nat → Int32} (h : I 57 6 = nI 0) : f_X5_undo 57 (p_m I P) = some (-nI 2, p_m I P) := by
  unfold f_X5_undo
  simp (disch := omega) only [p_G, h, p_N, p_A, if_true]
theorem m_keepL (hP : p_F0 P) {k : Nat} (hk : k < 2) : ∀ (f j : Nat) (I : Nat → Nat → Int32), I 57 8 = nI k → j ≤ 22 → 22 - j < f →
    ∃ I', f_X5_keep_L13 f 57 (nI j) (p_m I P) = some (nI (k + 1), p_m I' P) ∧ p_same (fun a => a = 63 ∨ a = 57) I I' ∧ (∀ x, x ≠ 8 → I' 57 x = I 57 x) ∧ I' 57 8 = nI (k + 1) ∧ (∀ x, x < 22 * k + j ∨ 22 * k + 22 ≤ x → I' 63 x = I 63 x) ∧ ∀ x, j ≤ x → x < 22 → I' 63 (22 * k + x) = I 61 x := by
  intro f
  induction f with
  | zero => intro j I _ _ h; omega
  | succ f ih =>
    intro j I h6 hj hf
    unfold f_X5_keep_L13 z_lt
    simp (disch := omega) only [p_Q hP, p_L, p_G, p_F, h6, p_N, p_A, p_w_eq]
    by_cases h : 22 ≤ j
    · rw [if_pos h]
      refine ⟨_, rfl, p_same.rf.w (Or.inr rfl), fun x hx => by rw [p_w_ne (Or.inr hx)], by rw [p_w_eq], fun x _ => by rw [p_w_ne (Or.inl (by omega))], fun x h1 h2 => by omega⟩
    · rw [if_neg h, p_22]
      simp (disch := omega) only [p_S]
      obtain ⟨I', a1, a2, a3, a4, a5, a6⟩ := ih (j + 1) (p_w I 63 (22 * k + j) (I 61 j)) (by rw [p_w_ne (Or.inl (by omega))]; exact h6) (by omega) (by omega)
      refine ⟨I', a1, (p_same.w (S := fun a => a = 63 ∨ a = 57) p_same.rf (Or.inl rfl)).tr a2, fun x hx => ?_, a4, fun x hx => ?_, fun x h1 h2 => ?_⟩
      · rw [a3 x hx, p_w_ne (Or.inl (by omega))]
      · rw [a5 x (by omega), p_w_ne (Or.inr (by omega))]
      · by_cases e : x = j
        · subst e
          rw [a5 _ (by omega), p_w_eq]
        · rw [a6 x (by omega) h2, p_w_ne (Or.inl (by omega))]
theorem m_keepK (hP : p_F0 P) {I : Nat → Nat → Int32} {n k : Nat} {g : q_G} {img : Nat → q_G} (hn : n ≤ 8) (hk : k < 2) (hU : m_Kp I n k img) (hG : m_G I 61 0 n g) :
    ∃ I', f_X5_keep 57 (p_m I P) = some (nI (k + 1), p_m I' P) ∧ p_same (fun a => a = 63 ∨ a = 57) I I' ∧ (∀ x, x ≠ 8 → I' 57 x = I 57 x) ∧ m_Kp I' n (k + 1) (fun j => if j = k then g else img j) := by
  obtain ⟨u1, u2, u3⟩ := hU
  obtain ⟨I2, b1, b2, b3, b4, b5, b6⟩ := m_keepL hP hk 400 0 I u1 (by omega) (by omega)
  unfold f_X5_keep
  simp (disch := omega) only [p_G, u1, p_N, p_A]
  rw [if_neg (by omega)]
  refine ⟨I2, b1, b2, b3, b4, by omega, fun j hj => ?_⟩
  dsimp only
  by_cases e : j = k
  · subst e
    rw [if_pos rfl]
    refine hG.copy hn (fun x hx => ?_)
    rw [b6 x (by omega) hx, Nat.zero_add]
  · rw [if_neg e]
    refine (u3 j (by omega)).copy hn (fun x hx => ?_)
    rw [b5 _ (by omega)]
theorem m_backL (hP : p_F0 P) {k : Nat} (hk : k < 2) : ∀ (f j : Nat) (I : Nat → Nat → Int32), I 57 8 = nI k → j ≤ 22 → 22 - j < f →
    ∃ I', f_X5_back_L22 f 57 (nI j) (p_m I P) = some (nI k, p_m I' P) ∧ p_same (fun a => a = 61 ∨ a = 57) I I' ∧ (∀ x, x ≠ 6 → I' 57 x = I 57 x) ∧ I' 57 6 = nI 0 ∧ (∀ x, x < j ∨ 22 ≤ x → I' 61 x = I 61 x) ∧ ∀ x, j ≤ x → x < 22 → I' 61 x = I 63 (22 * k + x) := by
  intro f
  induction f with
  | zero => intro j I _ _ h; omega
  | succ f ih =>
    intro j I h6 hj hf
    unfold f_X5_back_L22
    simp (disch := omega) only [p_Q hP, p_L, p_G, p_F, h6, p_N, p_A, p_w_ne]
    by_cases h : 22 ≤ j
    · rw [if_pos h]
      exact ⟨_, rfl, p_same.rf.w (Or.inr rfl), fun x hx => by rw [p_w_ne (Or.inr hx)], by rw [p_w_eq], fun x _ => by rw [p_w_ne (Or.inl (by omega))], fun x h1 h2 => by omega⟩
    · rw [if_neg h, p_22]
      simp (disch := omega) only [p_L, p_S]
      obtain ⟨I', a1, a2, a3, a4, a5, a6⟩ := ih (j + 1) (p_w I 61 j (I 63 (22 * k + j))) (by rw [p_w_ne (Or.inl (by omega))]; exact h6) (by omega) (by omega)
      refine ⟨I', a1, (p_same.w (S := fun a => a = 61 ∨ a = 57) p_same.rf (Or.inl rfl)).tr a2, fun x hx => ?_, a4, fun x hx => ?_, fun x h1 h2 => ?_⟩
      · rw [a3 x hx, p_w_ne (Or.inl (by omega))]
      · rw [a5 x (by omega), p_w_ne (Or.inr (by omega))]
      · by_cases e : x = j
        · subst e
          rw [a5 _ (by omega), p_w_eq]
        · rw [a6 x (by omega) h2, p_w_ne (Or.inl (by omega))]
theorem m_back (hP : p_F0 P) {I : Nat → Nat → Int32} {n k : Nat} {img : Nat → q_G} (hn : n ≤ 8) (hU : m_Kp I n (k + 1) img) :
    ∃ I', f_X5_back 57 (p_m I P) = some (nI k, p_m I' P) ∧ p_same (fun a => a = 61 ∨ a = 57) I I' ∧ (∀ x, x ≠ 6 → x ≠ 8 → I' 57 x = I 57 x) ∧ I' 57 6 = nI 0 ∧ m_Kp I' n k img ∧ m_G I' 61 0 n (img k) := by
  obtain ⟨u1, u2, u3⟩ := hU
  have hsb : nI (k + 1) - nI 1 = nI k := p_sb (by omega)
  obtain ⟨I', a1, a2, a3, a4, a5, a6⟩ := m_backL hP (k := k) (by omega) 400 0 (p_w I 57 8 (nI k)) (by rw [p_w_eq]) (by omega) (by omega)
  unfold f_X5_back z_lt
  simp (disch := omega) only [p_G, p_F, u1, p_N, p_A, hsb]
  rw [if_neg (by omega)]
  refine ⟨I', a1, (p_same.w (S := fun a => a = 61 ∨ a = 57) p_same.rf (Or.inr rfl)).tr a2, fun x h6 h8 => ?_, a4, ⟨?_, by omega, fun j hj => ?_⟩, ?_⟩
  · rw [a3 x h6, p_w_ne (Or.inr h8)]
  · rw [a3 8 (by omega), p_w_eq]
  · refine (u3 j (by omega)).copy hn (fun x hx => ?_)
    rw [a2 63 (by omega), p_w_ne (Or.inl (by omega))]
  · refine (u3 k (by omega)).copy hn (fun x hx => ?_)
    rw [Nat.zero_add, a6 x (by omega) hx, p_w_ne (Or.inl (by omega))]
theorem m_back0 {I : Nat → Nat → Int32} (h : I 57 8 = nI 0) : f_X5_back 57 (p_m I P) = some (-nI 2, p_m I P) := by
  unfold f_X5_back
  simp (disch := omega) only [p_G, h, p_N, p_A, if_true]
end
end
section
/-! THE RELATION -/
/-- squad, standing, how many can be undone and what, how many are kept and what, the text -/
abbrev q_S : Type := q_Q × q_G × Nat × (Nat → q_G) × Nat × (Nat → q_G) × Nat × (Nat → Nat)
def g_in (n : Nat) (g : q_G) : Prop := g_ok n g ∧ g.2.2.2.1 ≤ 999
def q_O (A : q_S) : Prop := q_ok A.1 ∧ g_in A.1.1 A.2.1 ∧ (∀ j, j < A.2.2.1 → g_in A.1.1 (A.2.2.2.1 j)) ∧ (∀ j, j < A.2.2.2.2.1 → g_in A.1.1 (A.2.2.2.2.2.1 j)) ∧ A.2.2.2.2.2.2.1 ≤ 200 ∧ ∀ j, j < A.2.2.2.2.2.2.1 → 32 ≤ A.2.2.2.2.2.2.2 j ∧ A.2.2.2.2.2.2.2 j ≤ 126
def q_C (I : Nat → Nat → Int32) (P : Nat → Nat → Option Nat) (s d : Nat) (pl : Nat → Nat) (A : q_S) : Prop := p_F0 P ∧ (c_sq P s ∧ P 0 2 = some d ∧ ((s = 4 ∧ d = 9) ∨ (s = 9 ∧ d = 4))) ∧ c_Q I s A.1 ∧ c_G I 14 A.1.1 A.2.1 ∧ c_U I P A.1.1 pl A.2.2.1 A.2.2.2.1 ∧ c_Kp I P A.1.1 A.2.2.2.2.1 A.2.2.2.2.2.1 ∧ I 1 1 = nI A.2.2.2.2.2.2.1 ∧ ∀ j, j < A.2.2.2.2.2.2.1 → I 2 j = nI (A.2.2.2.2.2.2.2 j)
def q_M (I : Nat → Nat → Int32) (A : q_S) : Prop := m_Q I A.1 ∧ m_G I 61 0 A.1.1 A.2.1 ∧ I 57 10 = -nI 1 ∧ m_U I A.1.1 A.2.2.1 A.2.2.2.1 ∧ m_Kp I A.1.1 A.2.2.2.2.1 A.2.2.2.2.2.1 ∧ I 57 1 = nI A.2.2.2.2.2.2.1 ∧ ∀ j, j < A.2.2.2.2.2.2.1 → I 58 j = nI (A.2.2.2.2.2.2.2 j)
def q_Rel (m : z_M) : Prop := ∃ I P s d pl A, m = p_m I P ∧ q_O A ∧ q_C I P s d pl A ∧ q_M I A
section
variable {I I' : Nat → Nat → Int32} {P : Nat → Nat → Option Nat} {s d : Nat} {pl : Nat → Nat} {A : q_S} {S : Nat → Prop}
theorem c_U.keep {n k : Nat} {past : Nat → q_G} (h : c_U I P n pl k past) (hs : p_same S I I') (hS : ∀ a, S a → ¬ (20 ≤ a ∧ a ≤ 45)) : c_U I' P n pl k past := by
  obtain ⟨u1, u2, u3, u4, u5⟩ := h
  refine ⟨by rw [hs 20 (fun z => hS _ z (by omega))]; exact u1, u2, u3, u4, fun j hj => ?_⟩
  have hp := (u3 j (by omega)).2
  unfold q_pool at hp
  exact (u5 j hj).keep hs (fun z => hS _ z (by omega)) (fun z => hS _ z (by omega)) (fun z => hS _ z (by omega))
theorem c_Kp.keep {n k : Nat} {img : Nat → q_G} (h : c_Kp I P n k img) (hs : p_same S I I') (hS : ∀ a, S a → ¬ (46 ≤ a ∧ a ≤ 53)) : c_Kp I' P n k img := by
  obtain ⟨u1, u2, u3, u4, u5⟩ := h
  exact ⟨by rw [hs 46 (fun z => hS _ z (by omega))]; exact u1, u2, u3, u4, fun j hj => (u5 j hj).keep hs (fun z => hS _ z (by omega)) (fun z => hS _ z (by omega)) (fun z => hS _ z (by omega))⟩
theorem m_U.keep {n k : Nat} {past : Nat → q_G} (h : m_U I n k past) (h6 : I' 57 6 = I 57 6) (h62 : I' 62 = I 62) : m_U I' n k past := by
  obtain ⟨u1, u2, u3⟩ := h
  refine ⟨by rw [h6]; exact u1, u2, fun j hj => ?_⟩
  have := u3 j hj
  unfold m_G at this ⊢
  rw [h62]
  exact this
theorem m_Kp.keep {n k : Nat} {img : Nat → q_G} (h : m_Kp I n k img) (h8 : I' 57 8 = I 57 8) (h63 : I' 63 = I 63) : m_Kp I' n k img := by
  obtain ⟨u1, u2, u3⟩ := h
  refine ⟨by rw [h8]; exact u1, u2, fun j hj => ?_⟩
  have := u3 j hj
  unfold m_G at this ⊢
  rw [h63]
  exact this
theorem q_C.keep (h : q_C I P s d pl A) (hs : p_same S I I') (hS : ∀ a, S a → 57 ≤ a ∨ q_scr a ∨ a = 3 ∨ (d ≤ a ∧ a ≤ d + 4)) : q_C I' P s d pl A := by
  obtain ⟨h1, ⟨h2, h3, h4⟩, h5, h6, h7, h8, h9, h10⟩ := h
  have no : ∀ a, a < 57 → ¬ q_scr a → a ≠ 3 → ¬ (d ≤ a ∧ a ≤ d + 4) → ¬ S a := fun a b1 b2 b3 b4 z => by
    rcases hS a z with z | z | z | z
    · omega
    · exact b2 z
    · exact b3 z
    · exact b4 z
  refine ⟨h1, ⟨h2, h3, h4⟩, ?_, ?_, ?_, ?_, ?_, ?_⟩
  · rcases h4 with ⟨rfl, rfl⟩ | ⟨rfl, rfl⟩
    · exact h5.keep hs (no _ (by omega) (by unfold q_scr; omega) (by omega) (by omega)) (no _ (by omega) (by unfold q_scr; omega) (by omega) (by omega)) (no _ (by omega) (by unfold q_scr; omega) (by omega) (by omega)) (no _ (by omega) (by unfold q_scr; omega) (by omega) (by omega))
    · exact h5.keep hs (no _ (by omega) (by unfold q_scr; omega) (by omega) (by omega)) (no _ (by omega) (by unfold q_scr; omega) (by omega) (by omega)) (no _ (by omega) (by unfold q_scr; omega) (by omega) (by omega)) (no _ (by omega) (by unfold q_scr; omega) (by omega) (by omega))
  · exact h6.keep hs (no _ (by omega) (by unfold q_scr; omega) (by omega) (by omega)) (no _ (by omega) (by unfold q_scr; omega) (by omega) (by omega)) (no _ (by omega) (by unfold q_scr; omega) (by omega) (by omega))
  · exact h7.keep hs (fun a z => by have := hS a z; unfold q_scr at this; omega)
  · exact h8.keep hs (fun a z => by have := hS a z; unfold q_scr at this; omega)
  · rw [hs 1 (no _ (by omega) (by unfold q_scr; omega) (by omega) (by omega))]; exact h9
  · rw [hs 2 (no _ (by omega) (by unfold q_scr; omega) (by omega) (by omega))]; exact h10
theorem q_M.keep (h : q_M I A) (hs : ∀ a, 57 ≤ a → I' a = I a) : q_M I' A := by
  obtain ⟨h1, h2, h3, h4, h5, h6, h7⟩ := h
  have hsm : p_same (fun a => a < 57) I I' := fun a ha => hs a (by omega)
  exact ⟨h1.keep hsm (by omega), h2.keep hsm (by omega), by rw [hs 57 (by omega)]; exact h3, h4.keep (by rw [hs 57 (by omega)]) (hs 62 (by omega)), h5.keep (by rw [hs 57 (by omega)]) (hs 63 (by omega)), by rw [hs 57 (by omega)]; exact h6, by rw [hs 58 (by omega)]; exact h7⟩
theorem q_M.keepM (h : q_M I A) (hk : m_keep I I') : q_M I' A := by
  obtain ⟨h1, h2, h3, h4, h5, h6, h7⟩ := h
  have hsm : p_same (fun a => a = 57 ∨ a = 60 ∨ a = 64) I I' := fun a ha => hk.1 a (by omega) (by omega) (by omega)
  exact ⟨h1.keep hsm (by omega), h2.keep hsm (by omega), by rw [hk.2 10 (by omega) (by omega) (by omega)]; exact h3, h4.keep (hk.2 6 (by omega) (by omega) (by omega)) (hk.1 62 (by omega) (by omega) (by omega)), h5.keep (hk.2 8 (by omega) (by omega) (by omega)) (hk.1 63 (by omega) (by omega) (by omega)), by rw [hk.2 1 (by omega) (by omega) (by omega)]; exact h6, by rw [hk.1 58 (by omega) (by omega) (by omega)]; exact h7⟩
theorem q_C.b (h : q_C I P s d pl A) (hO : q_O A) : c_B I P s A.1 A.2.1 := ⟨h.1, h.2.1.1, hO.1, hO.2.1.1, h.2.2.1, h.2.2.2.1⟩
theorem q_M.b (h : q_M I A) (hP : p_F0 P) (hO : q_O A) : m_B I P A.1 A.2.1 := ⟨hP, hO.1, hO.2.1.1, h.1, h.2.1, h.2.2.1⟩
theorem q_bound (I : Nat → Nat → Int32) (P : Nat → Nat → Option Nat) : 57 < (p_m I P).1 ∧ (p_m I P).1 ≤ 600000 ∧ (p_m I P).2.1 ≤ 7302250 := by
  show 57 < 65 ∧ 65 ≤ 600000 ∧ p_z ≤ 7302250
  unfold p_z
  omega
/-- both calls, and what holds behind them -/
theorem q_op {oC : z_R} {fM : z_M → z_R} {r : Int32} {I1 I2 : Nat → Nat → Int32} {P1 : Nat → Nat → Option Nat} {s1 d1 : Nat} {pl1 : Nat → Nat} {A' : q_S} (h1 : oC = some (r, p_m I1 P1)) (h2 : fM (p_m I1 P1) = some (r, p_m I2 P1)) (hO : q_O A') (hC : q_C I2 P1 s1 d1 pl1 A') (hM : q_M I2 A') :
    ∃ (r : Int32) (m1 m2 : z_M), oC = some (r, m1) ∧ fM m1 = some (r, m2) ∧ (57 < m1.1 ∧ m1.1 ≤ 600000 ∧ m1.2.1 ≤ 7302250) ∧ q_Rel m2 := ⟨r, _, _, h1, h2, q_bound _ _, _, _, _, _, _, _, rfl, hO, hC, hM⟩
/-- a question: nothing changes but what is scratch -/
theorem q_ask {oC : z_R} {fM : z_M → z_R} {r : Int32} {I1 I2 : Nat → Nat → Int32} (hO : q_O A) (hC : q_C I P s d pl A) (hM : q_M I A) (h1 : oC = some (r, p_m I1 P)) (hs : p_same q_scr I I1) (h2 : fM (p_m I1 P) = some (r, p_m I2 P)) (hk : m_keep I1 I2) :
    ∃ (r : Int32) (m1 m2 : z_M), oC = some (r, m1) ∧ fM m1 = some (r, m2) ∧ (57 < m1.1 ∧ m1.1 ≤ 600000 ∧ m1.2.1 ≤ 7302250) ∧ q_Rel m2 := by
  have hC1 := hC.keep hs (fun a z => Or.inr (Or.inl z))
  have hM1 : q_M I1 A := hM.keep (fun a ha => hs a (by unfold q_scr; omega))
  refine q_op h1 h2 hO (hC1.keep (S := fun a => 57 ≤ a) (fun a ha => hk.1 a (by omega) (by omega) (by omega)) (fun a z => Or.inl z)) (hM1.keepM hk)
end
section
variable {I : Nat → Nat → Int32} {P : Nat → Nat → Option Nat} {s d : Nat} {pl : Nat → Nat} {A : q_S}
theorem o_count (hO : q_O A) (hC : q_C I P s d pl A) (hM : q_M I A) (v : Int32) : ∃ (r : Int32) (m1 m2 : z_M), f_X4_count 0 v (p_m I P) = some (r, m1) ∧ f_X5_count 57 v m1 = some (r, m2) ∧ (57 < m1.1 ∧ m1.1 ≤ 600000 ∧ m1.2.1 ≤ 7302250) ∧ q_Rel m2 := by
  have hx := (hC.b hO).x
  have hy := (hM.b hC.1 hO).x
  obtain ⟨-, ⟨hs, -⟩, -, -, hu, hk, ht, -⟩ := id hC
  obtain ⟨-, -, -, mu, mk, mt, -⟩ := id hM
  have e1 : ∃ r, f_X4_count 0 v (p_m I P) = some (r, p_m I P) ∧ f_X5_count 57 v (p_m I P) = some (r, p_m I P) := by
    unfold f_X4_count f_X5_count
    simp (disch := omega) only [p_Q hC.1, p_G, p_L, c_sq1 hs, c_sqI hs, p_N, hx, hy, hu.1, hk.1, ht, mu.1, mk.1, mt]
    simp only [p_b1]
    exact ⟨_, rfl, rfl⟩
  obtain ⟨r, a, b⟩ := e1
  exact q_ask hO hC hM a p_same.rf b m_keep.rf
theorem o_man (hO : q_O A) (hC : q_C I P s d pl A) (hM : q_M I A) (v w : Int32) : ∃ (r : Int32) (m1 m2 : z_M), f_X4_man 0 v w (p_m I P) = some (r, m1) ∧ f_X5_man 57 v w m1 = some (r, m2) ∧ (57 < m1.1 ∧ m1.1 ≤ 600000 ∧ m1.2.1 ≤ 7302250) ∧ q_Rel m2 := by
  have hB := hC.b hO
  have mB := hM.b hC.1 hO
  have hx := hB.x
  have hy := mB.x
  have h8 := hO.1.2.1
  have h1 := hO.1.1
  obtain ⟨-, ⟨hs, -⟩, -, hG, hu, hk, ht, -⟩ := id hC
  have hst := c_st (t := 14) hC.1 (Or.inl rfl)
  by_cases hv : q_is v A.1.1
  · obtain ⟨i, hi, rfl⟩ := q_is_nI hv (by omega)
    have hl : ∀ (I : Nat → Nat → Int32) (i : Nat) (k : Int32 → z_R), i < 8 → z_al (p_m I P) 16 (nI i) k = k (I 16 i) := fun I i k hi => p_al (by decide) (by decide) hi
    have e1 : ∃ r, f_X4_man 0 (nI i) w (p_m I P) = some (r, p_m I P) ∧ f_X5_man 57 (nI i) w (p_m I P) = some (r, p_m I P) := by
      unfold f_X4_man f_X5_man
      simp (disch := omega) only [p_C, c_man1 hs hx.1.1 h8 hi, m_man1 hC.1 hy.1.1 h8 hi, p_b, p_Q hC.1, p_G, p_L, c_sq1 hs, c_sqI hs, c_sqP hs hC.1, c_sqA hs, p_N, p_A, hx, hy, c_due (Or.inl rfl) hB.k hG hO.2.1.1 hi, m_due mB hi]
      simp only [Nat.one_ne_zero, if_false, p_b1]
      exact ⟨_, rfl, rfl⟩
    obtain ⟨r, a, b⟩ := e1
    exact q_ask hO hC hM a p_same.rf b m_keep.rf
  · have a : f_X4_man 0 v w (p_m I P) = some (-nI 1, p_m I P) := by
      unfold f_X4_man
      simp (disch := omega) only [p_C, c_man0 hs hx.1.1 h8 hv, p_b, p_N, if_true]
    have b : f_X5_man 57 v w (p_m I P) = some (-nI 1, p_m I P) := by
      unfold f_X5_man
      simp (disch := omega) only [p_C, m_man0 hC.1 hy.1.1 h1 h8 hv, p_b, p_N, if_true]
    exact q_ask hO hC hM a p_same.rf b m_keep.rf
theorem o_wipe (hO : q_O A) (hC : q_C I P s d pl A) (hM : q_M I A) : ∃ (r : Int32) (m1 m2 : z_M), f_X4_wipe 0 (p_m I P) = some (r, m1) ∧ f_X5_wipe 57 m1 = some (r, m2) ∧ (57 < m1.1 ∧ m1.1 ≤ 600000 ∧ m1.2.1 ≤ 7302250) ∧ q_Rel m2 := by
  obtain ⟨q, g, k, past, kk, img, len, tx⟩ := A
  obtain ⟨h1, h2, h3, h4, h5, h6, h7, h8⟩ := id hC
  obtain ⟨g1, g2, g3, g4, g5, g6, g7⟩ := id hM
  have a : f_X4_wipe 0 (p_m I P) = some (nI len, p_m (p_w I 1 1 (nI 0)) P) := by
    unfold f_X4_wipe f_X1_clear
    simp (disch := omega) only [p_Q h1, p_G, p_F, p_C, p_b, h7, p_N]
  have b : f_X5_wipe 57 (p_m (p_w I 1 1 (nI 0)) P) = some (nI len, p_m (p_w (p_w I 1 1 (nI 0)) 57 1 (nI 0)) P) := by
    unfold f_X5_wipe
    simp (disch := omega) only [p_G, p_F, p_w_ne, g6, p_N]
  have hs : p_same (fun a => a = 1 ∨ a = 57) I (p_w (p_w I 1 1 (nI 0)) 57 1 (nI 0)) := (p_same.rf.w (Or.inl rfl)).w (Or.inr rfl)
  refine q_op (A' := (q, g, k, past, kk, img, 0, tx)) a b ⟨hO.1, hO.2.1, hO.2.2.1, hO.2.2.2.1, by show 0 ≤ 200; omega, fun j hj => absurd hj (Nat.not_lt_zero j)⟩ ⟨h1, h2, ?_, ?_, h5.keep hs (by omega), h6.keep hs (by omega), ?_, fun j hj => absurd hj (Nat.not_lt_zero j)⟩ ⟨g1.keep hs (by omega), g2.keep hs (by omega), ?_, g4.keep ?_ ?_, g5.keep ?_ ?_, ?_, fun j hj => absurd hj (Nat.not_lt_zero j)⟩
  · rcases h2.2.2 with ⟨rfl, -⟩ | ⟨rfl, -⟩
    · exact h3.keep hs (by omega) (by omega) (by omega) (by omega)
    · exact h3.keep hs (by omega) (by omega) (by omega) (by omega)
  · exact h4.keep hs (by omega) (by omega) (by omega)
  · rw [p_w_ne (Or.inl (by omega)), p_w_eq]
  · rw [p_w_ne (Or.inr (by omega)), p_w_ne (Or.inl (by omega))]; exact g3
  · rw [p_w_ne (Or.inr (by omega)), p_w_ne (Or.inl (by omega))]
  · exact hs 62 (by omega)
  · rw [p_w_ne (Or.inr (by omega)), p_w_ne (Or.inl (by omega))]
  · exact hs 63 (by omega)
  · rw [p_w_eq]
theorem p_chr : ∀ v, v < 127 → ((nI v).toUInt32 % 65536).toInt32 = nI v ∧ vp_nar .char (nI v) = nI v := by decide +kernel
theorem o_write (hO : q_O A) (hC : q_C I P s d pl A) (hM : q_M I A) (v : Int32) : ∃ (r : Int32) (m1 m2 : z_M), f_X4_write 0 v (p_m I P) = some (r, m1) ∧ f_X5_write 57 v m1 = some (r, m2) ∧ (57 < m1.1 ∧ m1.1 ≤ 600000 ∧ m1.2.1 ≤ 7302250) ∧ q_Rel m2 := by
  obtain ⟨q, g, k, past, kk, img, len, tx⟩ := A
  obtain ⟨h1, h2, h3, h4, h5, h6, h7, h8⟩ := id hC
  obtain ⟨g1, g2, g3, g4, g5, g6, g7⟩ := id hM
  have hlen : len ≤ 200 := hO.2.2.2.2.1
  have hln : ∀ (I : Nat → Nat → Int32) (P : Nat → Nat → Option Nat) (k : Int32 → z_R), z_ln (p_m I P) 2 k = k (nI 200) := fun I P k => p_ln (by decide) (by decide)
  have hcs : ∀ (I : Nat → Nat → Int32) (P : Nat → Nat → Option Nat) (i : Nat) (v : Int32) (k : z_M → z_R), i < 200 → z_cs (p_m I P) 2 (nI i) v k = k (p_m (p_w I 2 i (vp_nar .char v)) P) := fun I P i v k hi => p_cs (by decide) (by decide) hi
  by_cases hv : 32 ≤ v.toInt ∧ v.toInt ≤ 126
  · obtain ⟨c, hc, rfl⟩ := q_is_nI (v := v) (n := 127) (by omega) (by omega)
    have hc32 : 32 ≤ c := by rw [nI_toInt (by omega)] at hv; omega
    obtain ⟨e1, e2⟩ := p_chr c hc
    by_cases hl : len < 200
    · have a : f_X4_write 0 (nI c) (p_m I P) = some (nI (len + 1), p_m (p_w (p_w I 2 len (nI c)) 1 1 (nI (len + 1))) P) := by
        unfold f_X4_write f_X1_add z_lt
        rw [e1]
        simp (disch := omega) only [p_Q h1, p_G, p_F, p_C, hln, hcs, p_b, h7, p_N, p_A, e2, p_w_ne, p_w_eq]
        rw [if_neg (by omega), if_pos (by omega), if_pos hl]
        simp (disch := omega) only [p_b, p_Q h1, p_G, p_w_eq, p_A]
        rw [if_neg (by omega)]
      generalize hI1 : p_w (p_w I 2 len (nI c)) 1 1 (nI (len + 1)) = I1 at a
      have hs1 : p_same (fun a => a = 1 ∨ a = 2) I I1 := by rw [← hI1]; exact (p_same.rf.w (Or.inr rfl)).w (Or.inl rfl)
      have i57 : I1 57 = I 57 := hs1 57 (by omega)
      have b : f_X5_write 57 (nI c) (p_m I1 P) = some (nI (len + 1), p_m (p_w (p_w I1 58 len (nI c)) 57 1 (nI (len + 1))) P) := by
        unfold f_X5_write z_lt
        simp (disch := omega) only [p_Q h1, p_G, p_F, p_S, m_in1, p_b, i57, g6, p_N, p_A, p_w_ne, p_w_eq]
        rw [if_neg (by omega), if_neg (by omega)]
      have hs : p_same (fun a => a = 1 ∨ a = 2 ∨ a = 57 ∨ a = 58) I (p_w (p_w I1 58 len (nI c)) 57 1 (nI (len + 1))) := ((hs1.mono (fun a ha => by omega)).w (by omega)).w (by omega)
      have h57 : ∀ x, x ≠ 1 → p_w (p_w I1 58 len (nI c)) 57 1 (nI (len + 1)) 57 x = I 57 x := fun x hx => by rw [p_w_ne (Or.inr hx), p_w_ne (Or.inl (by omega)), i57]
      refine q_op (A' := (q, g, k, past, kk, img, len + 1, fun j => if j = len then c else tx j)) a b ⟨hO.1, hO.2.1, hO.2.2.1, hO.2.2.2.1, by show len + 1 ≤ 200; omega, fun j hj => ?_⟩ ⟨h1, h2, ?_, ?_, h5.keep hs (by omega), h6.keep hs (by omega), ?_, fun j hj => ?_⟩ ⟨g1.keep hs (by omega), g2.keep hs (by omega), ?_, g4.keep (h57 6 (by omega)) (hs 62 (by omega)), g5.keep (h57 8 (by omega)) (hs 63 (by omega)), ?_, fun j hj => ?_⟩
      · show 32 ≤ (if j = len then c else tx j) ∧ (if j = len then c else tx j) ≤ 126
        have hj : j < len + 1 := hj
        split
        · omega
        · exact hO.2.2.2.2.2 j (by show j < len; omega)
      · rcases h2.2.2 with ⟨rfl, -⟩ | ⟨rfl, -⟩
        · exact h3.keep hs (by omega) (by omega) (by omega) (by omega)
        · exact h3.keep hs (by omega) (by omega) (by omega) (by omega)
      · exact h4.keep hs (by omega) (by omega) (by omega)
      · rw [p_w_ne (Or.inl (by omega)), p_w_ne (Or.inl (by omega)), ← hI1, p_w_eq]
      · have hj : j < len + 1 := hj
        show _ = nI (if j = len then c else tx j)
        rw [p_w_ne (Or.inl (by omega)), p_w_ne (Or.inl (by omega)), ← hI1, p_w_ne (Or.inl (by omega))]
        by_cases e : j = len
        · subst e; rw [p_w_eq, if_pos rfl]
        · rw [p_w_ne (Or.inr e), if_neg e]; exact h8 j (by show j < len; omega)
      · rw [h57 10 (by omega)]; exact g3
      · rw [p_w_eq]
      · have hj : j < len + 1 := hj
        show _ = nI (if j = len then c else tx j)
        rw [p_w_ne (Or.inl (by omega))]
        by_cases e : j = len
        · subst e; rw [p_w_eq, if_pos rfl]
        · rw [p_w_ne (Or.inr e), if_neg e, hs1 58 (by omega)]; exact g7 j (by show j < len; omega)
    · have hl2 : len = 200 := by omega
      subst hl2
      have a : f_X4_write 0 (nI c) (p_m I P) = some (-nI 3, p_m I P) := by
        unfold f_X4_write f_X1_add z_lt
        rw [e1]
        simp (disch := omega) only [p_Q h1, p_G, p_F, p_C, hln, p_b, h7, p_N, p_A]
        rw [if_neg (by omega), if_pos (by omega), if_neg (by omega)]
        simp (disch := omega) only [p_b, if_true]
      have b : f_X5_write 57 (nI c) (p_m I P) = some (-nI 3, p_m I P) := by
        unfold f_X5_write z_lt
        simp (disch := omega) only [p_Q h1, p_G, m_in1, p_b, g6, p_N, p_A]
        rw [if_neg (by omega), if_pos trivial]
      exact q_ask hO hC hM a p_same.rf b m_keep.rf
  · have a : f_X4_write 0 v (p_m I P) = some (-nI 1, p_m I P) := by
      unfold f_X4_write
      simp only [p_N]
      by_cases h : v < nI 32
      · rw [if_pos h]
      · rw [if_neg h, if_neg]
        rw [Int32.lt_iff_toInt_lt, nI_toInt (by omega)] at h
        rw [Int32.le_iff_toInt_le, nI_toInt (by omega)]
        omega
    have b : f_X5_write 57 v (p_m I P) = some (-nI 1, p_m I P) := by
      unfold f_X5_write
      have h0 := m_in0 (v := v) (lo := 32) (hi := 126) (p_m I P) (by unfold q_is; omega) (by omega) (by omega)
      simp (disch := omega) only [p_N, h0, p_b, if_true]
    exact q_ask hO hC hM a p_same.rf b m_keep.rf
end
end
section
/-! WORDS, EYES, LOOKS, UNDONE, KEPT -/
abbrev q_psh (A : q_S) : q_S := (A.1, A.2.1, q_pk A.2.2.1, q_push A.2.2.2.1 A.2.2.1 A.2.1, A.2.2.2.2)
section
variable {I I' : Nat → Nat → Int32} {P : Nat → Nat → Option Nat} {s d : Nat} {pl : Nat → Nat} {A : q_S}
theorem q_psh_O (h : q_O A) (hk : A.2.2.1 ≤ 8) : q_O (q_psh A) := by
  obtain ⟨h1, h2, h3, h4, h5⟩ := h
  refine ⟨h1, h2, fun j hj => ?_, h4, h5⟩
  show g_in A.1.1 (q_push A.2.2.2.1 A.2.2.1 A.2.1 j)
  have hj : j < q_pk A.2.2.1 := hj
  unfold q_push
  unfold q_pk at hj
  by_cases hc : A.2.2.1 < 8
  · rw [if_pos hc] at hj ⊢
    split
    · exact h2
    · exact h3 j (by omega)
  · rw [if_neg hc] at hj ⊢
    split
    · exact h2
    · exact h3 (j + 1) (by omega)
theorem q_C.g (h : q_C I P s d pl A) {g' : q_G} (hs : p_same (fun a => a = 14 ∨ a = 15 ∨ a = 16) I I') (hG : c_G I' 14 A.1.1 g') : q_C I' P s d pl (A.1, g', A.2.2) := by
  obtain ⟨h1, h2, h3, h4, h5, h6, h7, h8⟩ := h
  refine ⟨h1, h2, ?_, hG, h5.keep hs (by omega), h6.keep hs (by omega), by rw [hs 1 (by omega)]; exact h7, by rw [hs 2 (by omega)]; exact h8⟩
  rcases h2.2.2 with ⟨rfl, -⟩ | ⟨rfl, -⟩
  · exact h3.keep hs (by omega) (by omega) (by omega) (by omega)
  · exact h3.keep hs (by omega) (by omega) (by omega) (by omega)
theorem q_M.g (h : q_M I A) {g' : q_G} (hs : p_same (fun a => a = 61) I I') (hG : m_G I' 61 0 A.1.1 g') : q_M I' (A.1, g', A.2.2) := by
  obtain ⟨h1, h2, h3, h4, h5, h6, h7⟩ := h
  exact ⟨h1.keep hs (by omega), hG, by rw [hs 57 (by omega)]; exact h3, h4.keep (by rw [hs 57 (by omega)]) (hs 62 (by omega)), h5.keep (by rw [hs 57 (by omega)]) (hs 63 (by omega)), by rw [hs 57 (by omega)]; exact h6, by rw [hs 58 (by omega)]; exact h7⟩
theorem q_C.a57 (h : q_C I P s d pl A) (hs : ∀ a, a < 57 → I' a = I a) : q_C I' P s d pl A := h.keep (S := fun a => 57 ≤ a) (fun a ha => hs a (by omega)) (fun a z => Or.inl z)
theorem c_push (hO : q_O A) (h : q_C I P s d pl A) : ∃ I1 P1 pl1, f_X0_put 20 14 (p_m I P) = some (nI 0, p_m I1 P1) ∧ q_C I1 P1 s d pl1 (q_psh A) ∧ (∀ a, 57 ≤ a → I1 a = I a) ∧ p_F0 P1 := by
  obtain ⟨h1, h2, h3, h4, h5, h6, h7, h8⟩ := h
  obtain ⟨I1, P1, pl1, a1, a2, a3, a4⟩ := c_put h1 h5 h4 hO.1.2.1
  have hF := p_F0.keep h1 a3
  refine ⟨I1, P1, pl1, a1, ⟨hF, ⟨⟨h2.1.1, by rw [a3 0 (by omega)]; exact h2.1.2⟩, by rw [a3 0 (by omega)]; exact h2.2.1, h2.2.2⟩, ?_, ?_, a4, ?_, ?_, ?_⟩, fun a ha => a2 a (by unfold q_und; omega), hF⟩
  · rcases h2.2.2 with ⟨rfl, -⟩ | ⟨rfl, -⟩
    · exact h3.keep a2 (by unfold q_und; omega) (by unfold q_und; omega) (by unfold q_und; omega) (by unfold q_und; omega)
    · exact h3.keep a2 (by unfold q_und; omega) (by unfold q_und; omega) (by unfold q_und; omega) (by unfold q_und; omega)
  · exact h4.keep a2 (by unfold q_und; omega) (by unfold q_und; omega) (by unfold q_und; omega)
  · have := h6.keep a2 (fun a z => by unfold q_und at z; omega)
    obtain ⟨b1, b2, b3, b4, b5⟩ := this
    exact ⟨b1, b2, by rw [a3 47 (by omega)]; exact b3, by rw [a3 47 (by omega)]; exact b4, b5⟩
  · rw [a2 1 (by unfold q_und; omega)]; exact h7
  · rw [a2 2 (by unfold q_und; omega)]; exact h8
theorem m_push (hP : p_F0 P) (hO : q_O A) (h : q_M I A) : ∃ I1, f_X5_keeps 57 (p_m I P) = some (nI 0, p_m I1 P) ∧ q_M I1 (q_psh A) ∧ (∀ a, a < 57 → I1 a = I a) := by
  obtain ⟨h1, h2, h3, h4, h5, h6, h7⟩ := h
  obtain ⟨I1, a1, a2, a3, a4⟩ := m_keeps hP hO.1.2.1 h4 h2
  exact ⟨I1, a1, ⟨h1.keep a2 (by omega), h2.keep a2 (by omega), by rw [a3 10 (by omega)]; exact h3, a4, h5.keep (a3 8 (by omega)) (a2 63 (by omega)), by rw [a3 1 (by omega)]; exact h6, by rw [a2 58 (by omega)]; exact h7⟩, fun a ha => a2 a (by omega)⟩
theorem o_eyes (hO : q_O A) (hC : q_C I P s d pl A) (hM : q_M I A) (v : Int32) : ∃ (r : Int32) (m1 m2 : z_M), f_X4_eyes 0 v (p_m I P) = some (r, m1) ∧ f_X5_eyes 57 v m1 = some (r, m2) ∧ (57 < m1.1 ∧ m1.1 ≤ 600000 ∧ m1.2.1 ≤ 7302250) ∧ q_Rel m2 := by
  by_cases hv : q_is v 2
  · obtain ⟨e, he, rfl⟩ := q_is_nI hv (by omega)
    obtain ⟨I1, P1, pl1, a1, a2, a3, a4⟩ := c_push hO hC
    have hM1 := hM.keep a3
    have hO1 := q_psh_O hO hC.2.2.2.2.1.2.1
    have hx := (a2.b hO1).x
    have a : f_X4_eyes 0 (nI e) (p_m I P) = some (nI A.2.1.2.2.1, p_m (p_w I1 14 2 (nI e)) P1) := by
      unfold f_X4_eyes
      simp (disch := omega) only [c_ei1, p_b, p_N, p_A, p_Q hC.1, p_C, a1, p_Q a4, p_G, p_F, hx]
      rw [if_neg (by omega)]
    have hC2 : q_C (p_w I1 14 2 (nI e)) P1 s d pl1 ((q_psh A).1, (A.2.1.1, A.2.1.2.1, e, A.2.1.2.2.2), (q_psh A).2.2) := by
      refine a2.g (p_same.rf.w (Or.inl rfl)) ?_
      obtain ⟨b, b1, b2, b3, b4, b5, b6⟩ := a2.2.2.2.1
      exact ⟨fun i hi => by rw [p_w_ne (Or.inl (by omega)), p_w_ne (Or.inl (by omega))]; exact b i hi, by rw [p_w_eq], by rw [p_w_ne (Or.inr (by omega))]; exact b2, by rw [p_w_ne (Or.inr (by omega))]; exact b3, by rw [p_w_ne (Or.inr (by omega))]; exact b4, by rw [p_w_ne (Or.inr (by omega))]; exact b5, by rw [p_w_ne (Or.inr (by omega))]; exact b6⟩
    have hM2 : q_M (p_w I1 14 2 (nI e)) A := hM1.keep (fun a ha => by funext k; rw [p_w_ne (Or.inl (by omega))])
    obtain ⟨I3, c1, c2, c3⟩ := m_push a4 hO hM2
    have hy := (c2.b a4 hO1).x
    have h8 := hO.1.2.1
    have b : f_X5_eyes 57 (nI e) (p_m (p_w I1 14 2 (nI e)) P1) = some (nI A.2.1.2.2.1, p_m (p_w I3 61 16 (nI e)) P1) := by
      unfold f_X5_eyes
      simp (disch := omega) only [m_ei1, p_b, p_N, p_A, p_C, c1, p_Q a4, p_L, p_S, hy]
      rw [if_neg (by omega)]
    refine q_op a b ?_ ((hC2.a57 c3).a57 (I' := p_w I3 61 16 (nI e)) (fun a ha => by funext k; rw [p_w_ne (Or.inl (by omega))])) ?_
    · obtain ⟨⟨g1, g2, g3⟩, g4⟩ := hO1.2.1
      exact ⟨hO1.1, ⟨⟨g1, by show e ≤ 1; omega, g3⟩, g4⟩, hO1.2.2⟩
    · refine c2.g (p_same.rf.o) ?_
      obtain ⟨b, b1, b2, b3, b4, b5, b6⟩ := c2.2.1
      exact ⟨fun i hi => by rw [p_w_ne (Or.inr (by have : i < A.1.1 := hi; omega)), p_w_ne (Or.inr (by have : i < A.1.1 := hi; omega))]; exact b i hi, by rw [Nat.zero_add, p_w_eq], by rw [p_w_ne (Or.inr (by omega))]; exact b2, by rw [p_w_ne (Or.inr (by omega))]; exact b3, by rw [p_w_ne (Or.inr (by omega))]; exact b4, by rw [p_w_ne (Or.inr (by omega))]; exact b5, by rw [p_w_ne (Or.inr (by omega))]; exact b6⟩
  · have a : f_X4_eyes 0 v (p_m I P) = some (-nI 1, p_m I P) := by
      unfold f_X4_eyes
      simp (disch := omega) only [c_ei0 _ hv, p_b, p_N, if_true]
    have b : f_X5_eyes 57 v (p_m I P) = some (-nI 1, p_m I P) := by
      unfold f_X5_eyes
      simp (disch := omega) only [p_N, m_ei0 _ hv, p_b, if_true]
    exact q_ask hO hC hM a p_same.rf b m_keep.rf
theorem o_look (hO : q_O A) (hC : q_C I P s d pl A) (hM : q_M I A) (v w : Int32) : ∃ (r : Int32) (m1 m2 : z_M), f_X4_look 0 v w (p_m I P) = some (r, m1) ∧ f_X5_look 57 v w m1 = some (r, m2) ∧ (57 < m1.1 ∧ m1.1 ≤ 600000 ∧ m1.2.1 ≤ 7302250) ∧ q_Rel m2 := by
  have h8 := hO.1.2.1
  have h1 := hO.1.1
  have hx0 := (hC.b hO).x
  have hs := hC.2.1.1
  have hy0 := (hM.b hC.1 hO).x
  by_cases hv : q_is v A.1.1
  · obtain ⟨i, hi, rfl⟩ := q_is_nI hv (by omega)
    by_cases hw : q_is w A.1.1
    · obtain ⟨e, he, rfl⟩ := q_is_nI hw (by omega)
      obtain ⟨I1, P1, pl1, a1, a2, a3, a4⟩ := c_push hO hC
      have hM1 := hM.keep a3
      have hO1 := q_psh_O hO hC.2.2.2.2.1.2.1
      have hx := (a2.b hO1).x
      have a : f_X4_look 0 (nI i) (nI e) (p_m I P) = some (nI (A.2.1.2.1 i), p_m (p_w I1 16 i (nI e)) P1) := by
        unfold f_X4_look
        simp (disch := omega) only [p_C, c_man1 hs hx0.1.1 h8 hi, c_man1 hs hx0.1.1 h8 he, p_b, p_N, p_A, p_Q hC.1, a1, p_Q a4, p_L, p_S, hx]
        rw [if_neg (by omega), if_neg (by omega)]
      have hC2 : q_C (p_w I1 16 i (nI e)) P1 s d pl1 ((q_psh A).1, (A.2.1.1, (fun j => if j = i then e else A.2.1.2.1 j), A.2.1.2.2), (q_psh A).2.2) := by
        refine a2.g (p_same.rf.w (Or.inr (Or.inr rfl))) ?_
        obtain ⟨b, b1⟩ := a2.2.2.2.1
        refine ⟨fun j hj => ⟨by rw [p_w_ne (Or.inl (by omega))]; exact (b j hj).1, ?_⟩, ?_⟩
        · show p_w I1 16 i (nI e) 16 j = nI (if j = i then e else A.2.1.2.1 j)
          by_cases h : j = i
          · subst h; rw [p_w_eq, if_pos rfl]
          · rw [p_w_ne (Or.inr h), if_neg h]; exact (b j hj).2
        · simp only [p_w_ne (I := I1) (a := 16) (b := 14) (Or.inl (by omega))]
          exact b1
      have hM2 : q_M (p_w I1 16 i (nI e)) A := hM1.keep (fun a ha => by funext k; rw [p_w_ne (Or.inl (by omega))])
      have hy2 := (hM2.b a4 hO).x
      obtain ⟨I3, c1, c2, c3⟩ := m_push a4 hO hM2
      have hy := (c2.b a4 hO1).x
      have b : f_X5_look 57 (nI i) (nI e) (p_m (p_w I1 16 i (nI e)) P1) = some (nI (A.2.1.2.1 i), p_m (p_w I3 61 (8 + i) (nI e)) P1) := by
        unfold f_X5_look
        simp (disch := omega) only [p_C, m_man1 a4 hy2.1.1 h8 hi, m_man1 a4 hy2.1.1 h8 he, p_b, p_N, p_A, c1, p_Q a4, p_L, p_S, hy]
        rw [if_neg (by omega), if_neg (by omega)]
      refine q_op a b ?_ ((hC2.a57 c3).a57 (I' := p_w I3 61 (8 + i) (nI e)) (fun a ha => by funext k; rw [p_w_ne (Or.inl (by omega))])) ?_
      · obtain ⟨⟨g1, g2⟩, g4⟩ := hO1.2.1
        refine ⟨hO1.1, ⟨⟨fun j hj => ⟨(g1 j hj).1, ?_⟩, g2⟩, g4⟩, hO1.2.2⟩
        show (if j = i then e else A.2.1.2.1 j) < A.1.1
        split
        · exact he
        · exact (g1 j hj).2
      · refine c2.g (p_same.rf.o) ?_
        obtain ⟨b, b1, b2, b3, b4, b5, b6⟩ := c2.2.1
        refine ⟨fun j hj => ⟨by rw [p_w_ne (Or.inr (by have : j < A.1.1 := hj; omega))]; exact (b j hj).1, ?_⟩, by rw [p_w_ne (Or.inr (by omega))]; exact b1, by rw [p_w_ne (Or.inr (by omega))]; exact b2, by rw [p_w_ne (Or.inr (by omega))]; exact b3, by rw [p_w_ne (Or.inr (by omega))]; exact b4, by rw [p_w_ne (Or.inr (by omega))]; exact b5, by rw [p_w_ne (Or.inr (by omega))]; exact b6⟩
        show p_w I3 61 (8 + i) (nI e) 61 (0 + (8 + j)) = nI (if j = i then e else A.2.1.2.1 j)
        by_cases h : j = i
        · subst h; rw [Nat.zero_add, p_w_eq, if_pos rfl]
        · rw [p_w_ne (Or.inr (by omega)), if_neg h]; exact (b j hj).2
    · have a : f_X4_look 0 (nI i) w (p_m I P) = some (-nI 1, p_m I P) := by
        unfold f_X4_look
        simp (disch := omega) only [p_C, c_man1 hs hx0.1.1 h8 hi, c_man0 hs hx0.1.1 h8 hw, p_b, p_N, p_A, if_true]
        rw [if_neg (by omega)]
      have b : f_X5_look 57 (nI i) w (p_m I P) = some (-nI 1, p_m I P) := by
        unfold f_X5_look
        simp (disch := omega) only [p_C, m_man1 hC.1 hy0.1.1 h8 hi, m_man0 hC.1 hy0.1.1 h1 h8 hw, p_b, p_N, p_A, if_true]
        rw [if_neg (by omega)]
      exact q_ask hO hC hM a p_same.rf b m_keep.rf
  · have a : f_X4_look 0 v w (p_m I P) = some (-nI 1, p_m I P) := by
      unfold f_X4_look
      simp (disch := omega) only [p_C, c_man0 hs hx0.1.1 h8 hv, p_b, p_N, if_true]
    have b : f_X5_look 57 v w (p_m I P) = some (-nI 1, p_m I P) := by
      unfold f_X5_look
      simp (disch := omega) only [p_C, m_man0 hC.1 hy0.1.1 h1 h8 hv, p_b, p_N, if_true]
    exact q_ask hO hC hM a p_same.rf b m_keep.rf
theorem o_word (hO : q_O A) (hC : q_C I P s d pl A) (hM : q_M I A) (v : Int32) : ∃ (r : Int32) (m1 m2 : z_M), f_X4_word 0 v (p_m I P) = some (r, m1) ∧ f_X5_word 57 v m1 = some (r, m2) ∧ (57 < m1.1 ∧ m1.1 ≤ 600000 ∧ m1.2.1 ≤ 7302250) ∧ q_Rel m2 := by
  have hx0 := (hC.b hO).x
  have hy0 := (hM.b hC.1 hO).x
  have hwd : A.2.1.2.2.2.1 ≤ 999 := hO.2.1.2
  by_cases hv : q_is v 3
  · obtain ⟨w, hw, rfl⟩ := q_is_nI hv (by omega)
    by_cases hl : A.2.1.2.2.2.1 < 999
    · obtain ⟨I1, P1, pl1, a1, a2, a3, a4⟩ := c_push hO hC
      have hO1 := q_psh_O hO hC.2.2.2.2.1.2.1
      have hB1 := a2.b hO1
      obtain ⟨I2, b1, b2, b3⟩ := c_leaders hB1
      have hs2 : p_same q_scr I1 I2 := b2.mono (fun a ha => by unfold q_scr; omega)
      have a2' := a2.keep hs2 (fun a z => Or.inr (Or.inl z))
      obtain ⟨I3, c1, c2, c3⟩ := c_say (t := 14) (Or.inl rfl) hw hO1.2.1.1 (a2'.b hO1).k b3 a2'.2.2.2.1
      have hC3 := a2'.g (g' := q_say A.1 A.2.1 w (q_er A.1 A.2.1.2.2.2.1)) (c2.mono (fun a ha => by omega)) c3
      have hgk : g_ok A.1.1 (q_say A.1 A.2.1 w (q_er A.1 A.2.1.2.2.2.1)) := q_say_ok hO.2.1.1 hw (by omega)
      have hO3 : q_O ((q_psh A).1, q_say A.1 A.2.1 w (q_er A.1 A.2.1.2.2.2.1), (q_psh A).2.2) := ⟨hO1.1, ⟨hgk, by show A.2.1.2.2.2.1 + 1 ≤ 999; omega⟩, hO1.2.2⟩
      have hwr := c_wrong (t := 14) (Or.inl rfl) (hC3.b hO3).k hC3.2.2.2.1 hgk
      have a : f_X4_word 0 (nI w) (p_m I P) = some (nI (q_pf (q_wr A.1 (q_say A.1 A.2.1 w (q_er A.1 A.2.1.2.2.2.1))) 8), p_m I3 P1) := by
        unfold f_X4_word
        simp (disch := omega) only [c_word1, p_b, p_N, p_A, p_Q hC.1, p_G, hx0, p_C, a1, b1, p_Q a4, c1, hwr]
        rw [if_neg (by omega), if_pos hl, c_bits (q_wr_lt hO.1), p_b]
      have hM3 : q_M I3 A := (hM.keep a3).keep (fun a ha => by rw [c2 a (by omega), b2 a (by omega)])
      have hy3 := (hM3.b a4 hO).x
      obtain ⟨I4, d1, d2, d3⟩ := m_push a4 hO hM3
      have mB4 := d2.b a4 hO1
      obtain ⟨er, e1, e2, e3⟩ := m_errs mB4 0 (by omega)
      obtain ⟨I5, f1, f2, f3⟩ := m_say hw e1 mB4 (er := q_er A.1 A.2.1.2.2.2.1) (fun a ha => by rw [← e3 a ha]; rfl)
      have hM5 := d2.g f2 f3
      have b : f_X5_word 57 (nI w) (p_m I3 P1) = some (nI (q_pf (q_wr A.1 (q_say A.1 A.2.1 w (q_er A.1 A.2.1.2.2.2.1))) 8), p_m I5 P1) := by
        unfold f_X5_word
        simp (disch := omega) only [m_word1, p_b, p_N, p_A, p_Q a4, p_L, hy3, p_C, d1, e2, f1, m_wrong (hM5.b a4 hO3)]
        rw [if_neg (by omega), if_neg (by omega), m_ones (q_wr_lt hO.1), p_b]
      exact q_op a b hO3 ((hC3.a57 d3).a57 (fun a ha => f2 a (by omega))) hM5
    · have a : f_X4_word 0 (nI w) (p_m I P) = some (-nI 2, p_m I P) := by
        unfold f_X4_word
        simp (disch := omega) only [c_word1, p_b, p_N, p_A, p_Q hC.1, p_G, hx0]
        rw [if_neg (by omega), if_neg hl]
      have b : f_X5_word 57 (nI w) (p_m I P) = some (-nI 2, p_m I P) := by
        unfold f_X5_word
        simp (disch := omega) only [m_word1, p_b, p_N, p_A, p_Q hC.1, p_L, hy0]
        rw [if_neg (by omega), if_pos (by omega)]
      exact q_ask hO hC hM a p_same.rf b m_keep.rf
  · have a : f_X4_word 0 v (p_m I P) = some (-nI 1, p_m I P) := by
      unfold f_X4_word
      simp (disch := omega) only [c_word0 _ hv, p_b, p_N, if_true]
    have b : f_X5_word 57 v (p_m I P) = some (-nI 1, p_m I P) := by
      unfold f_X5_word
      simp (disch := omega) only [m_word0 _ hv, p_b, p_N, if_true]
    exact q_ask hO hC hM a p_same.rf b m_keep.rf
theorem o_undo (hO : q_O A) (hC : q_C I P s d pl A) (hM : q_M I A) : ∃ (r : Int32) (m1 m2 : z_M), f_X4_undo 0 (p_m I P) = some (r, m1) ∧ f_X5_undo 57 m1 = some (r, m2) ∧ (57 < m1.1 ∧ m1.1 ≤ 600000 ∧ m1.2.1 ≤ 7302250) ∧ q_Rel m2 := by
  obtain ⟨q, g, k, past, kk, img, len, tx⟩ := A
  obtain ⟨h1, h2, h3, h4, h5, h6, h7, h8⟩ := id hC
  obtain ⟨g1, g2, g3, g4, g5, g6, g7⟩ := id hM
  have hn : q.1 ≤ 8 := hO.1.2.1
  cases k with
  | zero =>
    have a : f_X4_undo 0 (p_m I P) = some (-nI 2, p_m I P) := by
      unfold f_X4_undo
      simp (disch := omega) only [p_Q h1, p_C, c_undo0 h1 h5.1, p_b, p_N, if_true]
    exact q_ask hO hC hM a p_same.rf (m_undo0 g4.1) m_keep.rf
  | succ k =>
    obtain ⟨I1, a1, a2, a3, a4⟩ := c_undo h1 h5 hn
    have a : f_X4_undo 0 (p_m I P) = some (nI k, p_m I1 P) := by
      unfold f_X4_undo
      simp (disch := omega) only [p_Q h1, p_C, a1, p_b, p_N, p_A, p_G, a3.1]
      rw [if_neg (by omega)]
    have hM1 : q_M I1 (q, g, k + 1, past, kk, img, len, tx) := hM.keep (fun a ha => a2 a (by omega))
    obtain ⟨I2, b1, b2, b3, b4, b5⟩ := m_undo h1 hn hM1.2.2.2.1
    have hs : p_same (fun a => a = 20 ∨ a = 14 ∨ a = 15 ∨ a = 16 ∨ a = 61 ∨ a = 57) I I2 := (a2.mono (fun a ha => by omega)).tr (b2.mono (fun a ha => by omega))
    have hsb : p_same (fun a => a = 61 ∨ a = 57) I1 I2 := b2
    refine q_op (A' := (q, past k, k, past, kk, img, len, tx)) a b1 ⟨hO.1, hO.2.2.1 k (by show k < k + 1; omega), fun j hj => hO.2.2.1 j (by show j < k + 1; have : j < k := hj; omega), hO.2.2.2⟩ ⟨h1, h2, ?_, a4.keep hsb (by omega) (by omega) (by omega), a3.keep hsb (by omega), h6.keep hs (by omega), by rw [hs 1 (by omega)]; exact h7, by rw [hs 2 (by omega)]; exact h8⟩ ⟨g1.keep hs (by omega), b5, by rw [b3 10 (by omega)]; exact hM1.2.2.1, b4, hM1.2.2.2.2.1.keep (b3 8 (by omega)) (b2 63 (by omega)), by rw [b3 1 (by omega)]; exact hM1.2.2.2.2.2.1, by rw [hs 58 (by omega)]; exact g7⟩
    rcases h2.2.2 with ⟨rfl, -⟩ | ⟨rfl, -⟩
    · exact h3.keep hs (by omega) (by omega) (by omega) (by omega)
    · exact h3.keep hs (by omega) (by omega) (by omega) (by omega)
theorem o_keep (hO : q_O A) (hC : q_C I P s d pl A) (hM : q_M I A) : ∃ (r : Int32) (m1 m2 : z_M), f_X4_keep 0 (p_m I P) = some (r, m1) ∧ f_X5_keep 57 m1 = some (r, m2) ∧ (57 < m1.1 ∧ m1.1 ≤ 600000 ∧ m1.2.1 ≤ 7302250) ∧ q_Rel m2 := by
  obtain ⟨q, g, k, past, kk, img, len, tx⟩ := A
  obtain ⟨h1, h2, h3, h4, h5, h6, h7, h8⟩ := id hC
  obtain ⟨g1, g2, g3, g4, g5, g6, g7⟩ := id hM
  have hn : q.1 ≤ 8 := hO.1.2.1
  have hkk : kk ≤ 2 := h6.2.1
  by_cases hk : kk < 2
  · obtain ⟨I1, a1, a2, a3⟩ := c_keepP h1 h6 hk h4 hn
    have a : f_X4_keep 0 (p_m I P) = some (nI (kk + 1), p_m I1 P) := by
      unfold f_X4_keep
      simp (disch := omega) only [p_Q h1, p_C, a1, p_b, p_N, p_A, p_G, h6.1, a3.1]
      rw [if_pos hk]
    have hM1 : q_M I1 (q, g, k, past, kk, img, len, tx) := hM.keep (fun a ha => a2 a (by omega))
    obtain ⟨I2, b1, b2, b3, b4⟩ := m_keepK h1 hn hk hM1.2.2.2.2.1 hM1.2.1
    have hs : p_same (fun a => (46 ≤ a ∧ a ≤ 53) ∨ a = 63 ∨ a = 57) I I2 := (a2.mono (fun a ha => by omega)).tr (b2.mono (fun a ha => by omega))
    have hsb : p_same (fun a => a = 63 ∨ a = 57) I1 I2 := b2
    refine q_op (A' := (q, g, k, past, kk + 1, fun j => if j = kk then g else img j, len, tx)) a b1 ⟨hO.1, hO.2.1, hO.2.2.1, fun j hj => ?_, hO.2.2.2.2⟩ ⟨h1, h2, ?_, h4.keep hs (by omega) (by omega) (by omega), h5.keep hs (by omega), a3.keep hsb (by omega), by rw [hs 1 (by omega)]; exact h7, by rw [hs 2 (by omega)]; exact h8⟩ ⟨g1.keep hs (by omega), g2.keep hs (by omega), by rw [b3 10 (by omega)]; exact hM1.2.2.1, hM1.2.2.2.1.keep (b3 6 (by omega)) (b2 62 (by omega)), b4, by rw [b3 1 (by omega)]; exact hM1.2.2.2.2.2.1, by rw [hs 58 (by omega)]; exact g7⟩
    · show g_in q.1 (if j = kk then g else img j)
      have hj : j < kk + 1 := hj
      split
      · exact hO.2.1
      · exact hO.2.2.2.1 j (by show j < kk; omega)
    · rcases h2.2.2 with ⟨rfl, -⟩ | ⟨rfl, -⟩
      · exact h3.keep hs (by omega) (by omega) (by omega) (by omega)
      · exact h3.keep hs (by omega) (by omega) (by omega) (by omega)
  · have h22 : kk = 2 := by omega
    subst h22
    have a : f_X4_keep 0 (p_m I P) = some (-nI 3, p_m I P) := by
      unfold f_X4_keep
      simp (disch := omega) only [p_Q h1, p_G, h6.1, p_N, p_A]
      rw [if_neg (by omega)]
    have b : f_X5_keep 57 (p_m I P) = some (-nI 3, p_m I P) := by
      unfold f_X5_keep
      simp (disch := omega) only [p_G, g5.1, p_N, p_A, if_true]
    exact q_ask hO hC hM a p_same.rf b m_keep.rf
theorem o_back (hO : q_O A) (hC : q_C I P s d pl A) (hM : q_M I A) : ∃ (r : Int32) (m1 m2 : z_M), f_X4_back 0 (p_m I P) = some (r, m1) ∧ f_X5_back 57 m1 = some (r, m2) ∧ (57 < m1.1 ∧ m1.1 ≤ 600000 ∧ m1.2.1 ≤ 7302250) ∧ q_Rel m2 := by
  obtain ⟨q, g, k, past, kk, img, len, tx⟩ := A
  obtain ⟨h1, h2, h3, h4, h5, h6, h7, h8⟩ := id hC
  obtain ⟨g1, g2, g3, g4, g5, g6, g7⟩ := id hM
  have hn : q.1 ≤ 8 := hO.1.2.1
  cases kk with
  | zero =>
    have a : f_X4_back 0 (p_m I P) = some (-nI 2, p_m I P) := by
      unfold f_X4_back
      simp (disch := omega) only [p_Q h1, p_C, c_back0 h1 h6.1, p_b, p_N, if_true]
    exact q_ask hO hC hM a p_same.rf (m_back0 g5.1) m_keep.rf
  | succ kk =>
    obtain ⟨I1, a1, a2, a3, a4⟩ := c_backP h1 h6 hn
    have e46 : p_w I1 20 1 (nI 0) 46 1 = nI kk := by rw [p_w_ne (Or.inl (by omega))]; exact a3.1
    have a : f_X4_back 0 (p_m I P) = some (nI kk, p_m (p_w I1 20 1 (nI 0)) P) := by
      unfold f_X4_back
      simp (disch := omega) only [p_Q h1, p_C, a1, p_b, p_N, p_A, p_G, p_F, e46]
      rw [if_neg (by omega)]
    have hs1 : p_same (fun a => a = 20 ∨ a = 46 ∨ a = 14 ∨ a = 15 ∨ a = 16) I (p_w I1 20 1 (nI 0)) := (a2.mono (fun a ha => by omega)).w (Or.inl rfl)
    have hM1 : q_M (p_w I1 20 1 (nI 0)) (q, g, k, past, kk + 1, img, len, tx) := hM.keep (fun a ha => hs1 a (by omega))
    obtain ⟨I2, b1, b2, b3, b4, b5, b6⟩ := m_back h1 hn hM1.2.2.2.2.1
    have hs : p_same (fun a => a = 20 ∨ a = 46 ∨ a = 14 ∨ a = 15 ∨ a = 16 ∨ a = 61 ∨ a = 57) I I2 := (hs1.mono (fun a ha => by omega)).tr (b2.mono (fun a ha => by omega))
    have hsb : p_same (fun a => a = 20 ∨ a = 61 ∨ a = 57) I1 I2 := (p_same.w (S := fun a => a = 20 ∨ a = 61 ∨ a = 57) p_same.rf (Or.inl rfl)).tr (b2.mono (fun a ha => by omega))
    refine q_op (pl1 := pl) (A' := (q, img kk, 0, past, kk, img, len, tx)) a b1 ⟨hO.1, hO.2.2.2.1 kk (by show kk < kk + 1; omega), fun j hj => absurd hj (Nat.not_lt_zero j), fun j hj => hO.2.2.2.1 j (by show j < kk + 1; have : j < kk := hj; omega), hO.2.2.2.2⟩ ⟨h1, h2, ?_, a4.keep hsb (by omega) (by omega) (by omega), ?_, a3.keep hsb (by omega), by rw [hs 1 (by omega)]; exact h7, by rw [hs 2 (by omega)]; exact h8⟩ ⟨g1.keep hs (by omega), b6, by rw [b3 10 (by omega) (by omega)]; exact hM1.2.2.1, ⟨b4, by show 0 ≤ 8; omega, fun j hj => absurd hj (Nat.not_lt_zero j)⟩, b5, by rw [b3 1 (by omega) (by omega)]; exact hM1.2.2.2.2.2.1, by rw [hs 58 (by omega)]; exact g7⟩
    · rcases h2.2.2 with ⟨rfl, -⟩ | ⟨rfl, -⟩
      · exact h3.keep hs (by omega) (by omega) (by omega) (by omega)
      · exact h3.keep hs (by omega) (by omega) (by omega) (by omega)
    · obtain ⟨u1, u2, u3, u4, u5⟩ := h5
      exact ⟨by rw [b2 20 (by omega), p_w_eq], by show 0 ≤ 8; omega, u3, u4, fun j hj => absurd hj (Nat.not_lt_zero j)⟩
end
end
section
/-! QUESTIONS OF THE STANDING -/
abbrev q_T (oC : z_R) (fM : z_M → z_R) : Prop := ∃ (r : Int32) (m1 m2 : z_M), oC = some (r, m1) ∧ fM m1 = some (r, m2) ∧ (57 < m1.1 ∧ m1.1 ≤ 600000 ∧ m1.2.1 ≤ 7302250) ∧ q_Rel m2
def q_ct (p : Nat → Bool) : Nat → Nat
  | 0 => 0
  | k + 1 => q_ct p k + (if p k then 1 else 0)
theorem q_ct_s (p : Nat → Bool) (k : Nat) : q_ct p (k + 1) = q_ct p k + (if p k then 1 else 0) := rfl
theorem q_ct_le (p : Nat → Bool) : ∀ k, q_ct p k ≤ k
  | 0 => Nat.le_refl _
  | k + 1 => by
    have := q_ct_le p k
    rw [q_ct_s]
    split <;> omega
theorem p_sh9 : ∀ i, i < 9 → (nI 1) <<< (nI i &&& nI 31) = nI (2 ^ i) := by decide
theorem p_msk : ∀ n, n < 9 → ∀ x, x < 2 ^ n → nI x &&& (nI (2 ^ n) - nI 1) = nI x := by decide +kernel
section
variable {I : Nat → Nat → Int32} {P : Nat → Nat → Option Nat} {s d : Nat} {pl : Nat → Nat} {A : q_S} {q : q_Q} {g : q_G}
theorem o_who (hO : q_O A) (hC : q_C I P s d pl A) (hM : q_M I A) (v : Int32) : q_T (f_X4_who 0 v (p_m I P)) (f_X5_who 57 v) := by
  have hB := hC.b hO
  have mB := hM.b hC.1 hO
  have hx := hB.x
  have hy := mB.x
  have h8 := hO.1.2.1
  have hor : A.2.1.2.2.2.2.2.2.1 ||| A.2.1.2.2.2.2.2.2.2 < 2 ^ A.1.1 := Nat.or_lt_two_pow hO.2.1.1.2.2.2.2.2.1 hO.2.1.1.2.2.2.2.2.2
  by_cases hv : q_is v 3
  · obtain ⟨w, hw, rfl⟩ := q_is_nI hv (by omega)
    have e1 : ∃ r, f_X4_who 0 (nI w) (p_m I P) = some (r, p_m I P) ∧ f_X5_who 57 (nI w) (p_m I P) = some (r, p_m I P) := by
      unfold f_X4_who f_X5_who z_lt
      rcases (show w = 0 ∨ w = 1 ∨ w = 2 by omega) with rfl | rfl | rfl
      · simp (disch := omega) only [p_N, p_A, p_tf, if_true, if_false, p_Q hC.1, p_C, p_L, p_G, m_in1, p_b, c_wrong (Or.inl rfl) hB.k hB.2.2.2.2.2 hO.2.1.1, m_wrong mB]
        exact ⟨_, rfl, rfl⟩
      · simp (disch := omega) only [p_N, p_A, p_tf, if_true, if_false, p_Q hC.1, p_C, p_L, p_G, m_in1, p_b, c_wrong (Or.inl rfl) hB.k hB.2.2.2.2.2 hO.2.1.1, m_wrong mB, hx, hy, p_or, p_sh9, p_msk _ (show A.1.1 < 9 by omega) _ hor]
        exact ⟨_, rfl, rfl⟩
      · have e2 : ((2 : Nat) = 0) = False := by simp
        have e3 : ((2 : Nat) = 1) = False := by simp
        simp (disch := omega) only [p_N, p_A, p_tf, e2, e3, if_true, if_false, p_Q hC.1, p_C, p_L, p_G, m_in1, p_b, hx, hy]
        exact ⟨_, rfl, rfl⟩
    obtain ⟨r, a, b⟩ := e1
    exact q_ask hO hC hM a p_same.rf b m_keep.rf
  · have n0 : ∀ k, k < 3 → v ≠ nI k := fun k hk e => hv (by rw [e]; unfold q_is; rw [nI_toInt (by omega)]; omega)
    have a : f_X4_who 0 v (p_m I P) = some (-nI 1, p_m I P) := by
      unfold f_X4_who
      simp only [p_N]
      rw [if_neg (n0 0 (by omega)), if_neg (n0 1 (by omega)), if_neg (n0 2 (by omega))]
    have b : f_X5_who 57 v (p_m I P) = some (-nI 1, p_m I P) := by
      unfold f_X5_who
      have h0 := m_in0 (v := v) (lo := 0) (hi := 2) (p_m I P) (Or.inl hv) (by omega) (by omega)
      simp (disch := omega) only [p_N, h0, p_b, if_true]
    exact q_ask hO hC hM a p_same.rf b m_keep.rf
theorem o_follows (hO : q_O A) (hC : q_C I P s d pl A) (hM : q_M I A) (v : Int32) : q_T (f_X4_follows 0 v (p_m I P)) (f_X5_follows 57 v) := by
  have hB := hC.b hO
  have mB := hM.b hC.1 hO
  have hx := hB.x
  have hy := mB.x
  have h8 := hO.1.2.1
  have h1 := hO.1.1
  have hs := hC.2.1.1
  by_cases hv : q_is v A.1.1
  · obtain ⟨i, hi, rfl⟩ := q_is_nI hv (by omega)
    have e1 : ∃ r, f_X4_follows 0 (nI i) (p_m I P) = some (r, p_m I P) ∧ f_X5_follows 57 (nI i) (p_m I P) = some (r, p_m I P) := by
      unfold f_X4_follows f_X5_follows
      simp (disch := omega) only [p_C, c_man1 hs hx.1.1 h8 hi, m_man1 hC.1 hy.1.1 h8 hi, p_b, p_N, p_A, p_tf, if_false, p_Q hC.1, p_G, p_L, hx, hy, c_end hB hi, m_end mB hi]
      simp only [p_b1]
      exact ⟨_, rfl, rfl⟩
    obtain ⟨r, a, b⟩ := e1
    exact q_ask hO hC hM a p_same.rf b m_keep.rf
  · have a : f_X4_follows 0 v (p_m I P) = some (-nI 1, p_m I P) := by
      unfold f_X4_follows
      simp (disch := omega) only [p_C, c_man0 hs hx.1.1 h8 hv, p_b, p_N, if_true]
    have b : f_X5_follows 57 v (p_m I P) = some (-nI 1, p_m I P) := by
      unfold f_X5_follows
      simp (disch := omega) only [p_C, m_man0 hC.1 hy.1.1 h1 h8 hv, p_b, p_N, if_true]
    exact q_ask hO hC hM a p_same.rf b m_keep.rf
theorem q_r_b (h : ∀ i, i < q.1 → g.2.1 i < q.1) (hn : q.1 ≤ 8) {i b : Nat} (hi : i < q.1) (hb : b < 8) : (q_r (q_ce q.2.2.1 g.2.1 99 9 i) = nI b) = (q_ce q.2.2.1 g.2.1 99 9 i = b) := by
  rcases q_ce_lt (kd := q.2.2.1) (b := 99) h 9 i hi with e | e
  · rw [e, q_r99]
    refine propext ⟨fun h => ?_, fun h => by omega⟩
    have := p_A.2.2.2.2.1 b (by omega)
    rw [h] at this
    simp at this
  · rw [q_rn (by omega), p_A.2.1 _ _ (by omega) (by omega)]
theorem c_runL (h : c_B I P s q g) {b : Nat} (hb : b < q.1) : ∀ (f i : Nat), i ≤ q.1 → q.1 - i < f → f_X4_runs_L14 f 0 (nI b) (nI (q_ct (fun i => !decide (i = b) && decide (q_ce q.2.2.1 g.2.1 99 9 i = b)) i)) (nI i) (p_m I P) = some (nI (q_ct (fun i => !decide (i = b) && decide (q_ce q.2.2.1 g.2.1 99 9 i = b)) q.1), p_m I P) := by
  intro f
  induction f with
  | zero => intro i _ h; omega
  | succ f ih =>
    intro i hi hf
    have hx := h.x
    have h8 := h.2.2.1.2.1
    unfold f_X4_runs_L14 f_X4_runs_L44
    simp (disch := omega) only [c_sq1 h.2.1, c_sqI h.2.1, p_N, hx, p_A]
    by_cases h1 : q.1 ≤ i
    · rw [if_pos h1, show i = q.1 by omega]
    · rw [if_neg h1]
      have hin : i < q.1 := by omega
      have he := q_r_b (q := q) (g := g) (b := b) (fun i hi => (h.2.2.2.1.1 i hi).2) h8 hin (by omega)
      have hs := q_ct_s (fun i => !decide (i = b) && decide (q_ce q.2.2.1 g.2.1 99 9 i = b)) i
      have ih1 := ih (i + 1) (by omega) (by omega)
      simp (disch := omega) only [p_C, c_end h hin, p_b, he]
      rw [hs] at ih1
      by_cases hc : i = b
      · rw [if_pos hc]
        simpa [hc] using ih1
      · rw [if_neg hc]
        by_cases hd : q_ce q.2.2.1 g.2.1 99 9 i = b
        · rw [if_pos hd]
          simpa [hc, hd] using ih1
        · rw [if_neg hd]
          simpa [hc, hd] using ih1
theorem m_runL (h : m_B I P q g) {b : Nat} (hb : b < q.1) : ∀ (f i : Nat), i ≤ q.1 → q.1 - i < f → f_X5_runs_L14 f 57 (nI b) (nI (q_ct (fun i => !decide (i = b) && decide (q_ce q.2.2.1 g.2.1 99 9 i = b)) i)) (nI i) (p_m I P) = some (nI (q_ct (fun i => !decide (i = b) && decide (q_ce q.2.2.1 g.2.1 99 9 i = b)) q.1), p_m I P) := by
  intro f
  induction f with
  | zero => intro i _ h; omega
  | succ f ih =>
    intro i hi hf
    have hx := h.x
    have h8 := h.2.1.2.1
    unfold f_X5_runs_L14 f_X5_runs_L43 f_X5_runs_L44 z_lt
    simp (disch := omega) only [p_Q h.1, p_L, p_N, hx, p_A]
    by_cases h1 : q.1 ≤ i
    · rw [if_pos h1, show i = q.1 by omega]
    · rw [if_neg h1]
      have hin : i < q.1 := by omega
      have he := q_r_b (q := q) (g := g) (b := b) (fun i hi => (h.2.2.1.1 i hi).2) h8 hin (by omega)
      have hs := q_ct_s (fun i => !decide (i = b) && decide (q_ce q.2.2.1 g.2.1 99 9 i = b)) i
      have ih1 := ih (i + 1) (by omega) (by omega)
      simp (disch := omega) only [p_C, m_end h hin, p_b, he]
      rw [hs] at ih1
      by_cases hc : i = b
      · rw [if_pos hc]
        simpa [hc] using ih1
      · rw [if_neg hc]
        by_cases hd : q_ce q.2.2.1 g.2.1 99 9 i = b
        · rw [if_pos hd]
          simpa [hc, hd] using ih1
        · rw [if_neg hd]
          simpa [hc, hd] using ih1
theorem o_runs (hO : q_O A) (hC : q_C I P s d pl A) (hM : q_M I A) (v : Int32) : q_T (f_X4_runs 0 v (p_m I P)) (f_X5_runs 57 v) := by
  have hB := hC.b hO
  have mB := hM.b hC.1 hO
  have hx := hB.x
  have hy := mB.x
  have h8 := hO.1.2.1
  have h1 := hO.1.1
  have hs := hC.2.1.1
  by_cases hv : q_is v A.1.1
  · obtain ⟨i, hi, rfl⟩ := q_is_nI hv (by omega)
    have a1 := c_runL hB hi 400 0 (by omega) (by omega)
    have b1 := m_runL mB hi 400 0 (by omega) (by omega)
    have e1 : ∃ r, f_X4_runs 0 (nI i) (p_m I P) = some (r, p_m I P) ∧ f_X5_runs 57 (nI i) (p_m I P) = some (r, p_m I P) := by
      unfold f_X4_runs f_X5_runs
      simp (disch := omega) only [p_C, c_man1 hs hx.1.1 h8 hi, m_man1 hC.1 hy.1.1 h8 hi, p_b, p_N, p_A, p_tf, if_false]
      exact ⟨_, a1, b1⟩
    obtain ⟨r, a, b⟩ := e1
    exact q_ask hO hC hM a p_same.rf b m_keep.rf
  · have a : f_X4_runs 0 v (p_m I P) = some (-nI 1, p_m I P) := by
      unfold f_X4_runs
      simp (disch := omega) only [p_C, c_man0 hs hx.1.1 h8 hv, p_b, p_N, if_true]
    have b : f_X5_runs 57 v (p_m I P) = some (-nI 1, p_m I P) := by
      unfold f_X5_runs
      simp (disch := omega) only [p_C, m_man0 hC.1 hy.1.1 h1 h8 hv, p_b, p_N, if_true]
    exact q_ask hO hC hM a p_same.rf b m_keep.rf
/-- groups, the longest, the one that goes on -/
def q_gr (fc : Nat → Nat) : Nat → Nat × Nat × Nat
  | 0 => (0, 0, 0)
  | i + 1 => if i = 0 ∨ ¬ fc i = fc (i - 1) then ((q_gr fc i).1 + 1, max (q_gr fc i).2.1 1, 1) else ((q_gr fc i).1, max (q_gr fc i).2.1 ((q_gr fc i).2.2 + 1), (q_gr fc i).2.2 + 1)
theorem q_gr_le (fc : Nat → Nat) : ∀ i, (q_gr fc i).1 ≤ i ∧ (q_gr fc i).2.1 ≤ i ∧ (q_gr fc i).2.2 ≤ i ∧ (i = 0 ∨ 1 ≤ (q_gr fc i).2.2)
  | 0 => ⟨Nat.le_refl _, Nat.le_refl _, Nat.le_refl _, Or.inl rfl⟩
  | i + 1 => by
    have := q_gr_le fc i
    unfold q_gr
    split
    · refine ⟨?_, ?_, ?_, ?_⟩ <;> simp only <;> omega
    · refine ⟨?_, ?_, ?_, ?_⟩ <;> simp only <;> omega
theorem p_mx {a b : Nat} (ha : a < 2147483648) (hb : b < 2147483648) : z_mx (nI a) (nI b) = nI (max a b) := by
  unfold z_mx
  simp only [p_A.2.2.1 _ _ ha hb]
  split
  · rw [Nat.max_eq_right (by omega)]
  · rw [Nat.max_eq_left (by omega)]
theorem c_grL (h : c_B I P s q g) {z : Nat} (hz : z < 2) : ∀ (f i : Nat), i ≤ q.1 → q.1 - i < f → f_X4_groups_L19 f 0 (nI z) (nI (q_gr g.1 i).1) (nI (q_gr g.1 i).2.1) (nI (q_gr g.1 i).2.2) (nI i) (p_m I P) = some (if z = 0 then nI (q_gr g.1 q.1).1 else nI (q_gr g.1 q.1).2.1, p_m I P) := by
  intro f
  induction f with
  | zero => intro i _ h; omega
  | succ f ih =>
    intro i hi hf
    have hx := h.x
    have h8 := h.2.2.1.2.1
    obtain ⟨u1, u2, u3, u4⟩ := q_gr_le g.1 i
    unfold f_X4_groups_L19 f_X4_groups_L61 f_X4_groups_L67 z_lt
    simp (disch := omega) only [c_sq1 h.2.1, c_sqI h.2.1, p_N, hx, p_A]
    by_cases h1 : q.1 ≤ i
    · rw [if_pos h1, show i = q.1 by omega, p_b1]
    · rw [if_neg h1]
      have hin : i < q.1 := by omega
      have ih1 := ih (i + 1) (by omega) (by omega)
      have hfc := (h.2.2.2.1.1 i hin).1
      simp (disch := omega) only [p_mx, Nat.zero_add]
      by_cases hc : i = 0
      · rw [if_pos hc]
        rw [show q_gr g.1 (i + 1) = ((q_gr g.1 i).1 + 1, max (q_gr g.1 i).2.1 1, 1) from if_pos (Or.inl hc)] at ih1
        exact ih1
      · rw [if_neg hc]
        have hfc1 := (h.2.2.2.1.1 (i - 1) (by omega)).1
        simp (disch := omega) only [p_Q h.1, p_L, p_sb, hx, p_A]
        by_cases hd : g.1 i = g.1 (i - 1)
        · rw [if_pos hd]
          rw [show q_gr g.1 (i + 1) = ((q_gr g.1 i).1, max (q_gr g.1 i).2.1 ((q_gr g.1 i).2.2 + 1), (q_gr g.1 i).2.2 + 1) from if_neg (by omega)] at ih1
          exact ih1
        · rw [if_neg hd]
          rw [show q_gr g.1 (i + 1) = ((q_gr g.1 i).1 + 1, max (q_gr g.1 i).2.1 1, 1) from if_pos (Or.inr hd)] at ih1
          exact ih1
theorem m_grL (h : m_B I P q g) {z : Nat} (hz : z < 2) : ∀ (f i : Nat), i ≤ q.1 → q.1 - i < f → f_X5_groups_L21 f 57 (nI z) (nI (q_gr g.1 i).1) (nI (q_gr g.1 i).2.1) (nI (q_gr g.1 i).2.2) (nI i) (p_m I P) = some (if z = 0 then nI (q_gr g.1 q.1).1 else nI (q_gr g.1 q.1).2.1, p_m I P) := by
  intro f
  induction f with
  | zero => intro i _ h; omega
  | succ f ih =>
    intro i hi hf
    have hx := h.x
    have h8 := h.2.1.2.1
    obtain ⟨u1, u2, u3, u4⟩ := q_gr_le g.1 i
    unfold f_X5_groups_L21 f_X5_groups_L63 f_X5_groups_L64 f_X5_groups_L78 f_X5_groups_L92 z_lt
    simp (disch := omega) only [p_Q h.1, p_L, p_N, hx, p_A]
    by_cases h1 : q.1 ≤ i
    · rw [if_pos h1, show i = q.1 by omega, p_b1]
    · rw [if_neg h1]
      have hin : i < q.1 := by omega
      have ih1 := ih (i + 1) (by omega) (by omega)
      have hfc := (h.2.2.1.1 i hin).1
      have J : ∀ r gg, (gg = (q_gr g.1 i).1 + 1 ∧ r = 1 ∧ (i = 0 ∨ ¬ g.1 i = g.1 (i - 1))) ∨ (gg = (q_gr g.1 i).1 + 0 ∧ r = (q_gr g.1 i).2.2 + 1 ∧ ¬ (i = 0 ∨ ¬ g.1 i = g.1 (i - 1))) → (if r ≤ (q_gr g.1 i).2.1 then f_X5_groups_L21 f 57 (nI z) (nI gg) (nI (q_gr g.1 i).2.1) (nI r) (nI (i + 1)) (p_m I P) else f_X5_groups_L21 f 57 (nI z) (nI gg) (nI r) (nI r) (nI (i + 1)) (p_m I P)) = some (if z = 0 then nI (q_gr g.1 q.1).1 else nI (q_gr g.1 q.1).2.1, p_m I P) := by
        intro r gg hr
        rcases hr with ⟨rfl, rfl, hr⟩ | ⟨rfl, rfl, hr⟩
        · rw [show q_gr g.1 (i + 1) = ((q_gr g.1 i).1 + 1, max (q_gr g.1 i).2.1 1, 1) from if_pos hr] at ih1
          split
          · rw [Nat.max_eq_left (by omega)] at ih1; exact ih1
          · rw [Nat.max_eq_right (by omega)] at ih1; exact ih1
        · rw [show q_gr g.1 (i + 1) = ((q_gr g.1 i).1, max (q_gr g.1 i).2.1 ((q_gr g.1 i).2.2 + 1), (q_gr g.1 i).2.2 + 1) from if_neg hr] at ih1
          split
          · rw [Nat.max_eq_left (by omega)] at ih1; exact ih1
          · rw [Nat.max_eq_right (by omega)] at ih1; exact ih1
      by_cases hc : i ≤ 0
      · rw [if_pos hc]
        simp (disch := omega) only [p_A, p_tf, if_true]
        exact J 1 _ (Or.inl ⟨rfl, rfl, Or.inl (by omega)⟩)
      · rw [if_neg hc]
        have hfc1 := (h.2.2.1.1 (i - 1) (by omega)).1
        simp (disch := omega) only [p_Q h.1, p_L, p_sb, hx, p_A, p_tf, if_true]
        by_cases hd : g.1 i = g.1 (i - 1)
        · rw [if_pos hd, if_neg (by omega)]
          exact J _ _ (Or.inr ⟨rfl, rfl, by omega⟩)
        · rw [if_neg hd]
          exact J 1 _ (Or.inl ⟨rfl, rfl, Or.inr hd⟩)
theorem o_groups (hO : q_O A) (hC : q_C I P s d pl A) (hM : q_M I A) (v : Int32) : q_T (f_X4_groups 0 v (p_m I P)) (f_X5_groups 57 v) := by
  have hB := hC.b hO
  have mB := hM.b hC.1 hO
  have h8 := hO.1.2.1
  by_cases hv : q_is v 2
  · obtain ⟨z, hz, rfl⟩ := q_is_nI hv (by omega)
    have a1 := c_grL hB hz 400 0 (by omega) (by omega)
    have b1 := m_grL mB hz 400 0 (by omega) (by omega)
    have e1 : ∃ r, f_X4_groups 0 (nI z) (p_m I P) = some (r, p_m I P) ∧ f_X5_groups 57 (nI z) (p_m I P) = some (r, p_m I P) := by
      unfold f_X4_groups f_X5_groups
      simp (disch := omega) only [p_N, c_ei1, m_ei1, p_b, p_A, p_tf, if_false]
      exact ⟨_, a1, b1⟩
    obtain ⟨r, a, b⟩ := e1
    exact q_ask hO hC hM a p_same.rf b m_keep.rf
  · have a : f_X4_groups 0 v (p_m I P) = some (-nI 1, p_m I P) := by
      unfold f_X4_groups
      simp (disch := omega) only [c_ei0 _ hv, p_b, p_N, if_true]
    have b : f_X5_groups 57 v (p_m I P) = some (-nI 1, p_m I P) := by
      unfold f_X5_groups
      simp (disch := omega) only [p_N, m_ei0 _ hv, p_b, if_true]
    exact q_ask hO hC hM a p_same.rf b m_keep.rf
end
end
section
/-! WHERE MOST FACE; WHAT IS FORESEEN -/
def q_cf (fc : Nat → Nat) (n k : Nat) : Nat := q_ct (fun i => decide (fc i = k)) n
def q_bs (fc : Nat → Nat) (n : Nat) : Nat → Nat
  | 0 => 0
  | k + 1 => if q_cf fc n (k + 1) ≤ q_cf fc n (q_bs fc n k) then q_bs fc n k else k + 1
theorem q_bs_le (fc : Nat → Nat) (n : Nat) : ∀ k, q_bs fc n k ≤ k
  | 0 => Nat.le_refl _
  | k + 1 => by
    have := q_bs_le fc n k
    unfold q_bs
    split <;> omega
section
variable {I : Nat → Nat → Int32} {P : Nat → Nat → Option Nat} {s d : Nat} {pl : Nat → Nat} {A : q_S} {q : q_Q} {g : q_G}
theorem c_mfL (h : c_B I P s q g) {k : Nat} (hk : k < 5) : ∀ (f i : Nat), i ≤ q.1 → q.1 - i < f → f_X4_menFacing_L4 f 0 (nI k) (nI (q_cf g.1 i k)) (nI i) (p_m I P) = some (nI (q_cf g.1 q.1 k), p_m I P) := by
  intro f
  induction f with
  | zero => intro i _ h; omega
  | succ f ih =>
    intro i hi hf
    have hx := h.x
    have h8 := h.2.2.1.2.1
    unfold f_X4_menFacing_L4 f_X4_menFacing_L31
    simp (disch := omega) only [c_sq1 h.2.1, c_sqI h.2.1, p_N, hx, p_A]
    by_cases h1 : q.1 ≤ i
    · rw [if_pos h1, show i = q.1 by omega]
    · rw [if_neg h1]
      have hin : i < q.1 := by omega
      have hfc := (h.2.2.2.1.1 i hin).1
      have ih1 := ih (i + 1) (by omega) (by omega)
      rw [show q_cf g.1 (i + 1) k = q_cf g.1 i k + (if decide (g.1 i = k) = true then 1 else 0) from rfl] at ih1
      simp (disch := omega) only [p_Q h.1, p_L, hx, p_A]
      by_cases hc : g.1 i = k
      · rw [if_pos hc]
        rw [if_pos (by simp [hc])] at ih1
        exact ih1
      · rw [if_neg hc]
        rw [if_neg (by simp [hc])] at ih1
        exact ih1
theorem c_mf (h : c_B I P s q g) {k : Nat} (hk : k < 5) : f_X4_menFacing 0 (nI k) (p_m I P) = some (nI (q_cf g.1 q.1 k), p_m I P) := by
  have h8 := h.2.2.1.2.1
  unfold f_X4_menFacing
  exact c_mfL h hk 400 0 (by omega) (by omega)
theorem q_cf_le (fc : Nat → Nat) (n k : Nat) : q_cf fc n k ≤ n := q_ct_le _ n
theorem c_moL (h : c_B I P s q g) {z : Nat} (hz : z < 2) : ∀ (f k : Nat), k ≤ 3 → 3 - k < f → f_X4_most_L13 f 0 (nI z) (nI (q_bs g.1 q.1 k)) (nI (k + 1)) (p_m I P) = some (nI (if z = 0 then q_bs g.1 q.1 3 else q_cf g.1 q.1 (q_bs g.1 q.1 3)), p_m I P) := by
  intro f
  induction f with
  | zero => intro i _ h; omega
  | succ f ih =>
    intro k hk hf
    have h8 := h.2.2.1.2.1
    have hb := q_bs_le g.1 q.1 k
    have u1 := q_cf_le g.1 q.1 (k + 1)
    have u2 := q_cf_le g.1 q.1 (q_bs g.1 q.1 k)
    unfold f_X4_most_L13 f_X4_most_L33
    simp (disch := omega) only [p_N, p_C, c_mf h, p_b, p_A]
    by_cases h1 : 4 ≤ k + 1
    · rw [if_pos h1, show k = 3 by omega, p_b1]
      split <;> rfl
    · rw [if_neg h1]
      have ih1 := ih (k + 1) (by omega) (by omega)
      rw [show q_bs g.1 q.1 (k + 1) = if q_cf g.1 q.1 (k + 1) ≤ q_cf g.1 q.1 (q_bs g.1 q.1 k) then q_bs g.1 q.1 k else k + 1 from rfl] at ih1
      split
      · next hc => rw [if_pos hc] at ih1; exact ih1
      · next hc => rw [if_neg hc] at ih1; exact ih1
theorem m_moI (h : m_B I P q g) {v w u : Int32} {k : Nat} (hk : k < 5) {F : Nat → Int32 → Int32 → Int32 → Int32 → z_M → z_R} : ∀ (f i : Nat), i ≤ q.1 → q.1 - i < f → f_X5_most_L30 F f 57 v w u (nI k) (nI (q_cf g.1 i k)) (nI i) (p_m I P) = if nI (q_cf g.1 q.1 k) ≤ u then F 57 v w u (nI (k + 1)) (p_m I P) else F 57 v (nI k) (nI (q_cf g.1 q.1 k)) (nI (k + 1)) (p_m I P) := by
  intro f
  induction f with
  | zero => intro i _ h; omega
  | succ f ih =>
    intro i hi hf
    have hx := h.x
    have h8 := h.2.1.2.1
    unfold f_X5_most_L30 f_X5_most_L60 f_X5_most_L81 f_X5_most_L94 z_lt
    simp (disch := omega) only [p_Q h.1, p_L, p_N, hx, p_A]
    by_cases h1 : q.1 ≤ i
    · rw [if_pos h1, show i = q.1 by omega]
      by_cases hu : nI (q_cf g.1 q.1 k) ≤ u
      · simp only [if_pos hu]
      · simp only [if_neg hu]
    · rw [if_neg h1]
      have hin : i < q.1 := by omega
      have hfc := (h.2.2.1.1 i hin).1
      have ih1 := ih (i + 1) (by omega) (by omega)
      rw [show q_cf g.1 (i + 1) k = q_cf g.1 i k + (if decide (g.1 i = k) = true then 1 else 0) from rfl] at ih1
      simp (disch := omega) only [p_Q h.1, p_L, hx, p_A]
      by_cases hc : g.1 i = k
      · rw [if_pos hc]
        rw [if_pos (by simp [hc])] at ih1
        exact ih1
      · rw [if_neg hc]
        rw [if_neg (by simp [hc])] at ih1
        exact ih1
theorem m_moL (h : m_B I P q g) {z : Nat} (hz : z < 2) : ∀ (f k : Nat), k ≤ 3 → 3 - k < f → f_X5_most_L18 f 57 (nI z) (nI (q_bs g.1 q.1 k)) (nI (q_cf g.1 q.1 (q_bs g.1 q.1 k))) (nI (k + 1)) (p_m I P) = some (nI (if z = 0 then q_bs g.1 q.1 3 else q_cf g.1 q.1 (q_bs g.1 q.1 3)), p_m I P) := by
  intro f
  induction f with
  | zero => intro i _ h; omega
  | succ f ih =>
    intro k hk hf
    have h8 := h.2.1.2.1
    have hb := q_bs_le g.1 q.1 k
    have u1 := q_cf_le g.1 q.1 (k + 1)
    have u2 := q_cf_le g.1 q.1 (q_bs g.1 q.1 k)
    unfold f_X5_most_L18
    simp (disch := omega) only [p_N, p_A]
    by_cases h1 : 4 ≤ k + 1
    · rw [if_pos h1, show k = 3 by omega, p_b1]
      split <;> rfl
    · rw [if_neg h1]
      have ih1 := ih (k + 1) (by omega) (by omega)
      have hI := m_moI h (v := nI z) (w := nI (q_bs g.1 q.1 k)) (u := nI (q_cf g.1 q.1 (q_bs g.1 q.1 k))) (k := k + 1) (by omega) (F := f_X5_most_L18 f) 400 0 (by omega) (by omega)
      rw [show q_cf g.1 0 (k + 1) = 0 from rfl] at hI
      rw [hI]
      rw [show q_bs g.1 q.1 (k + 1) = if q_cf g.1 q.1 (k + 1) ≤ q_cf g.1 q.1 (q_bs g.1 q.1 k) then q_bs g.1 q.1 k else k + 1 from rfl] at ih1
      simp (disch := omega) only [p_A]
      split
      · next hc => rw [if_pos hc] at ih1; exact ih1
      · next hc => rw [if_neg hc] at ih1; exact ih1
theorem p_nm (a : Nat) (ha : a < 2147483648) : (nI a ≤ -nI 1) = False := by
  refine eq_false (fun h => ?_)
  rw [Int32.le_iff_toInt_le, nI_toInt ha, show (-nI 1).toInt = -1 by decide] at h
  omega
theorem m_mo (h : m_B I P q g) {z : Nat} (hz : z < 2) : f_X5_most_L18 400 57 (nI z) (nI 0) (-nI 1) (nI 0) (p_m I P) = some (nI (if z = 0 then q_bs g.1 q.1 3 else q_cf g.1 q.1 (q_bs g.1 q.1 3)), p_m I P) := by
  have h8 := h.2.1.2.1
  have u1 := q_cf_le g.1 q.1 0
  show f_X5_most_L18 (399 + 1) 57 (nI z) (nI 0) (-nI 1) (nI 0) (p_m I P) = _
  unfold f_X5_most_L18
  simp (disch := omega) only [p_N, p_A]
  rw [if_neg (by omega)]
  have hI := m_moI h (v := nI z) (w := nI 0) (u := -nI 1) (k := 0) (by omega) (F := f_X5_most_L18 399) 400 0 (by omega) (by omega)
  rw [show q_cf g.1 0 0 = 0 from rfl] at hI
  rw [hI]
  simp (disch := omega) only [p_nm, if_false]
  exact m_moL h hz 399 0 (by omega) (by omega)
theorem o_most (hO : q_O A) (hC : q_C I P s d pl A) (hM : q_M I A) (v : Int32) : q_T (f_X4_most 0 v (p_m I P)) (f_X5_most 57 v) := by
  have hB := hC.b hO
  have mB := hM.b hC.1 hO
  have h8 := hO.1.2.1
  by_cases hv : q_is v 2
  · obtain ⟨z, hz, rfl⟩ := q_is_nI hv (by omega)
    have a1 := c_moL hB hz 400 0 (by omega) (by omega)
    have b1 := m_mo mB hz
    have e1 : ∃ r, f_X4_most 0 (nI z) (p_m I P) = some (r, p_m I P) ∧ f_X5_most 57 (nI z) (p_m I P) = some (r, p_m I P) := by
      unfold f_X4_most f_X5_most
      simp (disch := omega) only [p_N, c_ei1, m_ei1, p_b, p_A, p_tf, if_false]
      exact ⟨_, a1, b1⟩
    obtain ⟨r, a, b⟩ := e1
    exact q_ask hO hC hM a p_same.rf b m_keep.rf
  · have a : f_X4_most 0 v (p_m I P) = some (-nI 1, p_m I P) := by
      unfold f_X4_most
      simp (disch := omega) only [c_ei0 _ hv, p_b, p_N, if_true]
    have b : f_X5_most 57 v (p_m I P) = some (-nI 1, p_m I P) := by
      unfold f_X5_most
      simp (disch := omega) only [p_N, m_ei0 _ hv, p_b, if_true]
    exact q_ask hO hC hM a p_same.rf b m_keep.rf
/-! manners foreseen -/
theorem c_tt {w : Nat} (hw : w < 3) (k : Int32 → z_R) : z_tl 0 (nI w) k = k (nI (q_t (w + 1))) := by
  rw [p_tl (t := 0) (i := w) hw, show z_tb 0 w = nI (q_t (w + 1)) by rcases (show w = 0 ∨ w = 1 ∨ w = 2 by omega) with rfl | rfl | rfl <;> rfl]
theorem c_facing (h : c_B I P s q g) {i mn t : Nat} (hi : i < q.1) (hm : mn < 3) (ht : t < 4) : f_X4_facingBy 0 (nI i) (nI mn) (nI t) (p_m I P) = some (nI ((g.1 i + q_tb mn t (q_t g.2.2.2.2.1)) % 4), p_m I P) := by
  have hx := h.x
  have h8 := h.2.2.1.2.1
  have hfc := (h.2.2.2.1.1 i hi).1
  have ha := q_t4 g.2.2.2.2.1
  have hb : q_tb mn t (q_t g.2.2.2.2.1) ≤ 4 := by unfold q_tb; split <;> (try split) <;> omega
  unfold f_X4_facingBy
  simp (disch := omega) only [p_Q h.1, p_G, p_L, hx, c_turnBy hm ht, p_b, p_N, p_A, p_mo]
def q_mf (q : q_Q) (g : q_G) (i : Nat) : Nat := q_mn q (q_ld q g i) (q_ef q (q_ld q g i))
theorem c_mnL (h : c_B I P s q g) : ∀ (f i : Nat) (I : Nat → Nat → Int32), c_B I P s q g → (∀ j, j < q.1 → I 54 j = nI (q_ld q g j)) → i ≤ q.1 → q.1 - i < f → (∀ j, j < i → I 55 j = nI (q_mf q g j)) → ∃ I', f_X4_findManners_L6 f 0 (nI i) (p_m I P) = some (nI 0, p_m I' P) ∧ p_same (fun a => a = 55) I I' ∧ ∀ j, j < q.1 → I' 55 j = nI (q_mf q g j) := by
  intro f
  induction f with
  | zero => intro i I _ _ _ h; omega
  | succ f ih =>
    intro i I h hL hi hf hm
    have hx := h.x
    have h8 := h.2.2.1.2.1
    unfold f_X4_findManners_L6 f_X4_findManners_L52
    simp (disch := omega) only [c_sq1 h.2.1, c_sqI h.2.1, p_N, hx, p_A]
    by_cases h1 : q.1 ≤ i
    · rw [if_pos h1]
      exact ⟨I, rfl, p_same.rf, fun j hj => hm j (by omega)⟩
    · rw [if_neg h1]
      have hin : i < q.1 := by omega
      have hl := q_ld_lt h.2.2.2.1 h.2.2.1 hin
      have her := (h.2.2.1.2.2.2 _ hl).2.2
      have K : ∃ I', f_X4_findManners_L6 f 0 (nI (i + 1)) (p_m (p_w I 55 i (nI (q_mf q g i))) P) = some (nI 0, p_m I' P) ∧ p_same (fun a => a = 55) I I' ∧ ∀ j, j < q.1 → I' 55 j = nI (q_mf q g j) := by
        obtain ⟨I', a1, a2, a3⟩ := ih (i + 1) (p_w I 55 i (nI (q_mf q g i))) (h.keep (p_same.rf.w (by unfold q_scr; omega))) (fun j hj => by rw [p_w_ne (Or.inl (by omega))]; exact hL j hj) (by omega) (by omega) (fun j hj => by
          by_cases e : j = i
          · subst e; rw [p_w_eq]
          · rw [p_w_ne (Or.inr e)]; exact hm j (by omega))
        exact ⟨I', a1, (p_same.rf.o).tr a2, a3⟩
      have e0 := c_manner h.k hl false
      have e1 := c_manner h.k hl true
      simp only [if_true, Bool.false_eq_true, if_false] at e0 e1
      simp (disch := omega) only [p_Q h.1, p_L, hL i hin, hx, c_sqP h.2.1 h.1, c_sqA h.2.1, p_A, p_C]
      have hmf : q_mf q g i = q_mn q (q_ld q g i) (q_ef q (q_ld q g i)) := rfl
      unfold q_ef at hmf
      by_cases hc : q.2.2.2.2 (q_ld q g i) < 5
      · rw [if_pos hc, e0]
        simp (disch := omega) only [p_b, p_S, p_A]
        rw [show decide (5 ≤ q.2.2.2.2 (q_ld q g i)) = false by simp; omega] at hmf
        rw [← hmf]
        exact K
      · rw [if_neg hc, e1]
        simp (disch := omega) only [p_b, p_S, p_A]
        rw [show decide (5 ≤ q.2.2.2.2 (q_ld q g i)) = true by simp; omega] at hmf
        rw [← hmf]
        exact K
theorem c_manners (h : c_B I P s q g) : ∃ I', f_X4_findManners 0 (p_m I P) = some (nI 0, p_m I' P) ∧ p_same (fun a => a = 54 ∨ a = 55) I I' ∧ ∀ j, j < q.1 → I' 55 j = nI (q_mf q g j) := by
  have h8 := h.2.2.1.2.1
  obtain ⟨I1, a1, a2, a3⟩ := c_leaders h
  obtain ⟨I2, b1, b2, b3⟩ := c_mnL h 400 0 I1 (h.keep (a2.mono (fun a ha => by unfold q_scr; omega))) a3 (by omega) (by omega) (fun j hj => absurd hj (Nat.not_lt_zero j))
  refine ⟨I2, ?_, (a2.mono (fun a ha => Or.inl ha)).tr (b2.mono (fun a ha => Or.inr ha)), b3⟩
  unfold f_X4_findManners
  simp (disch := omega) only [p_C, a1, p_b]
  exact b1
/-- where a man faces after a word, as foreseen -/
def q_fs (q : q_Q) (g : q_G) (i w : Nat) : Nat := (g.1 i + q_tb (q_mf q g i) (q_t (w + 1)) (q_t g.2.2.2.2.1)) % 4
theorem c_foreseen (h : c_B I P s q g) (hm : ∀ j, j < q.1 → I 55 j = nI (q_mf q g j)) {i w : Nat} (hi : i < q.1) (hw : w < 3) : f_X4_facingForeseen 0 (nI i) (nI w) (p_m I P) = some (nI (q_fs q g i w), p_m I P) := by
  have h8 := h.2.2.1.2.1
  unfold f_X4_facingForeseen
  simp (disch := omega) only [p_Q h.1, p_L, hm i hi, c_tt hw, p_C, c_facing h hi (q_mn3 q _ _) (q_t4 (w + 1)), q_mf, p_b]
  rfl
theorem m_foreseen (h : m_B I P q g) {i w : Nat} (hi : i < q.1) (hw : w < 3) : f_X5_turn 57 (nI i) (nI w) (p_m I P) = some (nI (q_fs q g i w), p_m I P) := by
  have hx := h.x
  have h8 := h.2.1.2.1
  have hfc := (h.2.2.1.1 i hi).1
  obtain ⟨e, he, e1, e2⟩ := m_errs h 1 (by omega)
  have hl := q_ld_lt h.2.2.1 h.2.1 hi
  have h3 := e2 _ hl
  rw [if_pos rfl] at h3
  have ht : q_tw q g w (fun a => e.testBit a) i = q_tb (q_mf q g i) (q_t (w + 1)) (q_t g.2.2.2.2.1) := by
    unfold q_tw q_mf
    rw [h3]
  have hlt := q_tw_lt q g w (fun a => e.testBit a) i
  rw [ht] at hlt
  unfold f_X5_turn
  simp (disch := omega) only [p_C, m_man1 h.1 hx.1.1 h8 hi, m_word1, p_b, p_N, p_A, p_tf, if_false, p_Q h.1, p_L, hx, e1, m_turnBy h hi hw he, ht, p_mo]
  rfl
theorem o_turn (hO : q_O A) (hC : q_C I P s d pl A) (hM : q_M I A) (v w : Int32) : q_T (f_X4_turn 0 v w (p_m I P)) (f_X5_turn 57 v w) := by
  have hB := hC.b hO
  have mB := hM.b hC.1 hO
  have hx := hB.x
  have hy := mB.x
  have h8 := hO.1.2.1
  have h1 := hO.1.1
  have hs := hC.2.1.1
  by_cases hv : q_is v A.1.1
  · obtain ⟨i, hi, rfl⟩ := q_is_nI hv (by omega)
    by_cases hw : q_is w 3
    · obtain ⟨w, hw3, rfl⟩ := q_is_nI hw (by omega)
      obtain ⟨I1, a1, a2, a3⟩ := c_manners hB
      have hsc : p_same q_scr I I1 := a2.mono (fun a ha => by unfold q_scr; omega)
      have hB1 := hB.keep hsc
      have mB1 := mB.keep a2 (fun a ha => by omega)
      have a : f_X4_turn 0 (nI i) (nI w) (p_m I P) = some (nI (q_fs A.1 A.2.1 i w), p_m I1 P) := by
        unfold f_X4_turn
        simp (disch := omega) only [p_C, c_man1 hs hx.1.1 h8 hi, c_word1, p_b, p_N, p_A, p_tf, if_false, a1, c_foreseen hB1 a3 hi hw3]
      have b : f_X5_turn 57 (nI i) (nI w) (p_m I1 P) = some (nI (q_fs A.1 A.2.1 i w), p_m I1 P) := m_foreseen mB1 hi hw3
      exact q_ask hO hC hM a hsc b m_keep.rf
    · have a : f_X4_turn 0 (nI i) w (p_m I P) = some (-nI 1, p_m I P) := by
        unfold f_X4_turn
        simp (disch := omega) only [p_C, c_man1 hs hx.1.1 h8 hi, c_word0 _ hw, p_b, p_N, p_A, p_tf, if_false, if_true]
      have b : f_X5_turn 57 (nI i) w (p_m I P) = some (-nI 1, p_m I P) := by
        unfold f_X5_turn
        simp (disch := omega) only [p_C, m_man1 hC.1 hy.1.1 h8 hi, m_word0 _ hw, p_b, p_N, p_A, p_tf, if_false, if_true]
      exact q_ask hO hC hM a p_same.rf b m_keep.rf
  · have a : f_X4_turn 0 v w (p_m I P) = some (-nI 1, p_m I P) := by
      unfold f_X4_turn
      simp (disch := omega) only [p_C, c_man0 hs hx.1.1 h8 hv, p_b, p_N, if_true]
    have b : f_X5_turn 57 v w (p_m I P) = some (-nI 1, p_m I P) := by
      unfold f_X5_turn
      simp (disch := omega) only [p_C, m_man0 hC.1 hy.1.1 h1 h8 hv, p_b, p_N, if_true]
    exact q_ask hO hC hM a p_same.rf b m_keep.rf
end
end
section
/-! WHICH WORD -/
section
variable {I : Nat → Nat → Int32} {P : Nat → Nat → Option Nat} {s d : Nat} {pl : Nat → Nat} {A : q_S} {q : q_Q} {g : q_G}
theorem c_whL (h : c_B I P s q g) (hm : ∀ j, j < q.1 → I 55 j = nI (q_mf q g j)) {i k : Nat} (hi : i < q.1) (hk : k < 4) : ∀ (f w : Nat), w ≤ 3 → 3 - w < f → f_X4_which_L28 f 0 (nI i) (nI k) (nI (q_or (fun w => decide (q_fs q g i w = k)) 0 w)) (nI w) (p_m I P) = some (nI (q_or (fun w => decide (q_fs q g i w = k)) 0 3), p_m I P) := by
  intro f
  induction f with
  | zero => intro i _ h; omega
  | succ f ih =>
    intro w hw hf
    have h8 := h.2.2.1.2.1
    unfold f_X4_which_L28 f_X4_which_L52 z_lt
    simp (disch := omega) only [p_N, p_A]
    by_cases h1 : 3 ≤ w
    · rw [if_pos h1, show w = 3 by omega]
    · rw [if_neg h1]
      have hlt : q_fs q g i w < 4 := Nat.mod_lt _ (by decide)
      have ih1 := ih (w + 1) (by omega) (by omega)
      rw [show q_or (fun w => decide (q_fs q g i w = k)) 0 (w + 1) = if decide (q_fs q g i w = k) = true then q_or (fun w => decide (q_fs q g i w = k)) 0 w ||| 2 ^ w else q_or (fun w => decide (q_fs q g i w = k)) 0 w from rfl] at ih1
      simp (disch := omega) only [p_C, c_foreseen h hm hi (show w < 3 by omega), p_b, p_A, p_sh, p_or]
      by_cases hc : q_fs q g i w = k
      · rw [if_pos hc]
        rw [if_pos (by simp [hc])] at ih1
        exact ih1
      · rw [if_neg hc]
        rw [if_neg (by simp [hc])] at ih1
        exact ih1
theorem m_whL (h : m_B I P q g) {i k : Nat} (hi : i < q.1) (hk : k < 4) : ∀ (f w : Nat), w ≤ 3 → 3 - w < f → f_X5_which_L24 f 57 (nI i) (nI k) (nI (q_or (fun w => decide (q_fs q g i w = k)) 0 w)) (nI w) (p_m I P) = some (nI (q_or (fun w => decide (q_fs q g i w = k)) 0 3), p_m I P) := by
  intro f
  induction f with
  | zero => intro i _ h; omega
  | succ f ih =>
    intro w hw hf
    unfold f_X5_which_L24 f_X5_which_L50 z_lt
    simp (disch := omega) only [p_N, p_A]
    by_cases h1 : 3 ≤ w
    · rw [if_pos h1, show w = 3 by omega]
    · rw [if_neg h1]
      have hlt : q_fs q g i w < 4 := Nat.mod_lt _ (by decide)
      have ih1 := ih (w + 1) (by omega) (by omega)
      rw [show q_or (fun w => decide (q_fs q g i w = k)) 0 (w + 1) = if decide (q_fs q g i w = k) = true then q_or (fun w => decide (q_fs q g i w = k)) 0 w ||| 2 ^ w else q_or (fun w => decide (q_fs q g i w = k)) 0 w from rfl] at ih1
      simp (disch := omega) only [p_C, m_foreseen h hi (show w < 3 by omega), p_b, p_A, p_sh, p_or, Nat.or_zero]
      by_cases hc : q_fs q g i w = k
      · rw [if_pos hc]
        rw [if_pos (by simp [hc])] at ih1
        exact ih1
      · rw [if_neg hc]
        rw [if_neg (by simp [hc])] at ih1
        exact ih1
theorem o_which (hO : q_O A) (hC : q_C I P s d pl A) (hM : q_M I A) (v w : Int32) : q_T (f_X4_which 0 v w (p_m I P)) (f_X5_which 57 v w) := by
  have hB := hC.b hO
  have mB := hM.b hC.1 hO
  have hx := hB.x
  have hy := mB.x
  have h8 := hO.1.2.1
  have h1 := hO.1.1
  have hs := hC.2.1.1
  by_cases hv : q_is v A.1.1
  · obtain ⟨i, hi, rfl⟩ := q_is_nI hv (by omega)
    by_cases hw : q_is w 4
    · obtain ⟨w, hw3, rfl⟩ := q_is_nI hw (by omega)
      obtain ⟨I1, a1, a2, a3⟩ := c_manners hB
      have hsc : p_same q_scr I I1 := a2.mono (fun a ha => by unfold q_scr; omega)
      have hB1 := hB.keep hsc
      have mB1 := mB.keep a2 (fun a ha => by omega)
      have hy1 := mB1.x
      obtain ⟨F, hF⟩ : ∃ F : Nat, 400 = F := ⟨_, rfl⟩
      have c1 := c_whL hB1 a3 hi hw3 F 0 (by omega) (by omega)
      have d1 := m_whL mB1 hi hw3 F 0 (by omega) (by omega)
      have e0 : (w < 0) = False := eq_false (by omega)
      have e4 : (w < 4) = True := eq_true hw3
      have e1 : ∃ r, f_X4_which 0 (nI i) (nI w) (p_m I P) = some (r, p_m I1 P) ∧ f_X5_which 57 (nI i) (nI w) (p_m I1 P) = some (r, p_m I1 P) := by
        unfold f_X4_which f_X5_which
        rw [hF]
        simp (disch := omega) only [p_C, c_man1 hs hx.1.1 h8 hi, m_man1 hC.1 hy1.1.1 h8 hi, m_in1, p_b, p_N, p_A, p_tf, e0, e4, if_true, if_false, a1]
        exact ⟨_, c1, d1⟩
      obtain ⟨r, a, b⟩ := e1
      exact q_ask hO hC hM a hsc b m_keep.rf
    · have a : f_X4_which 0 (nI i) w (p_m I P) = some (-nI 1, p_m I P) := by
        unfold f_X4_which
        simp (disch := omega) only [p_C, c_man1 hs hx.1.1 h8 hi, p_b, p_N, p_A, p_tf, if_false]
        rcases q_is_lt hw (by omega) with hlt | hlt
        · rw [if_pos hlt]
        · by_cases h0 : w < nI 0
          · rw [if_pos h0]
          · rw [if_neg h0, if_neg]
            rw [Int32.le_iff_toInt_le] at hlt
            rw [Int32.lt_iff_toInt_lt]
            omega
      have b : f_X5_which 57 (nI i) w (p_m I P) = some (-nI 1, p_m I P) := by
        unfold f_X5_which
        have h0 := m_in0 (v := w) (lo := 0) (hi := 3) (p_m I P) (Or.inl hw) (by omega) (by omega)
        simp (disch := omega) only [p_C, m_man1 hC.1 hy.1.1 h8 hi, h0, p_b, p_N, p_A, p_tf, if_false, if_true]
      exact q_ask hO hC hM a p_same.rf b m_keep.rf
  · have a : f_X4_which 0 v w (p_m I P) = some (-nI 1, p_m I P) := by
      unfold f_X4_which
      simp (disch := omega) only [p_C, c_man0 hs hx.1.1 h8 hv, p_b, p_N, if_true]
    have b : f_X5_which 57 v w (p_m I P) = some (-nI 1, p_m I P) := by
      unfold f_X5_which
      simp (disch := omega) only [p_C, m_man0 hC.1 hy.1.1 h1 h8 hv, p_b, p_N, if_true]
    exact q_ask hO hC hM a p_same.rf b m_keep.rf
end
end
section
/-! LOWEST TERMS -/
theorem q_half {a b j : Nat} (hb : 0 < b) (hr : 0 < a % b) (h : b < 2 ^ (j + 1)) : b % (a % b) < 2 ^ j := by
  have h1 : a % b < b := Nat.mod_lt _ hb
  have h2 : b % (a % b) < a % b := Nat.mod_lt _ hr
  have h3 := Nat.div_add_mod b (a % b)
  have h4 : 1 ≤ b / (a % b) := Nat.div_pos (Nat.le_of_lt h1) hr
  have h5 : a % b ≤ (a % b) * (b / (a % b)) := Nat.le_mul_of_pos_right _ h4
  have h6 : 2 ^ (j + 1) = 2 * 2 ^ j := by rw [Nat.pow_succ, Nat.mul_comm]
  omega
theorem c_gcL (m : z_M) : ∀ (j f a b k : Nat), a < 2147483648 → b < 2147483648 → b < 2 ^ j → k + 2 * j ≤ 64 → 2 * j < f → f_X4_commonDivisor_L7 f (nI a) (nI b) (nI k) m = some (nI (Nat.gcd a b), m) := by
  have Z : ∀ (f a k : Nat), 0 < f → k ≤ 64 → f_X4_commonDivisor_L7 f (nI a) (nI 0) (nI k) m = some (nI (Nat.gcd a 0), m) := by
    intro f a k hf hk
    obtain ⟨f, rfl⟩ : ∃ f', f = f' + 1 := ⟨f - 1, by omega⟩
    unfold f_X4_commonDivisor_L7
    rw [Nat.gcd_zero_right]
    simp only [p_N, if_true]
    split <;> rfl
  have S : ∀ (f a b k : Nat), a < 2147483648 → 0 < b → b < 2147483648 → k < 64 → f_X4_commonDivisor_L7 (f + 1) (nI a) (nI b) (nI k) m = f_X4_commonDivisor_L7 f (nI b) (nI (a % b)) (nI (k + 1)) m := by
    intro f a b k ha h0 hb hk
    have e : (b = 0) = False := eq_false (by omega)
    rw [f_X4_commonDivisor_L7]
    unfold z_rm'
    have n64 : (64 : Int32) = nI 64 := rfl
    simp (disch := omega) only [n64, p_N, p_A, e, if_false, p_mo]
    rw [if_neg (by omega)]
  intro j
  induction j with
  | zero =>
    intro f a b k ha hb h1 h2 h3
    have : b = 0 := by have : (2 : Nat) ^ 0 = 1 := rfl; omega
    subst this
    exact Z f a k (by omega) (by omega)
  | succ j ih =>
    intro f a b k ha hb h1 h2 h3
    by_cases hb0 : b = 0
    · subst hb0; exact Z f a k (by omega) (by omega)
    · obtain ⟨f, rfl⟩ : ∃ f', f = f' + 2 := ⟨f - 2, by omega⟩
      have hlt : a % b < b := Nat.mod_lt _ (by omega)
      rw [S (f + 1) a b k ha (by omega) hb (by omega)]
      by_cases hr : a % b = 0
      · rw [hr, Z _ _ _ (by omega) (by omega), Nat.gcd_comm a b, Nat.gcd_rec b a, hr, Nat.gcd_zero_right, Nat.gcd_zero_left]
      · have hlt2 : b % (a % b) < a % b := Nat.mod_lt _ (by omega)
        rw [S f b (a % b) (k + 1) hb (by omega) (by omega) (by omega), ih f (a % b) (b % (a % b)) (k + 1 + 1) (by omega) (by omega) (q_half (by omega) (by omega) h1) (by omega) (by omega)]
        rw [Nat.gcd_comm (a % b), ← Nat.gcd_rec, ← Nat.gcd_rec, Nat.gcd_comm]
theorem c_gcd (m : z_M) {a b : Nat} (ha : a < 2147483648) (hb : b < 2147483648) : f_X4_commonDivisor (nI a) (nI b) m = some (nI (Nat.gcd a b), m) := by
  unfold f_X4_commonDivisor
  exact c_gcL m 31 400 a b 0 ha hb (by omega) (by omega) (by omega)
theorem m_gcL (m : z_M) : ∀ (j f a b : Nat), a < 2147483648 → b < 2147483648 → b < 2 ^ j → 2 * j < f → f_X5_common_L4 f (nI a) (nI b) m = some (nI (Nat.gcd a b), m) := by
  have Z : ∀ (f a : Nat), 0 < f → f_X5_common_L4 f (nI a) (nI 0) m = some (nI (Nat.gcd a 0), m) := by
    intro f a hf
    obtain ⟨f, rfl⟩ : ∃ f', f = f' + 1 := ⟨f - 1, by omega⟩
    unfold f_X5_common_L4
    rw [Nat.gcd_zero_right]
    simp (disch := omega) only [p_N, p_A]
    rw [if_pos (by omega)]
  have S : ∀ (f a b : Nat), a < 2147483648 → 0 < b → b < 2147483648 → f_X5_common_L4 (f + 1) (nI a) (nI b) m = f_X5_common_L4 f (nI b) (nI (a % b)) m := by
    intro f a b ha h0 hb
    have e : (b = 0) = False := eq_false (by omega)
    rw [f_X5_common_L4]
    unfold z_rm'
    simp (disch := omega) only [p_N, p_A, e, if_false, p_mo]
    rw [if_neg (by omega)]
  intro j
  induction j with
  | zero =>
    intro f a b ha hb h1 h3
    have : b = 0 := by have : (2 : Nat) ^ 0 = 1 := rfl; omega
    subst this
    exact Z f a (by omega)
  | succ j ih =>
    intro f a b ha hb h1 h3
    by_cases hb0 : b = 0
    · subst hb0; exact Z f a (by omega)
    · obtain ⟨f, rfl⟩ : ∃ f', f = f' + 2 := ⟨f - 2, by omega⟩
      have hlt : a % b < b := Nat.mod_lt _ (by omega)
      rw [S (f + 1) a b ha (by omega) hb]
      by_cases hr : a % b = 0
      · rw [hr, Z _ _ (by omega), Nat.gcd_comm a b, Nat.gcd_rec b a, hr, Nat.gcd_zero_right, Nat.gcd_zero_left]
      · have hlt2 : b % (a % b) < a % b := Nat.mod_lt _ (by omega)
        rw [S f b (a % b) hb (by omega) (by omega), ih f (a % b) (b % (a % b)) (by omega) (by omega) (q_half (by omega) (by omega) h1) (by omega)]
        rw [Nat.gcd_comm (a % b), ← Nat.gcd_rec, ← Nat.gcd_rec, Nat.gcd_comm]
theorem m_gcd (m : z_M) {a b : Nat} (ha : a < 2147483648) (hb : b < 2147483648) : f_X5_common (nI a) (nI b) m = some (nI (Nat.gcd a b), m) := by
  unfold f_X5_common
  exact m_gcL m 31 400 a b ha hb (by omega) (by omega)
theorem c_part (m : z_M) {a b z : Nat} (ha : a < 2147483648) (h0 : 0 < b) (hb : b < 2147483648) (hz : z < 2) : f_X4_partInLowestTerms (nI a) (nI b) (nI z) m = some (nI ((if z = 0 then a else b) / Nat.gcd a b), m) := by
  have g0 : 0 < Nat.gcd a b := Nat.gcd_pos_of_pos_right a h0
  have g1 : Nat.gcd a b ≤ b := Nat.gcd_le_right a h0
  have e : (Nat.gcd a b = 0) = False := eq_false (by omega)
  have e' : (Nat.gcd a b ≤ 0) = False := eq_false (by omega)
  unfold f_X4_partInLowestTerms f_X4_partInLowestTerms_L15 z_dv
  simp (disch := omega) only [c_gcd m ha hb, p_b, p_N, p_A, e, e', if_false, p_di]
  split <;> rfl
end
section
/-! HOW LIKELY A MAN COMES RIGHT -/
section
variable {I : Nat → Nat → Int32} {P : Nat → Nat → Option Nat} {s d : Nat} {pl : Nat → Nat} {A : q_S} {q : q_Q} {g : q_G}
abbrev q_ch (q : q_Q) (a : Nat) : Prop := q.2.2.1 a = 1 ∨ q.2.2.1 a = 2
def q_ways (q : q_Q) (a mn : Nat) : Nat := if q_ch q a then (if mn = 1 then q.2.2.2.2 a else if mn = 0 then 10 - q.2.2.2.2 a else 0) else (if mn = q_mn q a false then 1 else 0)
theorem q_ways_le {q : q_Q} (hq : q_ok q) {a mn : Nat} (ha : a < q.1) : q_ways q a mn ≤ 10 := by
  have := (hq.2.2.2 a ha).2.2
  unfold q_ways
  split <;> split <;> (try split) <;> omega
theorem c_ways (h : c_B I P s q g) {a mn : Nat} (ha : a < q.1) (hm : mn < 3) : f_X4_waysOfManner 0 (nI a) (nI mn) (p_m I P) = some (nI (q_ways q a mn), p_m I P) := by
  have hx := h.x
  have h8 := h.2.2.1.2.1
  have her := (h.2.2.1.2.2.2 a ha).2.2
  have e0 := c_manner h.k ha false
  have em := q_mn3 q a false
  simp only [Bool.false_eq_true, if_false] at e0
  unfold f_X4_waysOfManner q_ways
  simp (disch := omega) only [p_C, c_chancy h.k ha, p_b, p_N]
  by_cases hc : q_ch q a
  · rw [if_pos hc, if_pos hc]
    simp (disch := omega) only [p_A, p_tf, if_false, c_sq1 h.2.1, c_sqP h.2.1 h.1, c_sqA h.2.1, hx, p_sb]
    split
    · rfl
    · split <;> rfl
  · rw [if_neg hc, if_neg hc]
    simp (disch := omega) only [p_A, p_tf, if_true, e0, p_b]
    split <;> rfl
theorem c_toTurn (h : c_B I P s q g) {a : Nat} (ha : a < q.1) : f_X4_waysToTurn 0 (nI a) (p_m I P) = some (nI (if q_ch q a then 10 else 1), p_m I P) := by
  unfold f_X4_waysToTurn
  simp (disch := omega) only [p_C, c_chancy h.k ha, p_b, p_N]
  by_cases hc : q_ch q a
  · rw [if_pos hc, if_pos hc, if_neg (by decide)]
  · rw [if_neg hc, if_neg hc, if_pos (by decide)]
/-- the ways that bring man i to the facing D -/
def q_rt (q : q_Q) (g : q_G) (i t D mn : Nat) : Nat := if (g.1 i + q_tb mn t (q_t g.2.2.2.2.1)) % 4 = D then q_ways q (q_ld q g i) mn else 0
def q_rs (q : q_Q) (g : q_G) (i t D : Nat) : Nat → Nat
  | 0 => 0
  | k + 1 => q_rs q g i t D k + q_rt q g i t D k
theorem c_rtL (h : c_B I P s q g) (hL : ∀ j, j < q.1 → I 54 j = nI (q_ld q g j)) {i t D z : Nat} (hi : i < q.1) (ht : t < 4) (hD : D < 4) (hz : z < 2) : ∀ (f k : Nat), k ≤ 3 → 3 - k < f → q_rs q g i t D k ≤ 10 * k → f_X4_right_L57 f 0 (nI i) (nI z) (nI t) (nI D) (nI (q_rs q g i t D k)) (nI k) (p_m I P) = some (nI ((if z = 0 then q_rs q g i t D 3 else (if q_ch q (q_ld q g i) then 10 else 1)) / Nat.gcd (q_rs q g i t D 3) (if q_ch q (q_ld q g i) then 10 else 1)), p_m I P) := by
  intro f
  induction f with
  | zero => intro k _ h; omega
  | succ f ih =>
    intro k hk hf hb
    have hx := h.x
    have h8 := h.2.2.1.2.1
    have hl := q_ld_lt h.2.2.2.1 h.2.2.1 hi
    unfold f_X4_right_L57 f_X4_right_L94 z_lt
    simp (disch := omega) only [p_N, p_A]
    by_cases h1 : 3 ≤ k
    · rw [if_pos h1]
      have hk3 : k = 3 := by omega
      subst hk3
      have ht0 : 0 < (if q_ch q (q_ld q g i) then 10 else 1) := by split <;> omega
      have ht1 : (if q_ch q (q_ld q g i) then 10 else 1) < 2147483648 := by split <;> omega
      simp (disch := omega) only [p_Q h.1, p_L, hL i hi, p_C, c_toTurn h hl, p_b, c_part _ (show q_rs q g i t D 3 < 2147483648 by omega) ht0 ht1 hz]
    · rw [if_neg h1]
      have hw := q_ways_le (mn := k) h.2.2.1 hl
      have hlt : (g.1 i + q_tb k t (q_t g.2.2.2.2.1)) % 4 < 4 := Nat.mod_lt _ (by decide)
      have hrt : q_rt q g i t D k = if (g.1 i + q_tb k t (q_t g.2.2.2.2.1)) % 4 = D then q_ways q (q_ld q g i) k else 0 := rfl
      have hsx : q_rs q g i t D (k + 1) = q_rs q g i t D k + q_rt q g i t D k := rfl
      simp (disch := omega) only [p_C, c_facing h hi (show k < 3 by omega) ht, p_b, p_A, p_Q h.1, p_L, hL i hi, c_ways h hl (show k < 3 by omega)]
      by_cases hc : (g.1 i + q_tb k t (q_t g.2.2.2.2.1)) % 4 = D
      · rw [if_pos hc]
        rw [if_pos hc] at hrt
        have ih1 := ih (k + 1) (by omega) (by omega) (by omega)
        rw [hsx, hrt] at ih1
        exact ih1
      · rw [if_neg hc]
        rw [if_neg hc] at hrt
        have ih1 := ih (k + 1) (by omega) (by omega) (by omega)
        rw [hsx, hrt] at ih1
        exact ih1
end
end
section
/-! .. AND THE REFERENCE -/
section
variable {I : Nat → Nat → Int32} {P : Nat → Nat → Option Nat} {s d : Nat} {pl : Nat → Nat} {A : q_S} {q : q_Q} {g : q_G}
theorem m_part (m : z_M) {x z : Nat} (hx : x ≤ 20) (hz : z < 2) : (z_b (f_X5_common (nI x) (nI 10) m) fun x2 m3 => if nI z = nI 0 then (z_dv (nI x) x2 fun x5 => some (x5, m3)) else (z_dv (nI 10) x2 fun x4 => some (x4, m3))) = some (nI ((if z = 0 then x else 10) / Nat.gcd x 10), m) := by
  have g0 : 0 < Nat.gcd x 10 := Nat.gcd_pos_of_pos_right x (by omega)
  have g1 : Nat.gcd x 10 ≤ 10 := Nat.gcd_le_right x (by omega)
  have e : (Nat.gcd x 10 = 0) = False := eq_false (by omega)
  unfold z_dv
  simp (disch := omega) only [m_gcd m (show x < 2147483648 by omega) (show 10 < 2147483648 by omega), p_b, p_N, p_A, e, if_false, p_di]
  split <;> rfl
theorem q_rt_eq {i t D z : Nat} (hq : q_ok q) (hi : q_ld q g i < q.1) :
    (if z = 0 then q_rs q g i t D 3 else (if q_ch q (q_ld q g i) then 10 else 1)) / Nat.gcd (q_rs q g i t D 3) (if q_ch q (q_ld q g i) then 10 else 1)
    = (if z = 0 then ((if (g.1 i + q_tb (q_mn q (q_ld q g i) false) t (q_t g.2.2.2.2.1)) % 4 = D then 10 - (if q_ch q (q_ld q g i) then q.2.2.2.2 (q_ld q g i) else 0) else 0) + (if (g.1 i + q_tb (q_mn q (q_ld q g i) true) t (q_t g.2.2.2.2.1)) % 4 = D then (if q_ch q (q_ld q g i) then q.2.2.2.2 (q_ld q g i) else 0) else 0)) else 10) / Nat.gcd ((if (g.1 i + q_tb (q_mn q (q_ld q g i) false) t (q_t g.2.2.2.2.1)) % 4 = D then 10 - (if q_ch q (q_ld q g i) then q.2.2.2.2 (q_ld q g i) else 0) else 0) + (if (g.1 i + q_tb (q_mn q (q_ld q g i) true) t (q_t g.2.2.2.2.1)) % 4 = D then (if q_ch q (q_ld q g i) then q.2.2.2.2 (q_ld q g i) else 0) else 0)) 10 := by
  have hk := (hq.2.2.2 _ hi).1
  have hrs : q_rs q g i t D 3 = q_rt q g i t D 0 + q_rt q g i t D 1 + q_rt q g i t D 2 := by
    show ((0 + q_rt q g i t D 0) + q_rt q g i t D 1) + q_rt q g i t D 2 = _
    rw [Nat.zero_add]
  rw [hrs]
  unfold q_rt
  by_cases hc : q_ch q (q_ld q g i)
  · have m0 : q_mn q (q_ld q g i) false = 0 := by unfold q_mn; rw [if_neg (by unfold q_ch at hc; omega), if_neg (by simp)]
    have m1 : q_mn q (q_ld q g i) true = 1 := by unfold q_mn; rw [if_neg (by unfold q_ch at hc; omega), if_pos ⟨hc, rfl⟩]
    have w0 : q_ways q (q_ld q g i) 0 = 10 - q.2.2.2.2 (q_ld q g i) := by unfold q_ways; rw [if_pos hc]; rfl
    have w1 : q_ways q (q_ld q g i) 1 = q.2.2.2.2 (q_ld q g i) := by unfold q_ways; rw [if_pos hc]; rfl
    have w2 : q_ways q (q_ld q g i) 2 = 0 := by unfold q_ways; rw [if_pos hc]; rfl
    simp only [if_pos hc, m0, m1, w0, w1, w2, ite_self, Nat.add_zero]
  · have m0 : q_mn q (q_ld q g i) true = q_mn q (q_ld q g i) false := by unfold q_mn; rw [if_neg (c := _ ∧ true = true) (fun z => hc z.1), if_neg (c := _ ∧ false = true) (fun z => hc z.1)]
    have w : ∀ k, q_ways q (q_ld q g i) k = if k = q_mn q (q_ld q g i) false then 1 else 0 := fun k => by unfold q_ways; rw [if_neg hc]
    have hm := q_mn3 q (q_ld q g i) false
    simp only [if_neg hc, m0, w, ite_self, Nat.sub_zero, Nat.add_zero]
    generalize q_mn q (q_ld q g i) false = mn at hm ⊢
    by_cases hd : (g.1 i + q_tb mn t (q_t g.2.2.2.2.1)) % 4 = D
    · have e : ((if (g.1 i + q_tb 0 t (q_t g.2.2.2.2.1)) % 4 = D then if 0 = mn then 1 else 0 else 0) + (if (g.1 i + q_tb 1 t (q_t g.2.2.2.2.1)) % 4 = D then if 1 = mn then 1 else 0 else 0) + if (g.1 i + q_tb 2 t (q_t g.2.2.2.2.1)) % 4 = D then if 2 = mn then 1 else 0 else 0) = 1 := by
        rcases (show mn = 0 ∨ mn = 1 ∨ mn = 2 by omega) with rfl | rfl | rfl
        · simp [hd]
        · simp [hd]
        · simp [hd]
      rw [e, if_pos hd]
      split <;> rfl
    · have e : ((if (g.1 i + q_tb 0 t (q_t g.2.2.2.2.1)) % 4 = D then if 0 = mn then 1 else 0 else 0) + (if (g.1 i + q_tb 1 t (q_t g.2.2.2.2.1)) % 4 = D then if 1 = mn then 1 else 0 else 0) + if (g.1 i + q_tb 2 t (q_t g.2.2.2.2.1)) % 4 = D then if 2 = mn then 1 else 0 else 0) = 0 := by
        rcases (show mn = 0 ∨ mn = 1 ∨ mn = 2 by omega) with rfl | rfl | rfl
        · simp [hd]
        · simp [hd]
        · simp [hd]
      rw [e, if_neg hd]
      split <;> rfl
theorem m_right (h : m_B I P q g) {i w z : Nat} (hi : i < q.1) (hw : w < 3) (hz : z < 2) : f_X5_right 57 (nI i) (nI w) (nI z) (p_m I P) = some (nI ((if z = 0 then q_rs q g i (q_t (w + 1)) ((q_due q g i + q_t (w + 1)) % 4) 3 else (if q_ch q (q_ld q g i) then 10 else 1)) / Nat.gcd (q_rs q g i (q_t (w + 1)) ((q_due q g i + q_t (w + 1)) % 4) 3) (if q_ch q (q_ld q g i) then 10 else 1)), p_m I P) := by
  have hx := h.x
  have h8 := h.2.1.2.1
  have hfc := (h.2.2.1.1 i hi).1
  have hl := q_ld_lt h.2.2.1 h.2.1 hi
  have her := (h.2.1.2.2.2 _ hl).2.2
  have hdu : q_due q g i < 4 := Nat.mod_lt _ (by decide)
  have ht := q_t4 (w + 1)
  have b0 := m_turnBy h hi hw (show 0 < 256 by omega)
  have b1 := m_turnBy h hi hw (show 255 < 256 by omega)
  have l0 := q_tw_lt q g w (fun a => (0 : Nat).testBit a) i
  have l1 := q_tw_lt q g w (fun a => (255 : Nat).testBit a) i
  have t1 : ∀ a, a < 8 → (255 : Nat).testBit a = true := by decide
  have c0 : q_tw q g w (fun a => (0 : Nat).testBit a) i = q_tb (q_mn q (q_ld q g i) false) (q_t (w + 1)) (q_t g.2.2.2.2.1) := by unfold q_tw; simp only [Nat.zero_testBit]
  have c1 : q_tw q g w (fun a => (255 : Nat).testBit a) i = q_tb (q_mn q (q_ld q g i) true) (q_t (w + 1)) (q_t g.2.2.2.2.1) := by unfold q_tw; simp only [t1 _ (show q_ld q g i < 8 by omega)]
  rw [c0] at b0 l0
  rw [c1] at b1 l1
  rw [q_rt_eq h.2.1 hl]
  generalize q_tb (q_mn q (q_ld q g i) false) (q_t (w + 1)) (q_t g.2.2.2.2.1) = u0 at b0 l0 ⊢
  generalize q_tb (q_mn q (q_ld q g i) true) (q_t (w + 1)) (q_t g.2.2.2.2.1) = u1 at b1 l1 ⊢
  have hD : (q_due q g i + q_t (w + 1)) % 4 < 4 := Nat.mod_lt _ (by decide)
  generalize hDD : (q_due q g i + q_t (w + 1)) % 4 = D at hD ⊢
  have f0 : (g.1 i + u0) % 4 < 4 := Nat.mod_lt _ (by decide)
  have f1 : (g.1 i + u1) % 4 < 4 := Nat.mod_lt _ (by decide)
  have n255 : (255 : Int32) = nI 255 := rfl
  have K : ∀ E, E ≤ 10 → f_X5_right_L70 57 (nI i) (nI w) (nI z) (nI D) (nI E) (p_m I P) = some (nI ((if z = 0 then ((if (g.1 i + u0) % 4 = D then 10 - E else 0) + (if (g.1 i + u1) % 4 = D then E else 0)) else 10) / Nat.gcd ((if (g.1 i + u0) % 4 = D then 10 - E else 0) + (if (g.1 i + u1) % 4 = D then E else 0)) 10), p_m I P) := by
    intro E hE
    unfold f_X5_right_L70 f_X5_right_L102 f_X5_right_L135 z_lt
    simp (disch := omega) only [p_Q h.1, p_L, p_C, p_N, n255, b0, b1, p_b, hx, p_A, p_mo, p_sb]
    by_cases d0 : (g.1 i + u0) % 4 = D
    · by_cases d1 : (g.1 i + u1) % 4 = D
      · rw [if_pos d0, if_pos d1, if_pos d0, if_pos d1]
        have := m_part (p_m I P) (x := 10 - E + E) (z := z) (by omega) hz
        simpa (disch := omega) only [p_A] using this
      · rw [if_pos d0, if_neg d1, if_pos d0, if_neg d1]
        have := m_part (p_m I P) (x := 10 - E + 0) (z := z) (by omega) hz
        simpa (disch := omega) only [p_A] using this
    · by_cases d1 : (g.1 i + u1) % 4 = D
      · rw [if_neg d0, if_pos d1, if_neg d0, if_pos d1]
        have := m_part (p_m I P) (x := 0 + E) (z := z) (by omega) hz
        simpa (disch := omega) only [p_A] using this
      · rw [if_neg d0, if_neg d1, if_neg d0, if_neg d1]
        have := m_part (p_m I P) (x := 0 + 0) (z := z) (by omega) hz
        simpa (disch := omega) only [p_A] using this
  unfold f_X5_right z_lt
  simp (disch := omega) only [p_C, m_man1 h.1 hx.1.1 h8 hi, m_word1, m_ei1, p_b, p_N, p_A, p_tf, if_false, m_as h hi, m_due h hi, m_turnW hw, p_mo, hDD, m_may h hl]
  by_cases hc : q_ch q (q_ld q g i)
  · rw [if_pos hc, if_pos hc]
    simp (disch := omega) only [p_A, p_tf, if_false, p_Q h.1, p_L, hx]
    exact K _ her
  · rw [if_neg hc, if_neg hc]
    simp (disch := omega) only [p_A, p_tf, if_true]
    exact K 0 (by omega)
theorem o_right (hO : q_O A) (hC : q_C I P s d pl A) (hM : q_M I A) (v w u : Int32) : q_T (f_X4_right 0 v w u (p_m I P)) (f_X5_right 57 v w u) := by
  have hB := hC.b hO
  have mB := hM.b hC.1 hO
  have hx := hB.x
  have hy := mB.x
  have h8 := hO.1.2.1
  have h1 := hO.1.1
  have hs := hC.2.1.1
  by_cases hv : q_is v A.1.1
  · obtain ⟨i, hi, rfl⟩ := q_is_nI hv (by omega)
    by_cases hw : q_is w 3
    · obtain ⟨w, hw3, rfl⟩ := q_is_nI hw (by omega)
      by_cases hu : q_is u 2
      · obtain ⟨z, hz, rfl⟩ := q_is_nI hu (by omega)
        obtain ⟨I1, a1, a2, a3⟩ := c_leaders hB
        have hsc : p_same q_scr I I1 := a2.mono (fun a ha => by unfold q_scr; omega)
        have hB1 := hB.keep hsc
        have mB1 := mB.keep a2 (fun a ha => by omega)
        have hdu : q_due A.1 A.2.1 i < 4 := Nat.mod_lt _ (by decide)
        have ht := q_t4 (w + 1)
        obtain ⟨F, hF⟩ : ∃ F : Nat, 400 = F := ⟨_, rfl⟩
        have c1 := c_rtL hB1 a3 (D := (q_due A.1 A.2.1 i + q_t (w + 1)) % 4) hi ht (Nat.mod_lt _ (by decide)) hz F 0 (by omega) (by omega) (by show 0 ≤ 10 * 0; omega)
        have e1 : ∃ r, f_X4_right 0 (nI i) (nI w) (nI z) (p_m I P) = some (r, p_m I1 P) ∧ f_X5_right 57 (nI i) (nI w) (nI z) (p_m I1 P) = some (r, p_m I1 P) := by
          rw [m_right mB1 hi hw3 hz]
          unfold f_X4_right z_lt
          rw [hF]
          simp (disch := omega) only [p_C, c_man1 hs hx.1.1 h8 hi, c_word1, c_ei1, p_b, p_N, p_A, p_tf, if_false, a1, c_tt hw3, p_Q hC.1, c_due (Or.inl rfl) hB1.k hB1.2.2.2.2.2 hO.2.1.1 hi, p_mo]
          exact ⟨_, c1, rfl⟩
        obtain ⟨r, a, b⟩ := e1
        exact q_ask hO hC hM a hsc b m_keep.rf
      · have a : f_X4_right 0 (nI i) (nI w) u (p_m I P) = some (-nI 1, p_m I P) := by
          unfold f_X4_right
          simp (disch := omega) only [p_C, c_man1 hs hx.1.1 h8 hi, c_word1, c_ei0 _ hu, p_b, p_N, p_A, p_tf, if_false, if_true]
        have b : f_X5_right 57 (nI i) (nI w) u (p_m I P) = some (-nI 1, p_m I P) := by
          unfold f_X5_right
          simp (disch := omega) only [p_C, m_man1 hC.1 hy.1.1 h8 hi, m_word1, p_N, m_ei0 _ hu, p_b, p_A, p_tf, if_false, if_true]
        exact q_ask hO hC hM a p_same.rf b m_keep.rf
    · have a : f_X4_right 0 (nI i) w u (p_m I P) = some (-nI 1, p_m I P) := by
        unfold f_X4_right
        simp (disch := omega) only [p_C, c_man1 hs hx.1.1 h8 hi, c_word0 _ hw, p_b, p_N, p_A, p_tf, if_false, if_true]
      have b : f_X5_right 57 (nI i) w u (p_m I P) = some (-nI 1, p_m I P) := by
        unfold f_X5_right
        simp (disch := omega) only [p_C, m_man1 hC.1 hy.1.1 h8 hi, m_word0 _ hw, p_b, p_N, p_A, p_tf, if_false, if_true]
      exact q_ask hO hC hM a p_same.rf b m_keep.rf
  · have a : f_X4_right 0 v w u (p_m I P) = some (-nI 1, p_m I P) := by
      unfold f_X4_right
      simp (disch := omega) only [p_C, c_man0 hs hx.1.1 h8 hv, p_b, p_N, if_true]
    have b : f_X5_right 57 v w u (p_m I P) = some (-nI 1, p_m I P) := by
      unfold f_X5_right
      simp (disch := omega) only [p_C, m_man0 hC.1 hy.1.1 h1 h8 hv, p_b, p_N, if_true]
    exact q_ask hO hC hM a p_same.rf b m_keep.rf
end
end
section
/-! ALL ONE WAY; HELD AND LET GO -/
def q_al (fc : Nat → Nat) : Nat → Bool
  | 0 => true
  | k + 1 => q_al fc k && decide (fc k = fc 0)
theorem q_al_1 (fc : Nat → Nat) : q_al fc 1 = true := by simp [q_al]
theorem q_al_mono {fc : Nat → Nat} {i : Nat} : ∀ {n : Nat}, i ≤ n → q_al fc n = true → q_al fc i = true
  | 0, h, h' => by
    obtain rfl : i = 0 := by omega
    exact h'
  | n + 1, h, h' => by
    by_cases e : i = n + 1
    · subst e; exact h'
    · refine q_al_mono (n := n) (by omega) ?_
      unfold q_al at h'
      simp only [Bool.and_eq_true] at h'
      exact h'.1
section
variable {I : Nat → Nat → Int32} {P : Nat → Nat → Option Nat} {s t : Nat} {q : q_Q} {g : q_G}
theorem c_alL (ht : t = 14 ∨ t = 17) (hK : c_K I P s q) (hG : c_G I t q.1 g) (hg : g_ok q.1 g) : ∀ (f i : Nat), 1 ≤ i → i ≤ q.1 → q.1 - i < f → q_al g.1 i = true → f_X4_isAlike_L2 f 0 t (nI i) (p_m I P) = some (nI (if q_al g.1 q.1 then 1 else 0), p_m I P) := by
  intro f
  induction f with
  | zero => intro i _ _ h; omega
  | succ f ih =>
    intro i h0 hi hf ha
    have hx := hK.x
    have h8 := hK.2.2.1.2.1
    have hst := c_st hK.1 ht
    unfold f_X4_isAlike_L2
    simp (disch := omega) only [c_sq1 hK.2.1, c_sqI hK.2.1, hst, p_N, hx, p_A]
    by_cases h1 : q.1 ≤ i
    · rw [if_pos h1]
      rw [show i = q.1 by omega] at ha
      rw [ha]
      rfl
    · rw [if_neg h1]
      have hin : i < q.1 := by omega
      have hfc := (hg.1 i hin).1
      have hfc0 := (hg.1 0 (by omega)).1
      have hs : q_al g.1 (i + 1) = (q_al g.1 i && decide (g.1 i = g.1 0)) := rfl
      simp (disch := omega) only [(hG.1 i hin).1, (hG.1 0 (by omega)).1, p_A]
      by_cases hc : g.1 i = g.1 0
      · rw [if_pos hc]
        exact ih (i + 1) (by omega) (by omega) (by omega) (by rw [hs, ha]; simp [hc])
      · rw [if_neg hc]
        have : q_al g.1 q.1 = false := by
          cases hq : q_al g.1 q.1 with
          | false => rfl
          | true =>
            have := q_al_mono (i := i + 1) (by omega) hq
            rw [hs] at this
            simp [hc] at this
        rw [this]
        rfl
theorem c_al (ht : t = 14 ∨ t = 17) (hK : c_K I P s q) (hG : c_G I t q.1 g) (hg : g_ok q.1 g) : f_X4_isAlike 0 t (p_m I P) = some (nI (if q_al g.1 q.1 then 1 else 0), p_m I P) := by
  have h8 := hK.2.2.1.2.1
  have h1 := hK.2.2.1.1
  unfold f_X4_isAlike
  exact c_alL ht hK hG hg 400 1 (by omega) (by omega) (by omega) (q_al_1 _)
theorem m_alL (h : m_B I P q g) : ∀ (f i : Nat), i ≤ q.1 → q.1 - i < f → f_X5_isOneWay_L4 f 57 (nI (if q_al g.1 i then 1 else 0)) (nI i) (p_m I P) = some (nI (if q_al g.1 q.1 then 1 else 0), p_m I P) := by
  intro f
  induction f with
  | zero => intro i _ h; omega
  | succ f ih =>
    intro i hi hf
    have hx := h.x
    have h8 := h.2.1.2.1
    unfold f_X5_isOneWay_L4 f_X5_isOneWay_L37 f_X5_isOneWay_L38
    simp (disch := omega) only [p_Q h.1, p_L, p_N, hx, p_A]
    by_cases h1 : q.1 ≤ i
    · rw [if_pos h1, show i = q.1 by omega]
      cases q_al g.1 q.1 <;> rfl
    · rw [if_neg h1]
      have hin : i < q.1 := by omega
      have hfc := (h.2.2.1.1 i hin).1
      have hfc0 := (h.2.2.1.1 0 (by omega)).1
      have ih1 := ih (i + 1) (by omega) (by omega)
      rw [show q_al g.1 (i + 1) = (q_al g.1 i && decide (g.1 i = g.1 0)) from rfl] at ih1
      have z0 : I 61 0 = nI (g.1 0) := hx.2.2.2.2.1 0 (by omega)
      cases ha : q_al g.1 i with
      | false =>
        rw [ha] at ih1
        simp (disch := omega) only [Bool.false_eq_true, if_false, p_A, p_tf, if_true]
        exact ih1
      | true =>
        rw [ha] at ih1
        simp (disch := omega) only [if_true, p_A, p_tf, if_false, p_Q h.1, p_L, hx, z0]
        by_cases hc : g.1 i = g.1 0
        · rw [if_pos hc]
          simpa [hc] using ih1
        · rw [if_neg hc]
          simpa [hc] using ih1
theorem m_al (h : m_B I P q g) : f_X5_isOneWay 57 (p_m I P) = some (nI (if q_al g.1 q.1 then 1 else 0), p_m I P) := by
  have h8 := h.2.1.2.1
  have h1 := h.2.1.1
  have := m_alL h 400 1 (by omega) (by omega)
  rw [q_al_1] at this
  unfold f_X5_isOneWay
  exact this
theorem m_holdsL (hP : p_F0 P) : ∀ (f j : Nat) (I : Nat → Nat → Int32), j ≤ 22 → 22 - j < f → ∃ I', f_X5_holds_L2 f 57 (nI j) (p_m I P) = some (nI 0, p_m I' P) ∧ p_same (fun a => a = 64) I I' ∧ (∀ x, x < j → I' 64 x = I 64 x) ∧ ∀ x, j ≤ x → x < 22 → I' 64 x = I 61 x := by
  intro f
  induction f with
  | zero => intro j I _ h; omega
  | succ f ih =>
    intro j I hj hf
    unfold f_X5_holds_L2
    simp (disch := omega) only [p_N, p_A]
    by_cases h : 22 ≤ j
    · rw [if_pos h]
      exact ⟨I, rfl, p_same.rf, fun _ _ => rfl, fun x h1 h2 => by omega⟩
    · rw [if_neg h]
      simp (disch := omega) only [p_Q hP, p_L, p_S]
      obtain ⟨I', a1, a2, a3, a4⟩ := ih (j + 1) (p_w I 64 j (I 61 j)) (by omega) (by omega)
      refine ⟨I', a1, (p_same.rf.o).tr a2, fun x hx => ?_, fun x h1 h2 => ?_⟩
      · rw [a3 x (by omega), p_w_ne (Or.inr (by omega))]
      · by_cases e : x = j
        · subst e; rw [a3 x (by omega), p_w_eq]
        · rw [a4 x (by omega) h2, p_w_ne (Or.inl (by omega))]
theorem m_holds (hP : p_F0 P) (I : Nat → Nat → Int32) : ∃ I', f_X5_holds 57 (p_m I P) = some (nI 0, p_m I' P) ∧ p_same (fun a => a = 64) I I' ∧ ∀ x, x < 22 → I' 64 x = I 61 x := by
  obtain ⟨I', a1, a2, -, a4⟩ := m_holdsL hP 400 0 I (by omega) (by omega)
  exact ⟨I', a1, a2, fun x hx => a4 x (by omega) hx⟩
theorem m_letsL (hP : p_F0 P) : ∀ (f j : Nat) (I : Nat → Nat → Int32), j ≤ 22 → 22 - j < f → ∃ I', f_X5_lets_L2 f 57 (nI j) (p_m I P) = some (nI 0, p_m I' P) ∧ p_same (fun a => a = 61) I I' ∧ (∀ x, x < j → I' 61 x = I 61 x) ∧ ∀ x, j ≤ x → x < 22 → I' 61 x = I 64 x := by
  intro f
  induction f with
  | zero => intro j I _ h; omega
  | succ f ih =>
    intro j I hj hf
    unfold f_X5_lets_L2
    simp (disch := omega) only [p_N, p_A]
    by_cases h : 22 ≤ j
    · rw [if_pos h]
      exact ⟨I, rfl, p_same.rf, fun _ _ => rfl, fun x h1 h2 => by omega⟩
    · rw [if_neg h]
      simp (disch := omega) only [p_Q hP, p_L, p_S]
      obtain ⟨I', a1, a2, a3, a4⟩ := ih (j + 1) (p_w I 61 j (I 64 j)) (by omega) (by omega)
      refine ⟨I', a1, (p_same.rf.o).tr a2, fun x hx => ?_, fun x h1 h2 => ?_⟩
      · rw [a3 x (by omega), p_w_ne (Or.inr (by omega))]
      · by_cases e : x = j
        · subst e; rw [a3 x (by omega), p_w_eq]
        · rw [a4 x (by omega) h2, p_w_ne (Or.inl (by omega))]
theorem m_lets (hP : p_F0 P) (I : Nat → Nat → Int32) : ∃ I', f_X5_lets 57 (p_m I P) = some (nI 0, p_m I' P) ∧ p_same (fun a => a = 61) I I' ∧ ∀ x, x < 22 → I' 61 x = I 64 x := by
  obtain ⟨I', a1, a2, -, a4⟩ := m_letsL hP 400 0 I (by omega) (by omega)
  exact ⟨I', a1, a2, fun x hx => a4 x (by omega) hx⟩
end
end
section
/-! DRILL -/
def q_dw (v k : Nat) : Nat := q_d (7919 * v + 6151 * k + 1) % 3
def q_dr (q : q_Q) (g : q_G) (v : Nat) : Nat → q_G
  | 0 => g
  | k + 1 => q_say q (q_dr q g v k) (q_dw v k) (q_er q (q_dr q g v k).2.2.2.1)
def q_dc (q : q_Q) (g : q_G) (v : Nat) (k : Nat) : Nat := q_ct (fun j => q_al (q_dr q g v (j + 1)).1 q.1) k
theorem q_dL {v k : Nat} (hv : v ≤ 9999) (hk : k ≤ 60) : ((7919 * (nI v).toInt64) + (6151 * (nI k).toInt64)) + 1 = lN (7919 * v + 6151 * k + 1) := by
  rw [nI_l (by omega), nI_l (by omega), show (7919 : Int64) = lN 7919 from rfl, show (6151 : Int64) = lN 6151 from rfl, lN_mul, lN_mul, lN_add, lN_1, lN_add]
theorem q_dr_ok {q : q_Q} {g : q_G} {v : Nat} (hg : g_in q.1 g) : ∀ k, k ≤ 60 → g_ok q.1 (q_dr q g v k) ∧ (q_dr q g v k).2.2.2.1 = g.2.2.2.1 + k ∧ ∀ i, q_ld q (q_dr q g v k) i = q_ld q g i
  | 0, _ => ⟨hg.1, rfl, fun _ => rfl⟩
  | k + 1, h => by
    obtain ⟨a, b, c⟩ := q_dr_ok hg k (by omega)
    have h9 := hg.2
    refine ⟨q_say_ok a (Nat.mod_lt _ (by decide)) (by omega), ?_, fun i => (c i)⟩
    show (q_dr q g v k).2.2.2.1 + 1 = _
    omega
section
variable {I : Nat → Nat → Int32} {P : Nat → Nat → Option Nat} {s d : Nat} {pl : Nat → Nat} {A : q_S} {q : q_Q} {g : q_G}
theorem c_drL (hg : g_in q.1 g) {v N z : Nat} (hv : v ≤ 9999) (hN : N ≤ 60) (hz : z < 2) : ∀ (f k : Nat) (I : Nat → Nat → Int32), c_K I P s q → (∀ j, j < q.1 → I 54 j = nI (q_ld q g j)) → c_G I 17 q.1 (q_dr q g v k) → k ≤ N → N - k < f →
    ∃ I', f_X4_drill_L52 f 0 (nI v) (nI N) (nI z) (nI (q_dc q g v k)) (nI k) (p_m I P) = some (nI (if z = 0 then q_pf (q_wr q (q_dr q g v N)) 8 else q_dc q g v N), p_m I' P) ∧ p_same (fun a => a = 17 ∨ a = 18) I I' := by
  intro f
  induction f with
  | zero => intro k I _ _ _ _ h; omega
  | succ f ih =>
    intro k I hK hL hG hk hf
    have h8 := hK.2.2.1.2.1
    obtain ⟨g1, g2, g3⟩ := q_dr_ok (v := v) hg k (by omega)
    unfold f_X4_drill_L52 f_X4_drill_L101
    simp (disch := omega) only [p_N, p_A]
    by_cases h1 : N ≤ k
    · rw [if_pos h1]
      obtain rfl : k = N := by omega
      refine ⟨I, ?_, p_same.rf⟩
      by_cases hz0 : z = 0
      · rw [if_pos hz0, if_pos hz0]
        simp (disch := omega) only [p_Q hK.1, p_C, c_wrong (Or.inr rfl) hK hG g1, p_b, c_bits (q_wr_lt hK.2.2.1)]
      · rw [if_neg hz0, if_neg hz0]
    · rw [if_neg h1]
      have hd := q_d_lt (7919 * v + 6151 * k + 1)
      have hdr := c_draw (x := 7919 * v + 6151 * k + 1) (by omega) (p_m I P)
      rw [← q_dL hv (by omega)] at hdr
      obtain ⟨I1, a1, a2, a3⟩ := c_say (w := q_dw v k) (Or.inr rfl) (Nat.mod_lt _ (by decide)) g1 hK (fun j hj => by rw [g3 j]; exact hL j hj) hG
      have hK1 := hK.keep a2 (fun a ha => by omega)
      obtain ⟨g4, -, -⟩ := q_dr_ok (v := v) hg (k + 1) (by omega)
      have a3 : c_G I1 17 q.1 (q_dr q g v (k + 1)) := a3
      obtain ⟨I2, b1, b2⟩ := ih (k + 1) I1 hK1 (fun j hj => by rw [a2 54 (by omega)]; exact hL j hj) a3 (by omega) (by omega)
      refine ⟨I2, ?_, a2.tr b2⟩
      rw [show q_dc q g v (k + 1) = q_dc q g v k + (if q_al (q_dr q g v (k + 1)).1 q.1 then 1 else 0) from rfl] at b1
      unfold q_dw at a1
      simp (disch := omega) only [p_Q hK.1, hdr, p_b, p_mo, p_C, a1, c_al (Or.inr rfl) hK1 a3 g4]
      cases ha : q_al (q_dr q g v (k + 1)).1 q.1 with
      | false =>
        rw [ha] at b1
        simpa (disch := omega) only [Bool.false_eq_true, if_false, p_A, p_tf, if_true] using b1
      | true =>
        rw [ha] at b1
        simpa (disch := omega) only [Bool.false_eq_true, if_false, p_A, p_tf, if_true] using b1
theorem m_drL (hg : g_in q.1 g) {v N z : Nat} (hv : v ≤ 9999) (hN : N ≤ 60) (hz : z < 2) : ∀ (f k : Nat) (I : Nat → Nat → Int32), m_B I P q (q_dr q g v k) → k ≤ N → N - k < f →
    ∃ I', f_X5_drill_L42 f 57 (nI v) (nI N) (nI z) (nI (q_dc q g v k)) (nI k) (p_m I P) = some (nI (if z = 0 then q_pf (q_wr q (q_dr q g v N)) 8 else q_dc q g v N), p_m I' P) ∧ p_same (fun a => a = 61) I I' ∧ ∀ x, x < 22 → I' 61 x = I 64 x := by
  intro f
  induction f with
  | zero => intro k I _ _ h; omega
  | succ f ih =>
    intro k I hB hk hf
    have h8 := hB.2.1.2.1
    unfold f_X5_drill_L42 f_X5_drill_L92 z_lt
    simp (disch := omega) only [p_N, p_A]
    by_cases h1 : N ≤ k
    · rw [if_pos h1]
      obtain rfl : k = N := by omega
      obtain ⟨I1, a1, a2, a3⟩ := m_lets hB.1 I
      refine ⟨I1, ?_, a2, a3⟩
      simp (disch := omega) only [p_C, m_wrong hB, p_b, m_ones (q_wr_lt hB.2.1), a1, p_b1]
      split <;> rfl
    · rw [if_neg h1]
      have hd := q_d_lt (7919 * v + 6151 * k + 1)
      have hdr := m_draw (x := 7919 * v + 6151 * k + 1) (by omega) (p_m I P)
      rw [← q_dL hv (by omega)] at hdr
      obtain ⟨e, he, e1, e2⟩ := m_errs hB 0 (by omega)
      obtain ⟨I1, a1, a2, a3⟩ := m_say (w := q_dw v k) (er := q_er q (q_dr q g v k).2.2.2.1) (Nat.mod_lt _ (by decide)) he hB (fun a ha => by have := e2 a ha; rw [if_neg (by decide)] at this; exact this)
      obtain ⟨g4, -, -⟩ := q_dr_ok (v := v) hg (k + 1) (by omega)
      have hB1 : m_B I1 P q (q_dr q g v (k + 1)) := ⟨hB.1, hB.2.1, g4, hB.2.2.2.1.keep a2 (by omega), a3, by rw [a2 57 (by omega)]; exact hB.2.2.2.2.2⟩
      obtain ⟨I2, b1, b2, b3⟩ := ih (k + 1) I1 hB1 (by omega) (by omega)
      refine ⟨I2, ?_, a2.tr b2, fun x hx => by rw [b3 x hx, a2 64 (by omega)]⟩
      rw [show q_dc q g v (k + 1) = q_dc q g v k + (if q_al (q_dr q g v (k + 1)).1 q.1 then 1 else 0) from rfl] at b1
      unfold q_dw at a1
      simp (disch := omega) only [hdr, p_b, p_mo, p_C, p_N, e1, a1, m_al hB1]
      cases ha : q_al (q_dr q g v (k + 1)).1 q.1 with
      | false =>
        rw [ha] at b1
        simpa (disch := omega) only [Bool.false_eq_true, if_false, p_A, p_tf, if_true] using b1
      | true =>
        rw [ha] at b1
        simpa (disch := omega) only [Bool.false_eq_true, if_false, p_A, p_tf, if_true] using b1
end
end
