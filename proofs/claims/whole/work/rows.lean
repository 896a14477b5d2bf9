section
-- ===== PART A: goes FIRST, ahead of the names: the tables' words, and 'selects' of the private methods out of them =====
/-- a private method of a class that the tables say can be made, by its rows of tables_1 -/
def lw_okq (q : MethodName × Nat) : Prop := (q.1.cls ≠ "java/lang/invoke/MethodHandle" ∧ q.1.cls ≠ "java/lang/invoke/VarHandle") ∧ Cond.instantiable q.1.cls q.2 ∈ tables_1 ∧ Cond.privateMethod q.1 ∈ tables_1 ∧ Cond.instanceMethod q.1 ∈ tables_1
theorem lw_p0 : lw_okq (⟨"RingPages", "layText", "()Z"⟩, 10) := ⟨⟨by decide +kernel, by decide +kernel⟩, List.mem_of_getElem? (i := 18) (by decide +kernel), List.mem_of_getElem? (i := 308) (by decide +kernel), List.mem_of_getElem? (i := 309) (by decide +kernel)⟩
theorem lw_p1 : lw_okq (⟨"RingPages$Text", "readItem", "(LRingPages$Net;LRingPages$State;)Z"⟩, 4) := ⟨⟨by decide +kernel, by decide +kernel⟩, List.mem_of_getElem? (i := 26) (by decide +kernel), List.mem_of_getElem? (i := 332) (by decide +kernel), List.mem_of_getElem? (i := 333) (by decide +kernel)⟩
theorem lw_p2 : lw_okq (⟨"RingPages$Text", "letterHere", "()I"⟩, 4) := ⟨⟨by decide +kernel, by decide +kernel⟩, List.mem_of_getElem? (i := 26) (by decide +kernel), List.mem_of_getElem? (i := 336) (by decide +kernel), List.mem_of_getElem? (i := 337) (by decide +kernel)⟩
theorem lw_p3 : lw_okq (⟨"RingPages$Text", "numbersBehind", "(I)I"⟩, 4) := ⟨⟨by decide +kernel, by decide +kernel⟩, List.mem_of_getElem? (i := 26) (by decide +kernel), List.mem_of_getElem? (i := 340) (by decide +kernel), List.mem_of_getElem? (i := 341) (by decide +kernel)⟩
theorem lw_p4 : lw_okq (⟨"RingPages$Text", "readNumbers", "(I)Z"⟩, 4) := ⟨⟨by decide +kernel, by decide +kernel⟩, List.mem_of_getElem? (i := 26) (by decide +kernel), List.mem_of_getElem? (i := 344) (by decide +kernel), List.mem_of_getElem? (i := 345) (by decide +kernel)⟩
theorem lw_p5 : lw_okq (⟨"RingPages$Text", "readNumber", "()I"⟩, 4) := ⟨⟨by decide +kernel, by decide +kernel⟩, List.mem_of_getElem? (i := 26) (by decide +kernel), List.mem_of_getElem? (i := 348) (by decide +kernel), List.mem_of_getElem? (i := 349) (by decide +kernel)⟩
theorem lw_p6 : lw_okq (⟨"RingPages$Text", "figureHere", "()I"⟩, 4) := ⟨⟨by decide +kernel, by decide +kernel⟩, List.mem_of_getElem? (i := 26) (by decide +kernel), List.mem_of_getElem? (i := 352) (by decide +kernel), List.mem_of_getElem? (i := 353) (by decide +kernel)⟩
theorem lw_p7 : lw_okq (⟨"RingPages$Text", "takeCells", "(LRingPages$Net;)Z"⟩, 4) := ⟨⟨by decide +kernel, by decide +kernel⟩, List.mem_of_getElem? (i := 26) (by decide +kernel), List.mem_of_getElem? (i := 356) (by decide +kernel), List.mem_of_getElem? (i := 357) (by decide +kernel)⟩
theorem lw_p8 : lw_okq (⟨"RingPages$Text", "takeJoin", "(LRingPages$Net;)Z"⟩, 4) := ⟨⟨by decide +kernel, by decide +kernel⟩, List.mem_of_getElem? (i := 26) (by decide +kernel), List.mem_of_getElem? (i := 360) (by decide +kernel), List.mem_of_getElem? (i := 361) (by decide +kernel)⟩
theorem lw_p9 : lw_okq (⟨"RingPages$Text", "isWeight", "(I)Z"⟩, 4) := ⟨⟨by decide +kernel, by decide +kernel⟩, List.mem_of_getElem? (i := 26) (by decide +kernel), List.mem_of_getElem? (i := 364) (by decide +kernel), List.mem_of_getElem? (i := 365) (by decide +kernel)⟩
theorem lw_p10 : lw_okq (⟨"RingPages$Net", "lead", "(III)V"⟩, 12) := ⟨⟨by decide +kernel, by decide +kernel⟩, List.mem_of_getElem? (i := 184) (by decide +kernel), List.mem_of_getElem? (i := 372) (by decide +kernel), List.mem_of_getElem? (i := 373) (by decide +kernel)⟩
theorem lw_p11 : lw_okq (⟨"RingPages$Text", "takeCellNumber", "(LRingPages$Net;[II)Z"⟩, 4) := ⟨⟨by decide +kernel, by decide +kernel⟩, List.mem_of_getElem? (i := 26) (by decide +kernel), List.mem_of_getElem? (i := 376) (by decide +kernel), List.mem_of_getElem? (i := 377) (by decide +kernel)⟩
theorem lw_p12 : lw_okq (⟨"RingPages$Text", "takeLaw", "(LRingPages$State;)Z"⟩, 4) := ⟨⟨by decide +kernel, by decide +kernel⟩, List.mem_of_getElem? (i := 26) (by decide +kernel), List.mem_of_getElem? (i := 380) (by decide +kernel), List.mem_of_getElem? (i := 381) (by decide +kernel)⟩
theorem lw_p13 : lw_okq (⟨"RingPages$Text", "takePrices", "(LRingPages$Net;)Z"⟩, 4) := ⟨⟨by decide +kernel, by decide +kernel⟩, List.mem_of_getElem? (i := 26) (by decide +kernel), List.mem_of_getElem? (i := 387) (by decide +kernel), List.mem_of_getElem? (i := 388) (by decide +kernel)⟩
theorem lw_p14 : lw_okq (⟨"RingPages$Net", "treesTo", "(I)J"⟩, 12) := ⟨⟨by decide +kernel, by decide +kernel⟩, List.mem_of_getElem? (i := 184) (by decide +kernel), List.mem_of_getElem? (i := 403) (by decide +kernel), List.mem_of_getElem? (i := 404) (by decide +kernel)⟩
theorem lw_p15 : lw_okq (⟨"RingPages$Net", "rowOf", "(II)I"⟩, 12) := ⟨⟨by decide +kernel, by decide +kernel⟩, List.mem_of_getElem? (i := 184) (by decide +kernel), List.mem_of_getElem? (i := 413) (by decide +kernel), List.mem_of_getElem? (i := 414) (by decide +kernel)⟩
def lw_privs_1 : List (MethodName × Nat) := [(⟨"RingPages", "layText", "()Z"⟩, 10), (⟨"RingPages$Text", "readItem", "(LRingPages$Net;LRingPages$State;)Z"⟩, 4), (⟨"RingPages$Text", "letterHere", "()I"⟩, 4), (⟨"RingPages$Text", "numbersBehind", "(I)I"⟩, 4), (⟨"RingPages$Text", "readNumbers", "(I)Z"⟩, 4), (⟨"RingPages$Text", "readNumber", "()I"⟩, 4), (⟨"RingPages$Text", "figureHere", "()I"⟩, 4), (⟨"RingPages$Text", "takeCells", "(LRingPages$Net;)Z"⟩, 4), (⟨"RingPages$Text", "takeJoin", "(LRingPages$Net;)Z"⟩, 4), (⟨"RingPages$Text", "isWeight", "(I)Z"⟩, 4), (⟨"RingPages$Net", "lead", "(III)V"⟩, 12), (⟨"RingPages$Text", "takeCellNumber", "(LRingPages$Net;[II)Z"⟩, 4), (⟨"RingPages$Text", "takeLaw", "(LRingPages$State;)Z"⟩, 4), (⟨"RingPages$Text", "takePrices", "(LRingPages$Net;)Z"⟩, 4), (⟨"RingPages$Net", "treesTo", "(I)J"⟩, 12), (⟨"RingPages$Net", "rowOf", "(II)I"⟩, 12)]
theorem lw_r1 : ∀ q ∈ lw_privs_1, lw_okq q := List.forall_mem_cons.mpr ⟨lw_p0, List.forall_mem_cons.mpr ⟨lw_p1, List.forall_mem_cons.mpr ⟨lw_p2, List.forall_mem_cons.mpr ⟨lw_p3, List.forall_mem_cons.mpr ⟨lw_p4, List.forall_mem_cons.mpr ⟨lw_p5, List.forall_mem_cons.mpr ⟨lw_p6, List.forall_mem_cons.mpr ⟨lw_p7, List.forall_mem_cons.mpr ⟨lw_p8, List.forall_mem_cons.mpr ⟨lw_p9, List.forall_mem_cons.mpr ⟨lw_p10, List.forall_mem_cons.mpr ⟨lw_p11, List.forall_mem_cons.mpr ⟨lw_p12, List.forall_mem_cons.mpr ⟨lw_p13, List.forall_mem_cons.mpr ⟨lw_p14, List.forall_mem_cons.mpr ⟨lw_p15, fun _ h => absurd h List.not_mem_nil⟩⟩⟩⟩⟩⟩⟩⟩⟩⟩⟩⟩⟩⟩⟩⟩
theorem lw_p16 : lw_okq (⟨"RingPages$Net", "minorOf", "(II)J"⟩, 12) := ⟨⟨by decide +kernel, by decide +kernel⟩, List.mem_of_getElem? (i := 184) (by decide +kernel), List.mem_of_getElem? (i := 417) (by decide +kernel), List.mem_of_getElem? (i := 418) (by decide +kernel)⟩
theorem lw_p17 : lw_okq (⟨"RingPages", "isCell", "(I)Z"⟩, 10) := ⟨⟨by decide +kernel, by decide +kernel⟩, List.mem_of_getElem? (i := 18) (by decide +kernel), List.mem_of_getElem? (i := 480) (by decide +kernel), List.mem_of_getElem? (i := 481) (by decide +kernel)⟩
theorem lw_p18 : lw_okq (⟨"RingPages$LongRun", "takeTried", "(J)V"⟩, 6) := ⟨⟨by decide +kernel, by decide +kernel⟩, List.mem_of_getElem? (i := 122) (by decide +kernel), List.mem_of_getElem? (i := 521) (by decide +kernel), List.mem_of_getElem? (i := 522) (by decide +kernel)⟩
theorem lw_p19 : lw_okq (⟨"RingPages$LongRun", "nextTried", "(I)Z"⟩, 6) := ⟨⟨by decide +kernel, by decide +kernel⟩, List.mem_of_getElem? (i := 122) (by decide +kernel), List.mem_of_getElem? (i := 526) (by decide +kernel), List.mem_of_getElem? (i := 527) (by decide +kernel)⟩
theorem lw_p20 : lw_okq (⟨"RingPages$LongRun", "highestAhead", "(I)I"⟩, 6) := ⟨⟨by decide +kernel, by decide +kernel⟩, List.mem_of_getElem? (i := 122) (by decide +kernel), List.mem_of_getElem? (i := 530) (by decide +kernel), List.mem_of_getElem? (i := 531) (by decide +kernel)⟩
theorem lw_p21 : lw_okq (⟨"RingPages$State", "isDue", "(LRingPages$Net;)Z"⟩, 10) := ⟨⟨by decide +kernel, by decide +kernel⟩, List.mem_of_getElem? (i := 54) (by decide +kernel), List.mem_of_getElem? (i := 571) (by decide +kernel), List.mem_of_getElem? (i := 572) (by decide +kernel)⟩
theorem lw_p22 : lw_okq (⟨"RingPages", "seek", "()V"⟩, 10) := ⟨⟨by decide +kernel, by decide +kernel⟩, List.mem_of_getElem? (i := 18) (by decide +kernel), List.mem_of_getElem? (i := 583) (by decide +kernel), List.mem_of_getElem? (i := 584) (by decide +kernel)⟩
theorem lw_p23 : lw_okq (⟨"RingPages$Whereabouts", "insideOf", "(LRingPages$Net;LRingPages$State;)I"⟩, 1) := ⟨⟨by decide +kernel, by decide +kernel⟩, List.mem_of_getElem? (i := 152) (by decide +kernel), List.mem_of_getElem? (i := 592) (by decide +kernel), List.mem_of_getElem? (i := 593) (by decide +kernel)⟩
theorem lw_p24 : lw_okq (⟨"RingPages$Whereabouts", "step", "(LRingPages$Net;LRingPages$State;II)Z"⟩, 1) := ⟨⟨by decide +kernel, by decide +kernel⟩, List.mem_of_getElem? (i := 152) (by decide +kernel), List.mem_of_getElem? (i := 597) (by decide +kernel), List.mem_of_getElem? (i := 598) (by decide +kernel)⟩
theorem lw_p25 : lw_okq (⟨"RingPages$Whereabouts", "movers", "(LRingPages$Net;I)I"⟩, 1) := ⟨⟨by decide +kernel, by decide +kernel⟩, List.mem_of_getElem? (i := 152) (by decide +kernel), List.mem_of_getElem? (i := 601) (by decide +kernel), List.mem_of_getElem? (i := 602) (by decide +kernel)⟩
theorem lw_p26 : lw_okq (⟨"RingPages$Whereabouts", "stayers", "(LRingPages$Net;LRingPages$State;I)I"⟩, 1) := ⟨⟨by decide +kernel, by decide +kernel⟩, List.mem_of_getElem? (i := 152) (by decide +kernel), List.mem_of_getElem? (i := 606) (by decide +kernel), List.mem_of_getElem? (i := 607) (by decide +kernel)⟩
theorem lw_p27 : lw_okq (⟨"RingPages$Rounds", "meanPaged", "(I[J)J"⟩, 4) := ⟨⟨by decide +kernel, by decide +kernel⟩, List.mem_of_getElem? (i := 162) (by decide +kernel), List.mem_of_getElem? (i := 621) (by decide +kernel), List.mem_of_getElem? (i := 622) (by decide +kernel)⟩
theorem lw_p28 : lw_okq (⟨"RingPages$Rounds", "isCutBehind", "(II)Z"⟩, 4) := ⟨⟨by decide +kernel, by decide +kernel⟩, List.mem_of_getElem? (i := 162) (by decide +kernel), List.mem_of_getElem? (i := 625) (by decide +kernel), List.mem_of_getElem? (i := 626) (by decide +kernel)⟩
theorem lw_p29 : lw_okq (⟨"RingPages", "rate", "(I)J"⟩, 10) := ⟨⟨by decide +kernel, by decide +kernel⟩, List.mem_of_getElem? (i := 18) (by decide +kernel), List.mem_of_getElem? (i := 670) (by decide +kernel), List.mem_of_getElem? (i := 671) (by decide +kernel)⟩
theorem lw_p30 : lw_okq (⟨"RingPagesModel", "clears", "()V"⟩, 26) := ⟨⟨by decide +kernel, by decide +kernel⟩, List.mem_of_getElem? (i := 704) (by decide +kernel), List.mem_of_getElem? (i := 710) (by decide +kernel), List.mem_of_getElem? (i := 711) (by decide +kernel)⟩
theorem lw_p31 : lw_okq (⟨"RingPagesModel", "joinOf", "(IIII)V"⟩, 26) := ⟨⟨by decide +kernel, by decide +kernel⟩, List.mem_of_getElem? (i := 704) (by decide +kernel), List.mem_of_getElem? (i := 714) (by decide +kernel), List.mem_of_getElem? (i := 715) (by decide +kernel)⟩
def lw_privs_2 : List (MethodName × Nat) := [(⟨"RingPages$Net", "minorOf", "(II)J"⟩, 12), (⟨"RingPages", "isCell", "(I)Z"⟩, 10), (⟨"RingPages$LongRun", "takeTried", "(J)V"⟩, 6), (⟨"RingPages$LongRun", "nextTried", "(I)Z"⟩, 6), (⟨"RingPages$LongRun", "highestAhead", "(I)I"⟩, 6), (⟨"RingPages$State", "isDue", "(LRingPages$Net;)Z"⟩, 10), (⟨"RingPages", "seek", "()V"⟩, 10), (⟨"RingPages$Whereabouts", "insideOf", "(LRingPages$Net;LRingPages$State;)I"⟩, 1), (⟨"RingPages$Whereabouts", "step", "(LRingPages$Net;LRingPages$State;II)Z"⟩, 1), (⟨"RingPages$Whereabouts", "movers", "(LRingPages$Net;I)I"⟩, 1), (⟨"RingPages$Whereabouts", "stayers", "(LRingPages$Net;LRingPages$State;I)I"⟩, 1), (⟨"RingPages$Rounds", "meanPaged", "(I[J)J"⟩, 4), (⟨"RingPages$Rounds", "isCutBehind", "(II)Z"⟩, 4), (⟨"RingPages", "rate", "(I)J"⟩, 10), (⟨"RingPagesModel", "clears", "()V"⟩, 26), (⟨"RingPagesModel", "joinOf", "(IIII)V"⟩, 26)]
theorem lw_r2 : ∀ q ∈ lw_privs_2, lw_okq q := List.forall_mem_cons.mpr ⟨lw_p16, List.forall_mem_cons.mpr ⟨lw_p17, List.forall_mem_cons.mpr ⟨lw_p18, List.forall_mem_cons.mpr ⟨lw_p19, List.forall_mem_cons.mpr ⟨lw_p20, List.forall_mem_cons.mpr ⟨lw_p21, List.forall_mem_cons.mpr ⟨lw_p22, List.forall_mem_cons.mpr ⟨lw_p23, List.forall_mem_cons.mpr ⟨lw_p24, List.forall_mem_cons.mpr ⟨lw_p25, List.forall_mem_cons.mpr ⟨lw_p26, List.forall_mem_cons.mpr ⟨lw_p27, List.forall_mem_cons.mpr ⟨lw_p28, List.forall_mem_cons.mpr ⟨lw_p29, List.forall_mem_cons.mpr ⟨lw_p30, List.forall_mem_cons.mpr ⟨lw_p31, fun _ h => absurd h List.not_mem_nil⟩⟩⟩⟩⟩⟩⟩⟩⟩⟩⟩⟩⟩⟩⟩⟩
theorem lw_p32 : lw_okq (⟨"RingPagesModel", "takes", "()V"⟩, 26) := ⟨⟨by decide +kernel, by decide +kernel⟩, List.mem_of_getElem? (i := 704) (by decide +kernel), List.mem_of_getElem? (i := 718) (by decide +kernel), List.mem_of_getElem? (i := 719) (by decide +kernel)⟩
theorem lw_p33 : lw_okq (⟨"RingPagesModel", "reads", "()I"⟩, 26) := ⟨⟨by decide +kernel, by decide +kernel⟩, List.mem_of_getElem? (i := 704) (by decide +kernel), List.mem_of_getElem? (i := 813) (by decide +kernel), List.mem_of_getElem? (i := 814) (by decide +kernel)⟩
theorem lw_p34 : lw_okq (⟨"RingPagesModel", "readsItem", "(II)Z"⟩, 26) := ⟨⟨by decide +kernel, by decide +kernel⟩, List.mem_of_getElem? (i := 704) (by decide +kernel), List.mem_of_getElem? (i := 817) (by decide +kernel), List.mem_of_getElem? (i := 818) (by decide +kernel)⟩
theorem lw_p35 : lw_okq (⟨"RingPagesModel", "number", "(III)Z"⟩, 26) := ⟨⟨by decide +kernel, by decide +kernel⟩, List.mem_of_getElem? (i := 704) (by decide +kernel), List.mem_of_getElem? (i := 821) (by decide +kernel), List.mem_of_getElem? (i := 822) (by decide +kernel)⟩
theorem lw_p36 : lw_okq (⟨"RingPagesModel", "letterAt", "(I)I"⟩, 26) := ⟨⟨by decide +kernel, by decide +kernel⟩, List.mem_of_getElem? (i := 704) (by decide +kernel), List.mem_of_getElem? (i := 825) (by decide +kernel), List.mem_of_getElem? (i := 826) (by decide +kernel)⟩
theorem lw_p37 : lw_okq (⟨"RingPagesModel", "readsJoin", "(I)Z"⟩, 26) := ⟨⟨by decide +kernel, by decide +kernel⟩, List.mem_of_getElem? (i := 704) (by decide +kernel), List.mem_of_getElem? (i := 832) (by decide +kernel), List.mem_of_getElem? (i := 833) (by decide +kernel)⟩
theorem lw_p38 : lw_okq (⟨"RingPagesModel", "more", "(II)Z"⟩, 26) := ⟨⟨by decide +kernel, by decide +kernel⟩, List.mem_of_getElem? (i := 704) (by decide +kernel), List.mem_of_getElem? (i := 836) (by decide +kernel), List.mem_of_getElem? (i := 837) (by decide +kernel)⟩
theorem lw_p39 : lw_okq (⟨"RingPagesModel", "readsCell", "(II)Z"⟩, 26) := ⟨⟨by decide +kernel, by decide +kernel⟩, List.mem_of_getElem? (i := 704) (by decide +kernel), List.mem_of_getElem? (i := 840) (by decide +kernel), List.mem_of_getElem? (i := 841) (by decide +kernel)⟩
theorem lw_p40 : lw_okq (⟨"RingPagesModel", "readsLaw", "(I)Z"⟩, 26) := ⟨⟨by decide +kernel, by decide +kernel⟩, List.mem_of_getElem? (i := 704) (by decide +kernel), List.mem_of_getElem? (i := 844) (by decide +kernel), List.mem_of_getElem? (i := 845) (by decide +kernel)⟩
theorem lw_p41 : lw_okq (⟨"RingPagesModel", "readsPrice", "(I)Z"⟩, 26) := ⟨⟨by decide +kernel, by decide +kernel⟩, List.mem_of_getElem? (i := 704) (by decide +kernel), List.mem_of_getElem? (i := 851) (by decide +kernel), List.mem_of_getElem? (i := 852) (by decide +kernel)⟩
theorem lw_p42 : lw_okq (⟨"RingPagesModel", "hang", "()Z"⟩, 26) := ⟨⟨by decide +kernel, by decide +kernel⟩, List.mem_of_getElem? (i := 704) (by decide +kernel), List.mem_of_getElem? (i := 859) (by decide +kernel), List.mem_of_getElem? (i := 860) (by decide +kernel)⟩
theorem lw_p43 : lw_okq (⟨"RingPagesModel", "isCell", "(I)Z"⟩, 26) := ⟨⟨by decide +kernel, by decide +kernel⟩, List.mem_of_getElem? (i := 704) (by decide +kernel), List.mem_of_getElem? (i := 871) (by decide +kernel), List.mem_of_getElem? (i := 872) (by decide +kernel)⟩
theorem lw_p44 : lw_okq (⟨"RingPagesModel", "keeps", "()V"⟩, 26) := ⟨⟨by decide +kernel, by decide +kernel⟩, List.mem_of_getElem? (i := 704) (by decide +kernel), List.mem_of_getElem? (i := 875) (by decide +kernel), List.mem_of_getElem? (i := 876) (by decide +kernel)⟩
theorem lw_p45 : lw_okq (⟨"RingPagesModel", "sum", "(I)I"⟩, 26) := ⟨⟨by decide +kernel, by decide +kernel⟩, List.mem_of_getElem? (i := 704) (by decide +kernel), List.mem_of_getElem? (i := 890) (by decide +kernel), List.mem_of_getElem? (i := 891) (by decide +kernel)⟩
theorem lw_p46 : lw_okq (⟨"RingPagesModel", "out", "(I)I"⟩, 26) := ⟨⟨by decide +kernel, by decide +kernel⟩, List.mem_of_getElem? (i := 704) (by decide +kernel), List.mem_of_getElem? (i := 894) (by decide +kernel), List.mem_of_getElem? (i := 895) (by decide +kernel)⟩
theorem lw_p47 : lw_okq (⟨"RingPagesModel", "joined", "(I)I"⟩, 26) := ⟨⟨by decide +kernel, by decide +kernel⟩, List.mem_of_getElem? (i := 704) (by decide +kernel), List.mem_of_getElem? (i := 898) (by decide +kernel), List.mem_of_getElem? (i := 899) (by decide +kernel)⟩
def lw_privs_3 : List (MethodName × Nat) := [(⟨"RingPagesModel", "takes", "()V"⟩, 26), (⟨"RingPagesModel", "reads", "()I"⟩, 26), (⟨"RingPagesModel", "readsItem", "(II)Z"⟩, 26), (⟨"RingPagesModel", "number", "(III)Z"⟩, 26), (⟨"RingPagesModel", "letterAt", "(I)I"⟩, 26), (⟨"RingPagesModel", "readsJoin", "(I)Z"⟩, 26), (⟨"RingPagesModel", "more", "(II)Z"⟩, 26), (⟨"RingPagesModel", "readsCell", "(II)Z"⟩, 26), (⟨"RingPagesModel", "readsLaw", "(I)Z"⟩, 26), (⟨"RingPagesModel", "readsPrice", "(I)Z"⟩, 26), (⟨"RingPagesModel", "hang", "()Z"⟩, 26), (⟨"RingPagesModel", "isCell", "(I)Z"⟩, 26), (⟨"RingPagesModel", "keeps", "()V"⟩, 26), (⟨"RingPagesModel", "sum", "(I)I"⟩, 26), (⟨"RingPagesModel", "out", "(I)I"⟩, 26), (⟨"RingPagesModel", "joined", "(I)I"⟩, 26)]
theorem lw_r3 : ∀ q ∈ lw_privs_3, lw_okq q := List.forall_mem_cons.mpr ⟨lw_p32, List.forall_mem_cons.mpr ⟨lw_p33, List.forall_mem_cons.mpr ⟨lw_p34, List.forall_mem_cons.mpr ⟨lw_p35, List.forall_mem_cons.mpr ⟨lw_p36, List.forall_mem_cons.mpr ⟨lw_p37, List.forall_mem_cons.mpr ⟨lw_p38, List.forall_mem_cons.mpr ⟨lw_p39, List.forall_mem_cons.mpr ⟨lw_p40, List.forall_mem_cons.mpr ⟨lw_p41, List.forall_mem_cons.mpr ⟨lw_p42, List.forall_mem_cons.mpr ⟨lw_p43, List.forall_mem_cons.mpr ⟨lw_p44, List.forall_mem_cons.mpr ⟨lw_p45, List.forall_mem_cons.mpr ⟨lw_p46, List.forall_mem_cons.mpr ⟨lw_p47, fun _ h => absurd h List.not_mem_nil⟩⟩⟩⟩⟩⟩⟩⟩⟩⟩⟩⟩⟩⟩⟩⟩
theorem lw_p48 : lw_okq (⟨"RingPagesModel", "likeArea", "(I)I"⟩, 26) := ⟨⟨by decide +kernel, by decide +kernel⟩, List.mem_of_getElem? (i := 704) (by decide +kernel), List.mem_of_getElem? (i := 902) (by decide +kernel), List.mem_of_getElem? (i := 903) (by decide +kernel)⟩
theorem lw_p49 : lw_okq (⟨"RingPagesModel", "far", "(II)I"⟩, 26) := ⟨⟨by decide +kernel, by decide +kernel⟩, List.mem_of_getElem? (i := 704) (by decide +kernel), List.mem_of_getElem? (i := 914) (by decide +kernel), List.mem_of_getElem? (i := 915) (by decide +kernel)⟩
theorem lw_p50 : lw_okq (⟨"RingPagesModel", "goes", "([II)I"⟩, 26) := ⟨⟨by decide +kernel, by decide +kernel⟩, List.mem_of_getElem? (i := 704) (by decide +kernel), List.mem_of_getElem? (i := 922) (by decide +kernel), List.mem_of_getElem? (i := 923) (by decide +kernel)⟩
theorem lw_p51 : lw_okq (⟨"RingPagesModel", "isDue", "([I)Z"⟩, 26) := ⟨⟨by decide +kernel, by decide +kernel⟩, List.mem_of_getElem? (i := 704) (by decide +kernel), List.mem_of_getElem? (i := 926) (by decide +kernel), List.mem_of_getElem? (i := 927) (by decide +kernel)⟩
theorem lw_p52 : lw_okq (⟨"RingPagesModel", "whereIs", "()I"⟩, 26) := ⟨⟨by decide +kernel, by decide +kernel⟩, List.mem_of_getElem? (i := 704) (by decide +kernel), List.mem_of_getElem? (i := 938) (by decide +kernel), List.mem_of_getElem? (i := 939) (by decide +kernel)⟩
theorem lw_p53 : lw_okq (⟨"RingPagesModel", "allowed", "()I"⟩, 26) := ⟨⟨by decide +kernel, by decide +kernel⟩, List.mem_of_getElem? (i := 704) (by decide +kernel), List.mem_of_getElem? (i := 942) (by decide +kernel), List.mem_of_getElem? (i := 943) (by decide +kernel)⟩
theorem lw_p54 : lw_okq (⟨"RingPagesModel", "grows", "()V"⟩, 26) := ⟨⟨by decide +kernel, by decide +kernel⟩, List.mem_of_getElem? (i := 704) (by decide +kernel), List.mem_of_getElem? (i := 951) (by decide +kernel), List.mem_of_getElem? (i := 952) (by decide +kernel)⟩
theorem lw_p55 : lw_okq (⟨"RingPagesModel", "determinant", "(I)J"⟩, 26) := ⟨⟨by decide +kernel, by decide +kernel⟩, List.mem_of_getElem? (i := 704) (by decide +kernel), List.mem_of_getElem? (i := 955) (by decide +kernel), List.mem_of_getElem? (i := 956) (by decide +kernel)⟩
theorem lw_p56 : lw_okq (⟨"RingPagesModel", "below", "()J"⟩, 26) := ⟨⟨by decide +kernel, by decide +kernel⟩, List.mem_of_getElem? (i := 704) (by decide +kernel), List.mem_of_getElem? (i := 959) (by decide +kernel), List.mem_of_getElem? (i := 960) (by decide +kernel)⟩
theorem lw_p57 : lw_okq (⟨"RingPagesModel", "crossing", "([IIZ)J"⟩, 26) := ⟨⟨by decide +kernel, by decide +kernel⟩, List.mem_of_getElem? (i := 704) (by decide +kernel), List.mem_of_getElem? (i := 973) (by decide +kernel), List.mem_of_getElem? (i := 974) (by decide +kernel)⟩
theorem lw_p58 : lw_okq (⟨"RingPagesModel", "expense", "([II)J"⟩, 26) := ⟨⟨by decide +kernel, by decide +kernel⟩, List.mem_of_getElem? (i := 704) (by decide +kernel), List.mem_of_getElem? (i := 977) (by decide +kernel), List.mem_of_getElem? (i := 978) (by decide +kernel)⟩
theorem lw_p59 : lw_okq (⟨"RingPagesModel", "finds", "()J"⟩, 26) := ⟨⟨by decide +kernel, by decide +kernel⟩, List.mem_of_getElem? (i := 704) (by decide +kernel), List.mem_of_getElem? (i := 987) (by decide +kernel), List.mem_of_getElem? (i := 988) (by decide +kernel)⟩
theorem lw_p60 : lw_okq (⟨"RingPagesModel", "goesOn", "()Z"⟩, 26) := ⟨⟨by decide +kernel, by decide +kernel⟩, List.mem_of_getElem? (i := 704) (by decide +kernel), List.mem_of_getElem? (i := 991) (by decide +kernel), List.mem_of_getElem? (i := 992) (by decide +kernel)⟩
theorem lw_p61 : lw_okq (⟨"RingPagesModel", "splits", "()V"⟩, 26) := ⟨⟨by decide +kernel, by decide +kernel⟩, List.mem_of_getElem? (i := 704) (by decide +kernel), List.mem_of_getElem? (i := 1007) (by decide +kernel), List.mem_of_getElem? (i := 1008) (by decide +kernel)⟩
theorem lw_p62 : lw_okq (⟨"RingPagesModel", "ranks", "()V"⟩, 26) := ⟨⟨by decide +kernel, by decide +kernel⟩, List.mem_of_getElem? (i := 704) (by decide +kernel), List.mem_of_getElem? (i := 1011) (by decide +kernel), List.mem_of_getElem? (i := 1012) (by decide +kernel)⟩
theorem lw_p63 : lw_okq (⟨"RingPagesModel", "paged", "(I)J"⟩, 26) := ⟨⟨by decide +kernel, by decide +kernel⟩, List.mem_of_getElem? (i := 704) (by decide +kernel), List.mem_of_getElem? (i := 1015) (by decide +kernel), List.mem_of_getElem? (i := 1016) (by decide +kernel)⟩
def lw_privs_4 : List (MethodName × Nat) := [(⟨"RingPagesModel", "likeArea", "(I)I"⟩, 26), (⟨"RingPagesModel", "far", "(II)I"⟩, 26), (⟨"RingPagesModel", "goes", "([II)I"⟩, 26), (⟨"RingPagesModel", "isDue", "([I)Z"⟩, 26), (⟨"RingPagesModel", "whereIs", "()I"⟩, 26), (⟨"RingPagesModel", "allowed", "()I"⟩, 26), (⟨"RingPagesModel", "grows", "()V"⟩, 26), (⟨"RingPagesModel", "determinant", "(I)J"⟩, 26), (⟨"RingPagesModel", "below", "()J"⟩, 26), (⟨"RingPagesModel", "crossing", "([IIZ)J"⟩, 26), (⟨"RingPagesModel", "expense", "([II)J"⟩, 26), (⟨"RingPagesModel", "finds", "()J"⟩, 26), (⟨"RingPagesModel", "goesOn", "()Z"⟩, 26), (⟨"RingPagesModel", "splits", "()V"⟩, 26), (⟨"RingPagesModel", "ranks", "()V"⟩, 26), (⟨"RingPagesModel", "paged", "(I)J"⟩, 26)]
theorem lw_r4 : ∀ q ∈ lw_privs_4, lw_okq q := List.forall_mem_cons.mpr ⟨lw_p48, List.forall_mem_cons.mpr ⟨lw_p49, List.forall_mem_cons.mpr ⟨lw_p50, List.forall_mem_cons.mpr ⟨lw_p51, List.forall_mem_cons.mpr ⟨lw_p52, List.forall_mem_cons.mpr ⟨lw_p53, List.forall_mem_cons.mpr ⟨lw_p54, List.forall_mem_cons.mpr ⟨lw_p55, List.forall_mem_cons.mpr ⟨lw_p56, List.forall_mem_cons.mpr ⟨lw_p57, List.forall_mem_cons.mpr ⟨lw_p58, List.forall_mem_cons.mpr ⟨lw_p59, List.forall_mem_cons.mpr ⟨lw_p60, List.forall_mem_cons.mpr ⟨lw_p61, List.forall_mem_cons.mpr ⟨lw_p62, List.forall_mem_cons.mpr ⟨lw_p63, fun _ h => absurd h List.not_mem_nil⟩⟩⟩⟩⟩⟩⟩⟩⟩⟩⟩⟩⟩⟩⟩⟩
def lw_privs : List (MethodName × Nat) := lw_privs_1 ++ (lw_privs_2 ++ (lw_privs_3 ++ (lw_privs_4)))
def lw_tbl : List Cond := k2_sels lw_privs ++ tables_1
theorem lw_privs_ok : ∀ q ∈ lw_privs, lw_okq q := by
  show ∀ q ∈ lw_privs_1 ++ (lw_privs_2 ++ (lw_privs_3 ++ (lw_privs_4))), lw_okq q
  exact List.forall_mem_append.mpr ⟨lw_r1, List.forall_mem_append.mpr ⟨lw_r2, List.forall_mem_append.mpr ⟨lw_r3, lw_r4⟩⟩⟩
-- ===== end of PART A; then your names; then what follows =====
end
section
/-! ===== BEGIN words of one list among another's, by their places ===== -/
theorem goodIn_r {big : List Cond} (ws : List Cond) (ps : List Nat) (hp : ws = ps.filterMap (fun i => big[i]?)) (h : ws.all goodWord = true) : GoodIn big ws := by
  intro w hw
  have h1 := List.all_eq_true.mp h w hw
  rw [hp] at hw
  obtain ⟨i, -, hi⟩ := List.mem_filterMap.mp hw
  have hm : w ∈ big := by first | exact List.mem_of_getElem? hi | exact List.getElem?_mem hi
  exact ⟨hm, good_of_word h1⟩
theorem goodIn_app {big a b : List Cond} (ha : GoodIn big a) (hb : GoodIn big b) : GoodIn big (a ++ b) := fun w h => (List.mem_append.mp h).elim (ha w) (hb w)
theorem goodIn_ca {big a b : List Cond} {c : Cond} (ha : GoodIn big (c :: a)) (hb : GoodIn big b) : GoodIn big (c :: (a ++ b)) := fun w h => (List.mem_cons.mp h).elim (fun e => ha w (List.mem_cons.mpr (Or.inl e))) (fun h => (List.mem_append.mp h).elim (fun h => ha w (List.mem_cons.mpr (Or.inr h))) (hb w))
theorem goodIn_sub {big ws : List Cond} (hm : ∀ w ∈ ws, w ∈ big) (h : ws.all goodWord = true) : GoodIn big ws := fun w hw => ⟨hm w hw, good_of_word (List.all_eq_true.mp h w hw)⟩
/-! ===== END ===== -/


/-! ===== BEGIN printed: names, fields, word lists, decode rows ===== -/
def RX0 : String := "RingPages$LongRun"
def TX0 : u_T := fun k => match k with
  | 0 => ("RingPages$LongRun", "above", "[J", true)
  | 1 => ("RingPages$LongRun", "below", "J", false)
  | 2 => ("RingPages$LongRun", "best", "[I", true)
  | 3 => ("RingPages$LongRun", "leastExpense", "J", false)
  | 4 => ("RingPages$LongRun", "bestKnown", "Z", false)
  | _ => ("RingPages$LongRun", "tried", "[I", true)
def tyX0 : Nat → FieldType := fun k => match k with
  | 0 => .array .long
  | 1 => .long
  | 2 => .array .int
  | 3 => .long
  | 4 => .boolean
  | _ => .array .int
abbrev wsX00 : List Cond := u_ws RX0 TX0 6
theorem nmX0 : ∀ a, a < 6 → ∀ b, b < 6 → a ≠ b → (TX0 a).2.1 ≠ (TX0 b).2.1 := by decide +kernel
theorem tyX0_ok : ∀ k, k < 6 → parseFieldDescriptor (TX0 k).2.2.1 = some (tyX0 k) := by decide +kernel
abbrev cX0_init : ByteArray := prog_2_method_1_code
def yX0_init : MethodName := ⟨RX0, "<init>", "()V"⟩
abbrev cX0_reckon : ByteArray := prog_2_method_2_code
def yX0_reckon : MethodName := ⟨RX0, "reckon", "(LRingPages$Net;LRingPages$State;)V"⟩
abbrev cX0_crosses : ByteArray := prog_2_method_3_code
def yX0_crosses : MethodName := ⟨RX0, "crosses", "(LRingPages$Net;[I)J"⟩
abbrev cX0_movesOn : ByteArray := prog_2_method_4_code
def yX0_movesOn : MethodName := ⟨RX0, "movesOn", "(LRingPages$Net;)J"⟩
abbrev cX0_expense : ByteArray := prog_2_method_5_code
def yX0_expense : MethodName := ⟨RX0, "expense", "(LRingPages$Net;[I)J"⟩
abbrev cX0_findBest : ByteArray := prog_2_method_6_code
def yX0_findBest : MethodName := ⟨RX0, "findBest", "(LRingPages$Net;)V"⟩
abbrev cX0_takeTried : ByteArray := prog_2_method_7_code
def yX0_takeTried : MethodName := ⟨RX0, "takeTried", "(J)V"⟩
abbrev cX0_nextTried : ByteArray := prog_2_method_8_code
def yX0_nextTried : MethodName := ⟨RX0, "nextTried", "(I)Z"⟩
abbrev cX0_highestAhead : ByteArray := prog_2_method_9_code
def yX0_highestAhead : MethodName := ⟨RX0, "highestAhead", "(I)I"⟩
def RX1 : String := "RingPages$Net"
def TX1 : u_T := fun k => match k with
  | 0 => ("RingPages$Net", "cells", "I", false)
  | 1 => ("RingPages$Net", "joins", "I", false)
  | 2 => ("RingPages$Net", "mostRounds", "I", false)
  | 3 => ("RingPages$Net", "pageCost", "I", false)
  | 4 => ("RingPages$Net", "updateCost", "I", false)
  | 5 => ("RingPages$Net", "callChance", "I", false)
  | 6 => ("RingPages$Net", "weight", "[[I", true)
  | 7 => ("RingPages$Net", "wide", "[[I", true)
  | 8 => ("RingPages$Net", "near", "[I", true)
  | 9 => ("RingPages$Net", "out", "[I", true)
  | 10 => ("RingPages$Net", "trees", "[J", true)
  | _ => ("RingPages$Net", "minors", "[J", true)
def tyX1 : Nat → FieldType := fun k => match k with
  | 0 => .int
  | 1 => .int
  | 2 => .int
  | 3 => .int
  | 4 => .int
  | 5 => .int
  | 6 => .array (.array .int)
  | 7 => .array (.array .int)
  | 8 => .array .int
  | 9 => .array .int
  | 10 => .array .long
  | _ => .array .long
abbrev wsX10 : List Cond := u_ws RX1 TX1 12
theorem nmX1 : ∀ a, a < 12 → ∀ b, b < 12 → a ≠ b → (TX1 a).2.1 ≠ (TX1 b).2.1 := by decide +kernel
theorem tyX1_ok : ∀ k, k < 12 → parseFieldDescriptor (TX1 k).2.2.1 = some (tyX1 k) := by decide +kernel
abbrev cX1_init : ByteArray := prog_3_method_1_code
def yX1_init : MethodName := ⟨RX1, "<init>", "()V"⟩
abbrev cX1_begin : ByteArray := prog_3_method_2_code
def yX1_begin : MethodName := ⟨RX1, "begin", "(I)V"⟩
abbrev cX1_price : ByteArray := prog_3_method_3_code
def yX1_price : MethodName := ⟨RX1, "price", "(IIII)V"⟩
abbrev cX1_join : ByteArray := prog_3_method_4_code
def yX1_join : MethodName := ⟨RX1, "join", "(IIII)V"⟩
abbrev cX1_lead : ByteArray := prog_3_method_5_code
def yX1_lead : MethodName := ⟨RX1, "lead", "(III)V"⟩
abbrev cX1_isWhole : ByteArray := prog_3_method_6_code
def yX1_isWhole : MethodName := ⟨RX1, "isWhole", "()Z"⟩
abbrev cX1_growTrees : ByteArray := prog_3_method_7_code
def yX1_growTrees : MethodName := ⟨RX1, "growTrees", "()V"⟩
abbrev cX1_treesTo : ByteArray := prog_3_method_8_code
def yX1_treesTo : MethodName := ⟨RX1, "treesTo", "(I)J"⟩
abbrev cX1_rowOf : ByteArray := prog_3_method_9_code
def yX1_rowOf : MethodName := ⟨RX1, "rowOf", "(II)I"⟩
abbrev cX1_minorOf : ByteArray := prog_3_method_10_code
def yX1_minorOf : MethodName := ⟨RX1, "minorOf", "(II)J"⟩
def RX2 : String := "RingPages$Past"
def TX2 : u_T := fun k => match k with
  | 0 => ("RingPages$Past", "kept", "[LRingPages$State;", true)
  | 1 => ("RingPages$Past", "next", "I", false)
  | _ => ("RingPages$Past", "held", "I", false)
def tyX2 : Nat → FieldType := fun k => match k with
  | 0 => .array (.object "RingPages$State")
  | 1 => .int
  | _ => .int
abbrev wsX20 : List Cond := u_ws RX2 TX2 3
theorem nmX2 : ∀ a, a < 3 → ∀ b, b < 3 → a ≠ b → (TX2 a).2.1 ≠ (TX2 b).2.1 := by decide +kernel
theorem tyX2_ok : ∀ k, k < 3 → parseFieldDescriptor (TX2 k).2.2.1 = some (tyX2 k) := by decide +kernel
abbrev cX2_init : ByteArray := prog_4_method_1_code
def yX2_init : MethodName := ⟨RX2, "<init>", "()V"⟩
abbrev cX2_keep : ByteArray := prog_4_method_2_code
def yX2_keep : MethodName := ⟨RX2, "keep", "(LRingPages$State;)V"⟩
abbrev cX2_bringBack : ByteArray := prog_4_method_3_code
def yX2_bringBack : MethodName := ⟨RX2, "bringBack", "(LRingPages$State;)Z"⟩
def RX3 : String := "RingPages$Rounds"
def TX3 : u_T := fun k => match k with
  | 0 => ("RingPages$Rounds", "row", "[I", true)
  | 1 => ("RingPages$Rounds", "length", "I", false)
  | 2 => ("RingPages$Rounds", "cuts", "I", false)
  | _ => ("RingPages$Rounds", "many", "I", false)
def tyX3 : Nat → FieldType := fun k => match k with
  | 0 => .array .int
  | 1 => .int
  | 2 => .int
  | _ => .int
abbrev wsX30 : List Cond := u_ws RX3 TX3 4
theorem nmX3 : ∀ a, a < 4 → ∀ b, b < 4 → a ≠ b → (TX3 a).2.1 ≠ (TX3 b).2.1 := by decide +kernel
theorem tyX3_ok : ∀ k, k < 4 → parseFieldDescriptor (TX3 k).2.2.1 = some (tyX3 k) := by decide +kernel
abbrev cX3_init : ByteArray := prog_5_method_1_code
def yX3_init : MethodName := ⟨RX3, "<init>", "()V"⟩
abbrev cX3_lineUp : ByteArray := prog_5_method_2_code
def yX3_lineUp : MethodName := ⟨RX3, "lineUp", "(I[J)V"⟩
abbrev cX3_split : ByteArray := prog_5_method_3_code
def yX3_split : MethodName := ⟨RX3, "split", "(I[J)V"⟩
abbrev cX3_isCutBehind : ByteArray := prog_5_method_4_code
def yX3_isCutBehind : MethodName := ⟨RX3, "isCutBehind", "(II)Z"⟩
abbrev cX3_meanPaged : ByteArray := prog_5_method_5_code
def yX3_meanPaged : MethodName := ⟨RX3, "meanPaged", "(I[J)J"⟩
abbrev cX3_cellsOf : ByteArray := prog_5_method_6_code
def yX3_cellsOf : MethodName := ⟨RX3, "cellsOf", "(I)I"⟩
def RX4 : String := "RingPages$State"
def TX4 : u_T := fun k => match k with
  | 0 => ("RingPages$State", "stay", "[I", true)
  | 1 => ("RingPages$State", "area", "[I", true)
  | 2 => ("RingPages$State", "kind", "I", false)
  | 3 => ("RingPages$State", "value", "I", false)
  | 4 => ("RingPages$State", "cell", "I", false)
  | 5 => ("RingPages$State", "home", "I", false)
  | 6 => ("RingPages$State", "moves", "I", false)
  | 7 => ("RingPages$State", "ticks", "I", false)
  | 8 => ("RingPages$State", "updates", "I", false)
  | _ => ("RingPages$State", "paged", "I", false)
def tyX4 : Nat → FieldType := fun k => match k with
  | 0 => .array .int
  | 1 => .array .int
  | 2 => .int
  | 3 => .int
  | 4 => .int
  | 5 => .int
  | 6 => .int
  | 7 => .int
  | 8 => .int
  | _ => .int
abbrev wsX40 : List Cond := u_ws RX4 TX4 10
theorem nmX4 : ∀ a, a < 10 → ∀ b, b < 10 → a ≠ b → (TX4 a).2.1 ≠ (TX4 b).2.1 := by decide +kernel
theorem tyX4_ok : ∀ k, k < 10 → parseFieldDescriptor (TX4 k).2.2.1 = some (tyX4 k) := by decide +kernel
abbrev cX4_init : ByteArray := prog_6_method_1_code
def yX4_init : MethodName := ⟨RX4, "<init>", "()V"⟩
abbrev cX4_begin : ByteArray := prog_6_method_2_code
def yX4_begin : MethodName := ⟨RX4, "begin", "()V"⟩
abbrev cX4_copyFrom : ByteArray := prog_6_method_3_code
def yX4_copyFrom : MethodName := ⟨RX4, "copyFrom", "(LRingPages$State;)V"⟩
abbrev cX4_register : ByteArray := prog_6_method_4_code
def yX4_register : MethodName := ⟨RX4, "register", "()V"⟩
abbrev cX4_canGo : ByteArray := prog_6_method_5_code
def yX4_canGo : MethodName := ⟨RX4, "canGo", "(LRingPages$Net;I)Z"⟩
abbrev cX4_go : ByteArray := prog_6_method_6_code
def yX4_go : MethodName := ⟨RX4, "go", "(LRingPages$Net;I)Z"⟩
abbrev cX4_isDue : ByteArray := prog_6_method_7_code
def yX4_isDue : MethodName := ⟨RX4, "isDue", "(LRingPages$Net;)Z"⟩
abbrev cX4_isOutside : ByteArray := prog_6_method_8_code
def yX4_isOutside : MethodName := ⟨RX4, "isOutside", "(LRingPages$Net;I)Z"⟩
abbrev cX4_drawnCell : ByteArray := prog_6_method_9_code
def yX4_drawnCell : MethodName := ⟨RX4, "drawnCell", "(LRingPages$Net;I)I"⟩
def RX5 : String := "RingPages$Text"
def TX5 : u_T := fun k => match k with
  | 0 => ("RingPages$Text", "letters", "[I", true)
  | 1 => ("RingPages$Text", "numbers", "[I", true)
  | 2 => ("RingPages$Text", "place", "I", false)
  | _ => ("RingPages$Text", "length", "I", false)
def tyX5 : Nat → FieldType := fun k => match k with
  | 0 => .array .int
  | 1 => .array .int
  | 2 => .int
  | _ => .int
abbrev wsX50 : List Cond := u_ws RX5 TX5 4
theorem nmX5 : ∀ a, a < 4 → ∀ b, b < 4 → a ≠ b → (TX5 a).2.1 ≠ (TX5 b).2.1 := by decide +kernel
theorem tyX5_ok : ∀ k, k < 4 → parseFieldDescriptor (TX5 k).2.2.1 = some (tyX5 k) := by decide +kernel
abbrev cX5_init : ByteArray := prog_7_method_1_code
def yX5_init : MethodName := ⟨RX5, "<init>", "()V"⟩
abbrev cX5_append : ByteArray := prog_7_method_2_code
def yX5_append : MethodName := ⟨RX5, "append", "(I)Z"⟩
abbrev cX5_readInto : ByteArray := prog_7_method_3_code
def yX5_readInto : MethodName := ⟨RX5, "readInto", "(LRingPages$Net;LRingPages$State;)I"⟩
abbrev cX5_readItem : ByteArray := prog_7_method_4_code
def yX5_readItem : MethodName := ⟨RX5, "readItem", "(LRingPages$Net;LRingPages$State;)Z"⟩
abbrev cX5_numbersBehind : ByteArray := prog_7_method_5_code
def yX5_numbersBehind : MethodName := ⟨RX5, "numbersBehind", "(I)I"⟩
abbrev cX5_takeCells : ByteArray := prog_7_method_6_code
def yX5_takeCells : MethodName := ⟨RX5, "takeCells", "(LRingPages$Net;)Z"⟩
abbrev cX5_takeJoin : ByteArray := prog_7_method_7_code
def yX5_takeJoin : MethodName := ⟨RX5, "takeJoin", "(LRingPages$Net;)Z"⟩
abbrev cX5_isWeight : ByteArray := prog_7_method_8_code
def yX5_isWeight : MethodName := ⟨RX5, "isWeight", "(I)Z"⟩
abbrev cX5_takeCellNumber : ByteArray := prog_7_method_9_code
def yX5_takeCellNumber : MethodName := ⟨RX5, "takeCellNumber", "(LRingPages$Net;[II)Z"⟩
abbrev cX5_takeLaw : ByteArray := prog_7_method_10_code
def yX5_takeLaw : MethodName := ⟨RX5, "takeLaw", "(LRingPages$State;)Z"⟩
abbrev cX5_takePrices : ByteArray := prog_7_method_11_code
def yX5_takePrices : MethodName := ⟨RX5, "takePrices", "(LRingPages$Net;)Z"⟩
abbrev cX5_readNumbers : ByteArray := prog_7_method_12_code
def yX5_readNumbers : MethodName := ⟨RX5, "readNumbers", "(I)Z"⟩
abbrev cX5_readNumber : ByteArray := prog_7_method_13_code
def yX5_readNumber : MethodName := ⟨RX5, "readNumber", "()I"⟩
abbrev cX5_figureHere : ByteArray := prog_7_method_14_code
def yX5_figureHere : MethodName := ⟨RX5, "figureHere", "()I"⟩
abbrev cX5_letterHere : ByteArray := prog_7_method_15_code
def yX5_letterHere : MethodName := ⟨RX5, "letterHere", "()I"⟩
def RX6 : String := "RingPages$Whereabouts"
def TX6 : u_T := fun k => match k with
  | _ => ("RingPages$Whereabouts", "reached", "[I", true)
def tyX6 : Nat → FieldType := fun k => match k with
  | _ => .array .int
abbrev wsX60 : List Cond := u_ws RX6 TX6 1
theorem nmX6 : ∀ a, a < 1 → ∀ b, b < 1 → a ≠ b → (TX6 a).2.1 ≠ (TX6 b).2.1 := by decide +kernel
theorem tyX6_ok : ∀ k, k < 1 → parseFieldDescriptor (TX6 k).2.2.1 = some (tyX6 k) := by decide +kernel
abbrev cX6_init : ByteArray := prog_8_method_1_code
def yX6_init : MethodName := ⟨RX6, "<init>", "()V"⟩
abbrev cX6_find : ByteArray := prog_8_method_2_code
def yX6_find : MethodName := ⟨RX6, "find", "(LRingPages$Net;LRingPages$State;)I"⟩
abbrev cX6_insideOf : ByteArray := prog_8_method_3_code
def yX6_insideOf : MethodName := ⟨RX6, "insideOf", "(LRingPages$Net;LRingPages$State;)I"⟩
abbrev cX6_step : ByteArray := prog_8_method_4_code
def yX6_step : MethodName := ⟨RX6, "step", "(LRingPages$Net;LRingPages$State;II)Z"⟩
abbrev cX6_stayers : ByteArray := prog_8_method_5_code
def yX6_stayers : MethodName := ⟨RX6, "stayers", "(LRingPages$Net;LRingPages$State;I)I"⟩
abbrev cX6_movers : ByteArray := prog_8_method_6_code
def yX6_movers : MethodName := ⟨RX6, "movers", "(LRingPages$Net;I)I"⟩
def RX7 : String := "RingPages"
def TX7 : u_T := fun k => match k with
  | 0 => ("RingPages", "text", "LRingPages$Text;", true)
  | 1 => ("RingPages", "past", "LRingPages$Past;", true)
  | 2 => ("RingPages", "longRun", "LRingPages$LongRun;", true)
  | 3 => ("RingPages", "whereabouts", "LRingPages$Whereabouts;", true)
  | 4 => ("RingPages", "rounds", "LRingPages$Rounds;", true)
  | 5 => ("RingPages", "walker", "LRingPages$State;", true)
  | 6 => ("RingPages", "net", "LRingPages$Net;", false)
  | 7 => ("RingPages", "state", "LRingPages$State;", false)
  | 8 => ("RingPages", "draftNet", "LRingPages$Net;", false)
  | _ => ("RingPages", "draftState", "LRingPages$State;", false)
def tyX7 : Nat → FieldType := fun k => match k with
  | 0 => .object "RingPages$Text"
  | 1 => .object "RingPages$Past"
  | 2 => .object "RingPages$LongRun"
  | 3 => .object "RingPages$Whereabouts"
  | 4 => .object "RingPages$Rounds"
  | 5 => .object "RingPages$State"
  | 6 => .object "RingPages$Net"
  | 7 => .object "RingPages$State"
  | 8 => .object "RingPages$Net"
  | _ => .object "RingPages$State"
abbrev wsX70 : List Cond := u_ws RX7 TX7 10
theorem nmX7 : ∀ a, a < 10 → ∀ b, b < 10 → a ≠ b → (TX7 a).2.1 ≠ (TX7 b).2.1 := by decide +kernel
theorem tyX7_ok : ∀ k, k < 10 → parseFieldDescriptor (TX7 k).2.2.1 = some (tyX7 k) := by decide +kernel
abbrev cX7_init : ByteArray := prog_1_method_1_code
def yX7_init : MethodName := ⟨RX7, "<init>", "()V"⟩
abbrev cX7_write : ByteArray := prog_1_method_2_code
def yX7_write : MethodName := ⟨RX7, "write", "(I)I"⟩
abbrev cX7_wipe : ByteArray := prog_1_method_3_code
def yX7_wipe : MethodName := ⟨RX7, "wipe", "()I"⟩
abbrev cX7_fault : ByteArray := prog_1_method_4_code
def yX7_fault : MethodName := ⟨RX7, "fault", "()I"⟩
abbrev cX7_lay : ByteArray := prog_1_method_5_code
def yX7_lay : MethodName := ⟨RX7, "lay", "()I"⟩
abbrev cX7_layText : ByteArray := prog_1_method_6_code
def yX7_layText : MethodName := ⟨RX7, "layText", "()Z"⟩
abbrev cX7_set : ByteArray := prog_1_method_7_code
def yX7_set : MethodName := ⟨RX7, "set", "(III)I"⟩
abbrev cX7_law : ByteArray := prog_1_method_8_code
def yX7_law : MethodName := ⟨RX7, "law", "(II)I"⟩
abbrev cX7_give : ByteArray := prog_1_method_9_code
def yX7_give : MethodName := ⟨RX7, "give", "()I"⟩
abbrev cX7_undo : ByteArray := prog_1_method_10_code
def yX7_undo : MethodName := ⟨RX7, "undo", "()I"⟩
abbrev cX7_cell : ByteArray := prog_1_method_11_code
def yX7_cell : MethodName := ⟨RX7, "cell", "(II)I"⟩
abbrev cX7_weight : ByteArray := prog_1_method_12_code
def yX7_weight : MethodName := ⟨RX7, "weight", "(II)I"⟩
abbrev cX7_wide : ByteArray := prog_1_method_13_code
def yX7_wide : MethodName := ⟨RX7, "wide", "(II)I"⟩
abbrev cX7_tick : ByteArray := prog_1_method_14_code
def yX7_tick : MethodName := ⟨RX7, "tick", "(I)I"⟩
abbrev cX7_page : ByteArray := prog_1_method_15_code
def yX7_page : MethodName := ⟨RX7, "page", "()I"⟩
abbrev cX7_handset : ByteArray := prog_1_method_16_code
def yX7_handset : MethodName := ⟨RX7, "handset", "(I)I"⟩
abbrev cX7_where : ByteArray := prog_1_method_17_code
def yX7_where : MethodName := ⟨RX7, "where", "()I"⟩
abbrev cX7_round : ByteArray := prog_1_method_18_code
def yX7_round : MethodName := ⟨RX7, "round", "(I)I"⟩
abbrev cX7_seek : ByteArray := prog_1_method_19_code
def yX7_seek : MethodName := ⟨RX7, "seek", "()V"⟩
abbrev cX7_chance : ByteArray := prog_1_method_20_code
def yX7_chance : MethodName := ⟨RX7, "chance", "(II)J"⟩
abbrev cX7_mean : ByteArray := prog_1_method_21_code
def yX7_mean : MethodName := ⟨RX7, "mean", "(II)J"⟩
abbrev cX7_rate : ByteArray := prog_1_method_22_code
def yX7_rate : MethodName := ⟨RX7, "rate", "(I)J"⟩
abbrev cX7_best : ByteArray := prog_1_method_23_code
def yX7_best : MethodName := ⟨RX7, "best", "(I)I"⟩
abbrev cX7_least : ByteArray := prog_1_method_24_code
def yX7_least : MethodName := ⟨RX7, "least", "(I)J"⟩
abbrev cX7_walk : ByteArray := prog_1_method_25_code
def yX7_walk : MethodName := ⟨RX7, "walk", "(III)I"⟩
abbrev cX7_count : ByteArray := prog_1_method_26_code
def yX7_count : MethodName := ⟨RX7, "count", "(I)I"⟩
abbrev cX7_isCell : ByteArray := prog_1_method_27_code
def yX7_isCell : MethodName := ⟨RX7, "isCell", "(I)Z"⟩
abbrev cX7_isPart : ByteArray := prog_1_method_28_code
def yX7_isPart : MethodName := ⟨RX7, "isPart", "(I)Z"⟩
abbrev cX7_isLaw : ByteArray := prog_1_method_29_code
def yX7_isLaw : MethodName := ⟨RX7, "isLaw", "(II)Z"⟩
abbrev cX7_holds : ByteArray := prog_1_method_30_code
def yX7_holds : MethodName := ⟨RX7, "holds", "(II)Z"⟩
abbrev cX7_sameArea : ByteArray := prog_1_method_31_code
def yX7_sameArea : MethodName := ⟨RX7, "sameArea", "(I[II)I"⟩
abbrev cX7_draw : ByteArray := prog_1_method_32_code
def yX7_draw : MethodName := ⟨RX7, "draw", "(II)I"⟩
abbrev cX7_lowest : ByteArray := prog_1_method_33_code
def yX7_lowest : MethodName := ⟨RX7, "lowest", "(JJI)J"⟩
abbrev cX7_greatestShared : ByteArray := prog_1_method_34_code
def yX7_greatestShared : MethodName := ⟨RX7, "greatestShared", "(JJ)J"⟩
def RX8 : String := "RingPagesModel"
def TX8 : u_T := fun k => match k with
  | 0 => ("RingPagesModel", "length", "I", false)
  | 1 => ("RingPagesModel", "text", "[I", true)
  | 2 => ("RingPagesModel", "cells", "I", false)
  | 3 => ("RingPagesModel", "joins", "I", false)
  | 4 => ("RingPagesModel", "weight", "[I", true)
  | 5 => ("RingPagesModel", "price", "[I", true)
  | 6 => ("RingPagesModel", "now", "[I", true)
  | 7 => ("RingPagesModel", "was", "[I", true)
  | 8 => ("RingPagesModel", "changes", "I", false)
  | 9 => ("RingPagesModel", "readCells", "I", false)
  | 10 => ("RingPagesModel", "readJoins", "I", false)
  | 11 => ("RingPagesModel", "readWeight", "[I", true)
  | 12 => ("RingPagesModel", "readPrice", "[I", true)
  | 13 => ("RingPagesModel", "read", "[I", true)
  | 14 => ("RingPagesModel", "value", "I", false)
  | 15 => ("RingPagesModel", "ends", "I", false)
  | 16 => ("RingPagesModel", "can", "[I", true)
  | 17 => ("RingPagesModel", "next", "[I", true)
  | 18 => ("RingPagesModel", "trees", "[J", true)
  | 19 => ("RingPagesModel", "table", "[J", true)
  | 20 => ("RingPagesModel", "tried", "[I", true)
  | 21 => ("RingPagesModel", "best", "[I", true)
  | 22 => ("RingPagesModel", "row", "[I", true)
  | 23 => ("RingPagesModel", "rows", "I", false)
  | 24 => ("RingPagesModel", "cuts", "I", false)
  | _ => ("RingPagesModel", "walker", "[I", true)
def tyX8 : Nat → FieldType := fun k => match k with
  | 0 => .int
  | 1 => .array .int
  | 2 => .int
  | 3 => .int
  | 4 => .array .int
  | 5 => .array .int
  | 6 => .array .int
  | 7 => .array .int
  | 8 => .int
  | 9 => .int
  | 10 => .int
  | 11 => .array .int
  | 12 => .array .int
  | 13 => .array .int
  | 14 => .int
  | 15 => .int
  | 16 => .array .int
  | 17 => .array .int
  | 18 => .array .long
  | 19 => .array .long
  | 20 => .array .int
  | 21 => .array .int
  | 22 => .array .int
  | 23 => .int
  | 24 => .int
  | _ => .array .int
abbrev wsX80 : List Cond := u_ws RX8 TX8 26
theorem nmX8 : ∀ a, a < 26 → ∀ b, b < 26 → a ≠ b → (TX8 a).2.1 ≠ (TX8 b).2.1 := by decide +kernel
theorem tyX8_ok : ∀ k, k < 26 → parseFieldDescriptor (TX8 k).2.2.1 = some (tyX8 k) := by decide +kernel
abbrev cX8_init : ByteArray := prog_10_method_1_code
def yX8_init : MethodName := ⟨RX8, "<init>", "()V"⟩
abbrev cX8_joinOf : ByteArray := prog_10_method_2_code
def yX8_joinOf : MethodName := ⟨RX8, "joinOf", "(IIII)V"⟩
abbrev cX8_isIn : ByteArray := prog_10_method_3_code
def yX8_isIn : MethodName := ⟨RX8, "isIn", "(III)Z"⟩
abbrev cX8_clears : ByteArray := prog_10_method_4_code
def yX8_clears : MethodName := ⟨RX8, "clears", "()V"⟩
abbrev cX8_takes : ByteArray := prog_10_method_5_code
def yX8_takes : MethodName := ⟨RX8, "takes", "()V"⟩
abbrev cX8_letterAt : ByteArray := prog_10_method_6_code
def yX8_letterAt : MethodName := ⟨RX8, "letterAt", "(I)I"⟩
abbrev cX8_number : ByteArray := prog_10_method_7_code
def yX8_number : MethodName := ⟨RX8, "number", "(III)Z"⟩
abbrev cX8_more : ByteArray := prog_10_method_8_code
def yX8_more : MethodName := ⟨RX8, "more", "(II)Z"⟩
abbrev cX8_readsJoin : ByteArray := prog_10_method_9_code
def yX8_readsJoin : MethodName := ⟨RX8, "readsJoin", "(I)Z"⟩
abbrev cX8_readsCell : ByteArray := prog_10_method_10_code
def yX8_readsCell : MethodName := ⟨RX8, "readsCell", "(II)Z"⟩
abbrev cX8_isLaw : ByteArray := prog_10_method_11_code
def yX8_isLaw : MethodName := ⟨RX8, "isLaw", "(II)Z"⟩
abbrev cX8_readsLaw : ByteArray := prog_10_method_12_code
def yX8_readsLaw : MethodName := ⟨RX8, "readsLaw", "(I)Z"⟩
abbrev cX8_readsPrice : ByteArray := prog_10_method_13_code
def yX8_readsPrice : MethodName := ⟨RX8, "readsPrice", "(I)Z"⟩
abbrev cX8_readsItem : ByteArray := prog_10_method_14_code
def yX8_readsItem : MethodName := ⟨RX8, "readsItem", "(II)Z"⟩
abbrev cX8_reads : ByteArray := prog_10_method_15_code
def yX8_reads : MethodName := ⟨RX8, "reads", "()I"⟩
abbrev cX8_hang : ByteArray := prog_10_method_16_code
def yX8_hang : MethodName := ⟨RX8, "hang", "()Z"⟩
abbrev cX8_write : ByteArray := prog_10_method_17_code
def yX8_write : MethodName := ⟨RX8, "write", "(I)I"⟩
abbrev cX8_wipe : ByteArray := prog_10_method_18_code
def yX8_wipe : MethodName := ⟨RX8, "wipe", "()I"⟩
abbrev cX8_fault : ByteArray := prog_10_method_19_code
def yX8_fault : MethodName := ⟨RX8, "fault", "()I"⟩
abbrev cX8_lay : ByteArray := prog_10_method_20_code
def yX8_lay : MethodName := ⟨RX8, "lay", "()I"⟩
abbrev cX8_keeps : ByteArray := prog_10_method_21_code
def yX8_keeps : MethodName := ⟨RX8, "keeps", "()V"⟩
abbrev cX8_undo : ByteArray := prog_10_method_22_code
def yX8_undo : MethodName := ⟨RX8, "undo", "()I"⟩
abbrev cX8_isCell : ByteArray := prog_10_method_23_code
def yX8_isCell : MethodName := ⟨RX8, "isCell", "(I)Z"⟩
abbrev cX8_registers : ByteArray := prog_10_method_24_code
def yX8_registers : MethodName := ⟨RX8, "registers", "([I)V"⟩
abbrev cX8_set : ByteArray := prog_10_method_25_code
def yX8_set : MethodName := ⟨RX8, "set", "(III)I"⟩
abbrev cX8_law : ByteArray := prog_10_method_26_code
def yX8_law : MethodName := ⟨RX8, "law", "(II)I"⟩
abbrev cX8_out : ByteArray := prog_10_method_27_code
def yX8_out : MethodName := ⟨RX8, "out", "(I)I"⟩
abbrev cX8_sum : ByteArray := prog_10_method_28_code
def yX8_sum : MethodName := ⟨RX8, "sum", "(I)I"⟩
abbrev cX8_joined : ByteArray := prog_10_method_29_code
def yX8_joined : MethodName := ⟨RX8, "joined", "(I)I"⟩
abbrev cX8_likeArea : ByteArray := prog_10_method_30_code
def yX8_likeArea : MethodName := ⟨RX8, "likeArea", "(I)I"⟩
abbrev cX8_cell : ByteArray := prog_10_method_31_code
def yX8_cell : MethodName := ⟨RX8, "cell", "(II)I"⟩
abbrev cX8_weight : ByteArray := prog_10_method_32_code
def yX8_weight : MethodName := ⟨RX8, "weight", "(II)I"⟩
abbrev cX8_far : ByteArray := prog_10_method_33_code
def yX8_far : MethodName := ⟨RX8, "far", "(II)I"⟩
abbrev cX8_wide : ByteArray := prog_10_method_34_code
def yX8_wide : MethodName := ⟨RX8, "wide", "(II)I"⟩
abbrev cX8_isDue : ByteArray := prog_10_method_35_code
def yX8_isDue : MethodName := ⟨RX8, "isDue", "([I)Z"⟩
abbrev cX8_goes : ByteArray := prog_10_method_36_code
def yX8_goes : MethodName := ⟨RX8, "goes", "([II)I"⟩
abbrev cX8_tick : ByteArray := prog_10_method_37_code
def yX8_tick : MethodName := ⟨RX8, "tick", "(I)I"⟩
abbrev cX8_handset : ByteArray := prog_10_method_38_code
def yX8_handset : MethodName := ⟨RX8, "handset", "(I)I"⟩
abbrev cX8_allowed : ByteArray := prog_10_method_39_code
def yX8_allowed : MethodName := ⟨RX8, "allowed", "()I"⟩
abbrev cX8_whereIs : ByteArray := prog_10_method_40_code
def yX8_whereIs : MethodName := ⟨RX8, "whereIs", "()I"⟩
abbrev cX8_where : ByteArray := prog_10_method_41_code
def yX8_where : MethodName := ⟨RX8, "where", "()I"⟩
abbrev cX8_determinant : ByteArray := prog_10_method_42_code
def yX8_determinant : MethodName := ⟨RX8, "determinant", "(I)J"⟩
abbrev cX8_grows : ByteArray := prog_10_method_43_code
def yX8_grows : MethodName := ⟨RX8, "grows", "()V"⟩
abbrev cX8_below : ByteArray := prog_10_method_44_code
def yX8_below : MethodName := ⟨RX8, "below", "()J"⟩
abbrev cX8_common : ByteArray := prog_10_method_45_code
def yX8_common : MethodName := ⟨RX8, "common", "(JJ)J"⟩
abbrev cX8_term : ByteArray := prog_10_method_46_code
def yX8_term : MethodName := ⟨RX8, "term", "(JJI)J"⟩
abbrev cX8_chance : ByteArray := prog_10_method_47_code
def yX8_chance : MethodName := ⟨RX8, "chance", "(II)J"⟩
abbrev cX8_crossing : ByteArray := prog_10_method_48_code
def yX8_crossing : MethodName := ⟨RX8, "crossing", "([IIZ)J"⟩
abbrev cX8_expense : ByteArray := prog_10_method_49_code
def yX8_expense : MethodName := ⟨RX8, "expense", "([II)J"⟩
abbrev cX8_mean : ByteArray := prog_10_method_50_code
def yX8_mean : MethodName := ⟨RX8, "mean", "(II)J"⟩
abbrev cX8_goesOn : ByteArray := prog_10_method_51_code
def yX8_goesOn : MethodName := ⟨RX8, "goesOn", "()Z"⟩
abbrev cX8_finds : ByteArray := prog_10_method_52_code
def yX8_finds : MethodName := ⟨RX8, "finds", "()J"⟩
abbrev cX8_best : ByteArray := prog_10_method_53_code
def yX8_best : MethodName := ⟨RX8, "best", "(I)I"⟩
abbrev cX8_least : ByteArray := prog_10_method_54_code
def yX8_least : MethodName := ⟨RX8, "least", "(I)J"⟩
abbrev cX8_give : ByteArray := prog_10_method_55_code
def yX8_give : MethodName := ⟨RX8, "give", "()I"⟩
abbrev cX8_ranks : ByteArray := prog_10_method_56_code
def yX8_ranks : MethodName := ⟨RX8, "ranks", "()V"⟩
abbrev cX8_bits : ByteArray := prog_10_method_57_code
def yX8_bits : MethodName := ⟨RX8, "bits", "(I)I"⟩
abbrev cX8_paged : ByteArray := prog_10_method_58_code
def yX8_paged : MethodName := ⟨RX8, "paged", "(I)J"⟩
abbrev cX8_isFirst : ByteArray := prog_10_method_59_code
def yX8_isFirst : MethodName := ⟨RX8, "isFirst", "(II)Z"⟩
abbrev cX8_splits : ByteArray := prog_10_method_60_code
def yX8_splits : MethodName := ⟨RX8, "splits", "()V"⟩
abbrev cX8_round : ByteArray := prog_10_method_61_code
def yX8_round : MethodName := ⟨RX8, "round", "(I)I"⟩
abbrev cX8_page : ByteArray := prog_10_method_62_code
def yX8_page : MethodName := ⟨RX8, "page", "()I"⟩
abbrev cX8_walk : ByteArray := prog_10_method_63_code
def yX8_walk : MethodName := ⟨RX8, "walk", "(III)I"⟩
abbrev cX8_count : ByteArray := prog_10_method_64_code
def yX8_count : MethodName := ⟨RX8, "count", "(I)I"⟩
def RJ6 : String := "java/lang/Integer"
def TJ6 : u_T := fun k => match k with
  | _ => ("", "", "", false)
def tyJ6 : Nat → FieldType := fun k => match k with
  | _ => .int
abbrev wsJ60 : List Cond := u_ws RJ6 TJ6 0
theorem nmJ6 : ∀ a, a < 0 → ∀ b, b < 0 → a ≠ b → (TJ6 a).2.1 ≠ (TJ6 b).2.1 := by decide +kernel
theorem tyJ6_ok : ∀ k, k < 0 → parseFieldDescriptor (TJ6 k).2.2.1 = some (tyJ6 k) := by decide +kernel
abbrev cJ6_bitCount_0f7a4 : ByteArray := prog_11_method_49_code
def yJ6_bitCount_0f7a4 : MethodName := ⟨RJ6, "bitCount", "(I)I"⟩
def RJ9 : String := "java/lang/Math"
def TJ9 : u_T := fun k => match k with
  | _ => ("", "", "", false)
def tyJ9 : Nat → FieldType := fun k => match k with
  | _ => .int
abbrev wsJ90 : List Cond := u_ws RJ9 TJ9 0
theorem nmJ9 : ∀ a, a < 0 → ∀ b, b < 0 → a ≠ b → (TJ9 a).2.1 ≠ (TJ9 b).2.1 := by decide +kernel
theorem tyJ9_ok : ∀ k, k < 0 → parseFieldDescriptor (TJ9 k).2.2.1 = some (tyJ9 k) := by decide +kernel
abbrev cJ9_max_7cf53 : ByteArray := prog_12_method_65_code
def yJ9_max_7cf53 : MethodName := ⟨RJ9, "max", "(II)I"⟩
abbrev cJ9_min_7cf53 : ByteArray := prog_12_method_69_code
def yJ9_min_7cf53 : MethodName := ⟨RJ9, "min", "(II)I"⟩
def RJ0 : String := "java/lang/String"
def TJ0 : u_T := fun k => match k with
  | _ => ("", "", "", false)
def tyJ0 : Nat → FieldType := fun k => match k with
  | _ => .int
abbrev wsJ00 : List Cond := u_ws RJ0 TJ0 0
theorem nmJ0 : ∀ a, a < 0 → ∀ b, b < 0 → a ≠ b → (TJ0 a).2.1 ≠ (TJ0 b).2.1 := by decide +kernel
theorem tyJ0_ok : ∀ k, k < 0 → parseFieldDescriptor (TJ0 k).2.2.1 = some (tyJ0 k) := by decide +kernel
abbrev cJ0_length_8abf5 : ByteArray := prog_13_method_54_code
def yJ0_length_8abf5 : MethodName := ⟨RJ0, "length", "()I"⟩
abbrev cJ0_charAt_5068e : ByteArray := prog_13_method_56_code
def yJ0_charAt_5068e : MethodName := ⟨RJ0, "charAt", "(I)C"⟩
abbrev cJ0_coder_7d493 : ByteArray := prog_13_method_152_code
def yJ0_coder_7d493 : MethodName := ⟨RJ0, "coder", "()B"⟩
abbrev cJ0_isLatin1_aae02 : ByteArray := prog_13_method_154_code
def yJ0_isLatin1_aae02 : MethodName := ⟨RJ0, "isLatin1", "()Z"⟩
abbrev cJ0_checkIndex_df160 : ByteArray := prog_13_method_155_code
def yJ0_checkIndex_df160 : MethodName := ⟨RJ0, "checkIndex", "(II)V"⟩
def RJ1 : String := "java/lang/StringLatin1"
def TJ1 : u_T := fun k => match k with
  | _ => ("", "", "", false)
def tyJ1 : Nat → FieldType := fun k => match k with
  | _ => .int
abbrev wsJ10 : List Cond := u_ws RJ1 TJ1 0
theorem nmJ1 : ∀ a, a < 0 → ∀ b, b < 0 → a ≠ b → (TJ1 a).2.1 ≠ (TJ1 b).2.1 := by decide +kernel
theorem tyJ1_ok : ∀ k, k < 0 → parseFieldDescriptor (TJ1 k).2.2.1 = some (tyJ1 k) := by decide +kernel
abbrev cJ1_charAt_3b067 : ByteArray := prog_14_method_2_code
def yJ1_charAt_3b067 : MethodName := ⟨RJ1, "charAt", "([BI)C"⟩
def RJ2 : String := "java/lang/StringUTF16"
def TJ2 : u_T := fun k => match k with
  | _ => ("", "", "", false)
def tyJ2 : Nat → FieldType := fun k => match k with
  | _ => .int
abbrev wsJ20 : List Cond := u_ws RJ2 TJ2 0
theorem nmJ2 : ∀ a, a < 0 → ∀ b, b < 0 → a ≠ b → (TJ2 a).2.1 ≠ (TJ2 b).2.1 := by decide +kernel
theorem tyJ2_ok : ∀ k, k < 0 → parseFieldDescriptor (TJ2 k).2.2.1 = some (tyJ2 k) := by decide +kernel
abbrev cJ2_getChar_3b067 : ByteArray := prog_15_method_5_code
def yJ2_getChar_3b067 : MethodName := ⟨RJ2, "getChar", "([BI)C"⟩
abbrev cJ2_length_9d52b : ByteArray := prog_15_method_6_code
def yJ2_length_9d52b : MethodName := ⟨RJ2, "length", "([B)I"⟩
abbrev cJ2_charAt_3b067 : ByteArray := prog_15_method_83_code
def yJ2_charAt_3b067 : MethodName := ⟨RJ2, "charAt", "([BI)C"⟩
abbrev cJ2_checkIndex_2214a : ByteArray := prog_15_method_91_code
def yJ2_checkIndex_2214a : MethodName := ⟨RJ2, "checkIndex", "(I[B)V"⟩
def RJ10 : String := "java/lang/System"
def TJ10 : u_T := fun k => match k with
  | _ => ("", "", "", false)
def tyJ10 : Nat → FieldType := fun k => match k with
  | _ => .int
abbrev wsJ100 : List Cond := u_ws RJ10 TJ10 0
theorem nmJ10 : ∀ a, a < 0 → ∀ b, b < 0 → a ≠ b → (TJ10 a).2.1 ≠ (TJ10 b).2.1 := by decide +kernel
theorem tyJ10_ok : ∀ k, k < 0 → parseFieldDescriptor (TJ10 k).2.2.1 = some (tyJ10 k) := by decide +kernel
def RJ3 : String := "jdk/internal/util/Preconditions"
def TJ3 : u_T := fun k => match k with
  | _ => ("", "", "", false)
def tyJ3 : Nat → FieldType := fun k => match k with
  | _ => .int
abbrev wsJ30 : List Cond := u_ws RJ3 TJ3 0
theorem nmJ3 : ∀ a, a < 0 → ∀ b, b < 0 → a ≠ b → (TJ3 a).2.1 ≠ (TJ3 b).2.1 := by decide +kernel
theorem tyJ3_ok : ∀ k, k < 0 → parseFieldDescriptor (TJ3 k).2.2.1 = some (tyJ3 k) := by decide +kernel
abbrev cJ3_checkIndex_8e157 : ByteArray := prog_17_method_11_code
def yJ3_checkIndex_8e157 : MethodName := ⟨RJ3, "checkIndex", "(IILjava/util/function/BiFunction;)I"⟩
def RL : String := "RingPagesLaw"
abbrev cL_law : ByteArray := code
def yL_law : MethodName := ⟨RL, "law", "([I)Z"⟩
def wsX0_init : List Cond := .code yX0_init cX0_init 1 none :: ([.methodLink RX0 3 objectInit, .instanceMethod objectInit, .code objectInit ⟨#[0xb1]⟩ 1 none, .arrayClass .long, .fieldLink RX0 9 "RingPages$LongRun" "above" "[J", .arrayClass .int, .fieldLink RX0 15 "RingPages$LongRun" "best" "[I", .fieldLink RX0 19 "RingPages$LongRun" "tried" "[I"] ++ wsX00)
def wsX0_reckon : List Cond := .code yX0_reckon cX0_reckon 4 none :: ([.fieldLink RX0 22 "RingPages$LongRun" "below" "J", .fieldLink RX0 26 "RingPages$Net" "cells" "I", .fieldLink RX0 9 "RingPages$LongRun" "above" "[J", .fieldLink RX0 32 "RingPages$State" "stay" "[I", .fieldLink RX0 37 "RingPages$Net" "out" "[I", .fieldLink RX0 40 "RingPages$Net" "trees" "[J", .fieldLink RX0 43 "RingPages$LongRun" "bestKnown" "Z"] ++ wsX00 ++ wsX10 ++ wsX40)
def wsX0_crosses : List Cond := .code yX0_crosses cX0_crosses 7 (some .long) :: ([.fieldLink RX0 26 "RingPages$Net" "cells" "I", .fieldLink RX0 40 "RingPages$Net" "trees" "[J", .fieldLink RX0 47 "RingPages$Net" "weight" "[[I"] ++ wsX10)
def wsX0_movesOn : List Cond := .code yX0_movesOn cX0_movesOn 5 (some .long) :: ([.fieldLink RX0 26 "RingPages$Net" "cells" "I", .fieldLink RX0 40 "RingPages$Net" "trees" "[J", .fieldLink RX0 37 "RingPages$Net" "out" "[I"] ++ wsX10)
def wsX7_sameArea : List Cond := .code yX7_sameArea cX7_sameArea 5 (some .int) :: ([])
def wsX0_expense : List Cond := .code yX0_expense cX0_expense 6 (some .long) :: ([.fieldLink RX0 26 "RingPages$Net" "cells" "I", .fieldLink RX0 9 "RingPages$LongRun" "above" "[J", .fieldLink RX0 55 "RingPages$Net" "updateCost" "I", .fieldLink RX0 62 "RingPages$Net" "pageCost" "I", .fieldLink RX0 65 "RingPages$Net" "callChance" "I", .static yX7_sameArea, .initialized RX7, .code yX7_sameArea cX7_sameArea 5 (some .int), .methodLink RX0 58 yX0_crosses, .instanceMethod yX0_crosses, .selects RX0 yX0_crosses yX0_crosses, .initialized RX0, .code yX0_crosses cX0_crosses 7 (some .long), .fieldLink RX0 40 "RingPages$Net" "trees" "[J", .fieldLink RX0 47 "RingPages$Net" "weight" "[[I"] ++ wsX10 ++ wsX00)
def wsX0_takeTried : List Cond := .code yX0_takeTried cX0_takeTried 3 none :: ([.fieldLink RX0 79 "RingPages$LongRun" "leastExpense" "J", .fieldLink RX0 19 "RingPages$LongRun" "tried" "[I", .fieldLink RX0 15 "RingPages$LongRun" "best" "[I", .methodLink RX0 82 arraycopyName, .native arraycopyName, .static arraycopyName, .initialized "java/lang/System"] ++ wsX00)
def wsX0_highestAhead : List Cond := .code yX0_highestAhead cX0_highestAhead 4 (some .int) :: ([.fieldLink RX0 19 "RingPages$LongRun" "tried" "[I", .methodLink RX0 92 Lib.Math.max.name, .static Lib.Math.max.name, .initialized "java/lang/Math", .code Lib.Math.max.name Lib.Math.max.code 2 (some .int)] ++ wsX00)
def wsX0_nextTried : List Cond := .code yX0_nextTried cX0_nextTried 3 (some .boolean) :: ([.fieldLink RX0 19 "RingPages$LongRun" "tried" "[I", .methodLink RX0 88 yX0_highestAhead, .instanceMethod yX0_highestAhead, .selects RX0 yX0_highestAhead yX0_highestAhead, .initialized RX0, .code yX0_highestAhead cX0_highestAhead 4 (some .int), .methodLink RX0 92 Lib.Math.max.name, .static Lib.Math.max.name, .initialized "java/lang/Math", .code Lib.Math.max.name Lib.Math.max.code 2 (some .int)] ++ wsX00)
def wsX0_findBest_r1 : List Cond := [Cond.fieldLink RX0 43 "RingPages$LongRun" "bestKnown" "Z", Cond.fieldLink RX0 19 "RingPages$LongRun" "tried" "[I", Cond.fieldLink RX0 26 "RingPages$Net" "cells" "I", Cond.fieldLink RX0 79 "RingPages$LongRun" "leastExpense" "J", Cond.methodLink RX0 68 yX0_expense, Cond.instanceMethod yX0_expense, Cond.selects RX0 yX0_expense yX0_expense, Cond.initialized RX0, Cond.code yX0_expense cX0_expense 6 (some .long), Cond.fieldLink RX0 9 "RingPages$LongRun" "above" "[J", Cond.fieldLink RX0 55 "RingPages$Net" "updateCost" "I", Cond.fieldLink RX0 62 "RingPages$Net" "pageCost" "I", Cond.fieldLink RX0 65 "RingPages$Net" "callChance" "I", Cond.static yX7_sameArea, Cond.initialized RX7, Cond.code yX7_sameArea cX7_sameArea 5 (some .int), Cond.methodLink RX0 58 yX0_crosses, Cond.instanceMethod yX0_crosses, Cond.selects RX0 yX0_crosses yX0_crosses, Cond.code yX0_crosses cX0_crosses 7 (some .long), Cond.fieldLink RX0 40 "RingPages$Net" "trees" "[J", Cond.fieldLink RX0 47 "RingPages$Net" "weight" "[[I", Cond.methodLink RX0 71 yX0_takeTried, Cond.instanceMethod yX0_takeTried]
def wsX0_findBest_r2 : List Cond := [Cond.selects RX0 yX0_takeTried yX0_takeTried, Cond.code yX0_takeTried cX0_takeTried 3 none, Cond.fieldLink RX0 15 "RingPages$LongRun" "best" "[I", Cond.methodLink RX0 82 arraycopyName, Cond.native arraycopyName, Cond.static arraycopyName, Cond.initialized "java/lang/System", Cond.methodLink RX0 75 yX0_nextTried, Cond.instanceMethod yX0_nextTried, Cond.selects RX0 yX0_nextTried yX0_nextTried, Cond.code yX0_nextTried cX0_nextTried 3 (some .boolean), Cond.methodLink RX0 88 yX0_highestAhead, Cond.instanceMethod yX0_highestAhead, Cond.selects RX0 yX0_highestAhead yX0_highestAhead, Cond.code yX0_highestAhead cX0_highestAhead 4 (some .int), Cond.methodLink RX0 92 Lib.Math.max.name, Cond.static Lib.Math.max.name, Cond.initialized "java/lang/Math", Cond.code Lib.Math.max.name Lib.Math.max.code 2 (some .int)]
def wsX0_findBest : List Cond := .code yX0_findBest cX0_findBest 5 none :: ((wsX0_findBest_r1 ++ wsX0_findBest_r2) ++ wsX00 ++ wsX10)
def wsX1_init : List Cond := .code yX1_init cX1_init 1 none :: ([.methodLink RX1 3 objectInit, .instanceMethod objectInit, .code objectInit ⟨#[0xb1]⟩ 1 none, .classLink RX1 9 "[[I", .arrayClass .int, .fieldLink RX1 11 "RingPages$Net" "weight" "[[I", .fieldLink RX1 16 "RingPages$Net" "wide" "[[I", .fieldLink RX1 19 "RingPages$Net" "near" "[I", .fieldLink RX1 23 "RingPages$Net" "out" "[I", .arrayClass .long, .fieldLink RX1 26 "RingPages$Net" "trees" "[J", .fieldLink RX1 30 "RingPages$Net" "minors" "[J"] ++ wsX10)
def wsX1_price : List Cond := .code yX1_price cX1_price 5 none :: ([.fieldLink RX1 44 "RingPages$Net" "mostRounds" "I", .fieldLink RX1 47 "RingPages$Net" "pageCost" "I", .fieldLink RX1 50 "RingPages$Net" "updateCost" "I", .fieldLink RX1 53 "RingPages$Net" "callChance" "I"] ++ wsX10)
def wsX1_begin : List Cond := .code yX1_begin cX1_begin 4 none :: ([.fieldLink RX1 33 "RingPages$Net" "cells" "I", .fieldLink RX1 37 "RingPages$Net" "joins" "I", .fieldLink RX1 19 "RingPages$Net" "near" "[I", .fieldLink RX1 23 "RingPages$Net" "out" "[I", .fieldLink RX1 11 "RingPages$Net" "weight" "[[I", .fieldLink RX1 16 "RingPages$Net" "wide" "[[I", .methodLink RX1 40 yX1_price, .instanceMethod yX1_price, .selects RX1 yX1_price yX1_price, .initialized RX1, .code yX1_price cX1_price 5 none, .fieldLink RX1 44 "RingPages$Net" "mostRounds" "I", .fieldLink RX1 47 "RingPages$Net" "pageCost" "I", .fieldLink RX1 50 "RingPages$Net" "updateCost" "I", .fieldLink RX1 53 "RingPages$Net" "callChance" "I"] ++ wsX10)
def wsX1_lead : List Cond := .code yX1_lead cX1_lead 4 none :: ([.fieldLink RX1 11 "RingPages$Net" "weight" "[[I", .fieldLink RX1 16 "RingPages$Net" "wide" "[[I", .fieldLink RX1 19 "RingPages$Net" "near" "[I", .fieldLink RX1 23 "RingPages$Net" "out" "[I"] ++ wsX10)
def wsX1_join : List Cond := .code yX1_join cX1_join 5 none :: ([.fieldLink RX1 37 "RingPages$Net" "joins" "I", .methodLink RX1 56 yX1_lead, .instanceMethod yX1_lead, .selects RX1 yX1_lead yX1_lead, .initialized RX1, .code yX1_lead cX1_lead 4 none, .fieldLink RX1 11 "RingPages$Net" "weight" "[[I", .fieldLink RX1 16 "RingPages$Net" "wide" "[[I", .fieldLink RX1 19 "RingPages$Net" "near" "[I", .fieldLink RX1 23 "RingPages$Net" "out" "[I"] ++ wsX10)
def wsX1_isWhole : List Cond := .code yX1_isWhole cX1_isWhole 4 (some .boolean) :: ([.fieldLink RX1 33 "RingPages$Net" "cells" "I", .fieldLink RX1 16 "RingPages$Net" "wide" "[[I", .methodLink RX1 60 Lib.Math.min.name, .static Lib.Math.min.name, .initialized "java/lang/Math", .code Lib.Math.min.name Lib.Math.min.code 2 (some .int)] ++ wsX10)
def wsJ6_bitCount_0f7a4 : List Cond := .code yJ6_bitCount_0f7a4 cJ6_bitCount_0f7a4 1 (some .int) :: ([.constant RJ6 265 (1431655765), .constant RJ6 266 (858993459), .constant RJ6 267 (252645135)])
def wsX1_rowOf : List Cond := .code yX1_rowOf cX1_rowOf 3 (some .int) :: ([])
def wsX7_holds : List Cond := .code yX7_holds cX7_holds 2 (some .boolean) :: ([])
def wsX1_minorOf : List Cond := .code yX1_minorOf cX1_minorOf 9 (some .long) :: ([.fieldLink RX1 33 "RingPages$Net" "cells" "I", .fieldLink RX1 23 "RingPages$Net" "out" "[I", .fieldLink RX1 11 "RingPages$Net" "weight" "[[I", .fieldLink RX1 30 "RingPages$Net" "minors" "[J", .static yX7_holds, .initialized RX7, .code yX7_holds cX7_holds 2 (some .boolean), .methodLink RX1 70 yJ6_bitCount_0f7a4, .static yJ6_bitCount_0f7a4, .initialized RJ6, .code yJ6_bitCount_0f7a4 cJ6_bitCount_0f7a4 1 (some .int), .constant RJ6 265 (1431655765), .constant RJ6 266 (858993459), .constant RJ6 267 (252645135)] ++ wsX10)
def wsX1_treesTo : List Cond := .code yX1_treesTo cX1_treesTo 4 (some .long) :: ([.fieldLink RX1 33 "RingPages$Net" "cells" "I", .fieldLink RX1 30 "RingPages$Net" "minors" "[J", .methodLink RX1 70 yJ6_bitCount_0f7a4, .static yJ6_bitCount_0f7a4, .initialized RJ6, .code yJ6_bitCount_0f7a4 cJ6_bitCount_0f7a4 1 (some .int), .constant RJ6 265 (1431655765), .constant RJ6 266 (858993459), .constant RJ6 267 (252645135), .methodLink RX1 76 yX1_rowOf, .instanceMethod yX1_rowOf, .selects RX1 yX1_rowOf yX1_rowOf, .initialized RX1, .code yX1_rowOf cX1_rowOf 3 (some .int), .methodLink RX1 79 yX1_minorOf, .instanceMethod yX1_minorOf, .selects RX1 yX1_minorOf yX1_minorOf, .code yX1_minorOf cX1_minorOf 9 (some .long), .fieldLink RX1 23 "RingPages$Net" "out" "[I", .fieldLink RX1 11 "RingPages$Net" "weight" "[[I", .static yX7_holds, .initialized RX7, .code yX7_holds cX7_holds 2 (some .boolean)] ++ wsX10)
def wsX1_growTrees_r1 : List Cond := [Cond.fieldLink RX1 33 "RingPages$Net" "cells" "I", Cond.fieldLink RX1 26 "RingPages$Net" "trees" "[J", Cond.methodLink RX1 66 yX1_treesTo, Cond.instanceMethod yX1_treesTo, Cond.selects RX1 yX1_treesTo yX1_treesTo, Cond.initialized RX1, Cond.code yX1_treesTo cX1_treesTo 4 (some .long), Cond.fieldLink RX1 30 "RingPages$Net" "minors" "[J", Cond.methodLink RX1 70 yJ6_bitCount_0f7a4, Cond.static yJ6_bitCount_0f7a4, Cond.initialized RJ6, Cond.code yJ6_bitCount_0f7a4 cJ6_bitCount_0f7a4 1 (some .int), Cond.constant RJ6 265 (1431655765), Cond.constant RJ6 266 (858993459), Cond.constant RJ6 267 (252645135), Cond.methodLink RX1 76 yX1_rowOf, Cond.instanceMethod yX1_rowOf, Cond.selects RX1 yX1_rowOf yX1_rowOf, Cond.code yX1_rowOf cX1_rowOf 3 (some .int), Cond.methodLink RX1 79 yX1_minorOf, Cond.instanceMethod yX1_minorOf, Cond.selects RX1 yX1_minorOf yX1_minorOf, Cond.code yX1_minorOf cX1_minorOf 9 (some .long), Cond.fieldLink RX1 23 "RingPages$Net" "out" "[I"]
def wsX1_growTrees_r2 : List Cond := [Cond.fieldLink RX1 11 "RingPages$Net" "weight" "[[I", Cond.static yX7_holds, Cond.initialized RX7, Cond.code yX7_holds cX7_holds 2 (some .boolean)]
def wsX1_growTrees : List Cond := .code yX1_growTrees cX1_growTrees 2 none :: ((wsX1_growTrees_r1 ++ wsX1_growTrees_r2) ++ wsX10)
def wsX4_init : List Cond := .code yX4_init cX4_init 1 none :: ([.methodLink RX4 3 objectInit, .instanceMethod objectInit, .code objectInit ⟨#[0xb1]⟩ 1 none, .arrayClass .int, .fieldLink RX4 9 "RingPages$State" "stay" "[I", .fieldLink RX4 15 "RingPages$State" "area" "[I"] ++ wsX40)
def wsX2_init : List Cond := .code yX2_init cX2_init 2 none :: ([.methodLink RX2 3 objectInit, .instanceMethod objectInit, .code objectInit ⟨#[0xb1]⟩ 1 none, .classLink RX2 9 RX4, .fieldLink RX2 11 "RingPages$Past" "kept" "[LRingPages$State;", .instantiable RX4 10, .initialized RX4, .instanceMethod yX4_init, .code yX4_init cX4_init 1 none, .methodLink RX4 3 objectInit, .arrayClass .int, .fieldLink RX4 9 "RingPages$State" "stay" "[I", .fieldLink RX4 15 "RingPages$State" "area" "[I"] ++ wsX20 ++ wsX40)
def wsX4_copyFrom : List Cond := .code yX4_copyFrom cX4_copyFrom 2 none :: ([.fieldLink RX4 9 "RingPages$State" "stay" "[I", .methodLink RX4 37 arraycopyName, .native arraycopyName, .static arraycopyName, .initialized "java/lang/System", .fieldLink RX4 15 "RingPages$State" "area" "[I", .fieldLink RX4 18 "RingPages$State" "kind" "I", .fieldLink RX4 22 "RingPages$State" "value" "I", .fieldLink RX4 25 "RingPages$State" "cell" "I", .fieldLink RX4 43 "RingPages$State" "home" "I", .fieldLink RX4 46 "RingPages$State" "moves" "I", .fieldLink RX4 49 "RingPages$State" "ticks" "I", .fieldLink RX4 28 "RingPages$State" "updates" "I", .fieldLink RX4 31 "RingPages$State" "paged" "I"] ++ wsX40)
def wsX2_keep_r1 : List Cond := [Cond.fieldLink RX2 11 "RingPages$Past" "kept" "[LRingPages$State;", Cond.fieldLink RX2 18 "RingPages$Past" "next" "I", Cond.fieldLink RX2 26 "RingPages$Past" "held" "I", Cond.methodLink RX2 29 Lib.Math.min.name, Cond.static Lib.Math.min.name, Cond.initialized "java/lang/Math", Cond.code Lib.Math.min.name Lib.Math.min.code 2 (some .int), Cond.methodLink RX2 22 yX4_copyFrom, Cond.instanceMethod yX4_copyFrom, Cond.selects RX4 yX4_copyFrom yX4_copyFrom, Cond.initialized RX4, Cond.code yX4_copyFrom cX4_copyFrom 2 none, Cond.fieldLink RX4 9 "RingPages$State" "stay" "[I", Cond.methodLink RX4 37 arraycopyName, Cond.native arraycopyName, Cond.static arraycopyName, Cond.initialized "java/lang/System", Cond.fieldLink RX4 15 "RingPages$State" "area" "[I", Cond.fieldLink RX4 18 "RingPages$State" "kind" "I", Cond.fieldLink RX4 22 "RingPages$State" "value" "I", Cond.fieldLink RX4 25 "RingPages$State" "cell" "I", Cond.fieldLink RX4 43 "RingPages$State" "home" "I", Cond.fieldLink RX4 46 "RingPages$State" "moves" "I", Cond.fieldLink RX4 49 "RingPages$State" "ticks" "I"]
def wsX2_keep_r2 : List Cond := [Cond.fieldLink RX4 28 "RingPages$State" "updates" "I", Cond.fieldLink RX4 31 "RingPages$State" "paged" "I"]
def wsX2_keep : List Cond := .code yX2_keep cX2_keep 2 none :: ((wsX2_keep_r1 ++ wsX2_keep_r2) ++ wsX20 ++ wsX40)
def wsX2_bringBack : List Cond := .code yX2_bringBack cX2_bringBack 2 (some .boolean) :: ([.fieldLink RX2 26 "RingPages$Past" "held" "I", .fieldLink RX2 18 "RingPages$Past" "next" "I", .fieldLink RX2 11 "RingPages$Past" "kept" "[LRingPages$State;", .methodLink RX2 22 yX4_copyFrom, .instanceMethod yX4_copyFrom, .selects RX4 yX4_copyFrom yX4_copyFrom, .initialized RX4, .code yX4_copyFrom cX4_copyFrom 2 none, .fieldLink RX4 9 "RingPages$State" "stay" "[I", .methodLink RX4 37 arraycopyName, .native arraycopyName, .static arraycopyName, .initialized "java/lang/System", .fieldLink RX4 15 "RingPages$State" "area" "[I", .fieldLink RX4 18 "RingPages$State" "kind" "I", .fieldLink RX4 22 "RingPages$State" "value" "I", .fieldLink RX4 25 "RingPages$State" "cell" "I", .fieldLink RX4 43 "RingPages$State" "home" "I", .fieldLink RX4 46 "RingPages$State" "moves" "I", .fieldLink RX4 49 "RingPages$State" "ticks" "I", .fieldLink RX4 28 "RingPages$State" "updates" "I", .fieldLink RX4 31 "RingPages$State" "paged" "I"] ++ wsX20 ++ wsX40)
def wsX3_init : List Cond := .code yX3_init cX3_init 1 none :: ([.methodLink RX3 3 objectInit, .instanceMethod objectInit, .code objectInit ⟨#[0xb1]⟩ 1 none, .arrayClass .int, .fieldLink RX3 9 "RingPages$Rounds" "row" "[I"] ++ wsX30)
def wsX3_lineUp : List Cond := .code yX3_lineUp cX3_lineUp 5 none :: ([.fieldLink RX3 15 "RingPages$Rounds" "length" "I", .fieldLink RX3 9 "RingPages$Rounds" "row" "[I", .static yX7_holds, .initialized RX7, .code yX7_holds cX7_holds 2 (some .boolean)] ++ wsX30)
def wsX3_isCutBehind : List Cond := .code yX3_isCutBehind cX3_isCutBehind 3 (some .boolean) :: ([.fieldLink RX3 15 "RingPages$Rounds" "length" "I", .static yX7_holds, .initialized RX7, .code yX7_holds cX7_holds 2 (some .boolean)] ++ wsX30)
def wsX3_meanPaged : List Cond := .code yX3_meanPaged cX3_meanPaged 7 (some .long) :: ([.fieldLink RX3 15 "RingPages$Rounds" "length" "I", .fieldLink RX3 9 "RingPages$Rounds" "row" "[I", .methodLink RX3 41 yX3_isCutBehind, .instanceMethod yX3_isCutBehind, .selects RX3 yX3_isCutBehind yX3_isCutBehind, .initialized RX3, .code yX3_isCutBehind cX3_isCutBehind 3 (some .boolean), .static yX7_holds, .initialized RX7, .code yX7_holds cX7_holds 2 (some .boolean)] ++ wsX30)
def wsX3_split : List Cond := .code yX3_split cX3_split 10 none :: ([.constantLong RX3 23 (-1), .fieldLink RX3 25 "RingPages$Rounds" "many" "I", .fieldLink RX3 28 "RingPages$Rounds" "cuts" "I", .fieldLink RX3 15 "RingPages$Rounds" "length" "I", .methodLink RX3 31 yJ6_bitCount_0f7a4, .static yJ6_bitCount_0f7a4, .initialized RJ6, .code yJ6_bitCount_0f7a4 cJ6_bitCount_0f7a4 1 (some .int), .constant RJ6 265 (1431655765), .constant RJ6 266 (858993459), .constant RJ6 267 (252645135), .methodLink RX3 37 yX3_meanPaged, .instanceMethod yX3_meanPaged, .selects RX3 yX3_meanPaged yX3_meanPaged, .initialized RX3, .code yX3_meanPaged cX3_meanPaged 7 (some .long), .fieldLink RX3 9 "RingPages$Rounds" "row" "[I", .methodLink RX3 41 yX3_isCutBehind, .instanceMethod yX3_isCutBehind, .selects RX3 yX3_isCutBehind yX3_isCutBehind, .code yX3_isCutBehind cX3_isCutBehind 3 (some .boolean), .static yX7_holds, .initialized RX7, .code yX7_holds cX7_holds 2 (some .boolean)] ++ wsX30)
def wsX3_cellsOf : List Cond := .code yX3_cellsOf cX3_cellsOf 5 (some .int) :: ([.fieldLink RX3 15 "RingPages$Rounds" "length" "I", .fieldLink RX3 9 "RingPages$Rounds" "row" "[I", .fieldLink RX3 28 "RingPages$Rounds" "cuts" "I", .methodLink RX3 41 yX3_isCutBehind, .instanceMethod yX3_isCutBehind, .selects RX3 yX3_isCutBehind yX3_isCutBehind, .initialized RX3, .code yX3_isCutBehind cX3_isCutBehind 3 (some .boolean), .static yX7_holds, .initialized RX7, .code yX7_holds cX7_holds 2 (some .boolean)] ++ wsX30)
def wsX4_register : List Cond := .code yX4_register cX4_register 1 none :: ([.fieldLink RX4 25 "RingPages$State" "cell" "I", .fieldLink RX4 43 "RingPages$State" "home" "I", .fieldLink RX4 46 "RingPages$State" "moves" "I", .fieldLink RX4 49 "RingPages$State" "ticks" "I"] ++ wsX40)
def wsX4_begin : List Cond := .code yX4_begin cX4_begin 2 none :: ([.fieldLink RX4 9 "RingPages$State" "stay" "[I", .fieldLink RX4 15 "RingPages$State" "area" "[I", .fieldLink RX4 18 "RingPages$State" "kind" "I", .fieldLink RX4 22 "RingPages$State" "value" "I", .fieldLink RX4 25 "RingPages$State" "cell" "I", .fieldLink RX4 28 "RingPages$State" "updates" "I", .fieldLink RX4 31 "RingPages$State" "paged" "I", .methodLink RX4 34 yX4_register, .instanceMethod yX4_register, .selects RX4 yX4_register yX4_register, .initialized RX4, .code yX4_register cX4_register 1 none, .fieldLink RX4 43 "RingPages$State" "home" "I", .fieldLink RX4 46 "RingPages$State" "moves" "I", .fieldLink RX4 49 "RingPages$State" "ticks" "I"] ++ wsX40)
def wsX4_canGo : List Cond := .code yX4_canGo cX4_canGo 3 (some .boolean) :: ([.fieldLink RX4 25 "RingPages$State" "cell" "I", .fieldLink RX4 9 "RingPages$State" "stay" "[I", .fieldLink RX4 52 "RingPages$Net" "near" "[I", .static yX7_holds, .initialized RX7, .code yX7_holds cX7_holds 2 (some .boolean)] ++ wsX40 ++ wsX10)
def wsX4_isOutside : List Cond := .code yX4_isOutside cX4_isOutside 3 (some .boolean) :: ([.fieldLink RX4 18 "RingPages$State" "kind" "I", .fieldLink RX4 15 "RingPages$State" "area" "[I", .fieldLink RX4 43 "RingPages$State" "home" "I", .fieldLink RX4 69 "RingPages$Net" "wide" "[[I", .fieldLink RX4 22 "RingPages$State" "value" "I"] ++ wsX40 ++ wsX10)
def wsX4_isDue : List Cond := .code yX4_isDue cX4_isDue 2 (some .boolean) :: ([.fieldLink RX4 18 "RingPages$State" "kind" "I", .fieldLink RX4 46 "RingPages$State" "moves" "I", .fieldLink RX4 22 "RingPages$State" "value" "I", .fieldLink RX4 49 "RingPages$State" "ticks" "I", .fieldLink RX4 25 "RingPages$State" "cell" "I", .methodLink RX4 65 yX4_isOutside, .instanceMethod yX4_isOutside, .selects RX4 yX4_isOutside yX4_isOutside, .initialized RX4, .code yX4_isOutside cX4_isOutside 3 (some .boolean), .fieldLink RX4 15 "RingPages$State" "area" "[I", .fieldLink RX4 43 "RingPages$State" "home" "I", .fieldLink RX4 69 "RingPages$Net" "wide" "[[I"] ++ wsX40 ++ wsX10)
def wsX4_go : List Cond := .code yX4_go cX4_go 3 (some .boolean) :: ([.fieldLink RX4 25 "RingPages$State" "cell" "I", .fieldLink RX4 46 "RingPages$State" "moves" "I", .fieldLink RX4 49 "RingPages$State" "ticks" "I", .fieldLink RX4 28 "RingPages$State" "updates" "I", .methodLink RX4 61 yX4_isDue, .instanceMethod yX4_isDue, .selects RX4 yX4_isDue yX4_isDue, .initialized RX4, .code yX4_isDue cX4_isDue 2 (some .boolean), .fieldLink RX4 18 "RingPages$State" "kind" "I", .fieldLink RX4 22 "RingPages$State" "value" "I", .methodLink RX4 65 yX4_isOutside, .instanceMethod yX4_isOutside, .selects RX4 yX4_isOutside yX4_isOutside, .code yX4_isOutside cX4_isOutside 3 (some .boolean), .fieldLink RX4 15 "RingPages$State" "area" "[I", .fieldLink RX4 43 "RingPages$State" "home" "I", .fieldLink RX4 69 "RingPages$Net" "wide" "[[I", .methodLink RX4 34 yX4_register, .instanceMethod yX4_register, .selects RX4 yX4_register yX4_register, .code yX4_register cX4_register 1 none] ++ wsX40 ++ wsX10)
def wsX4_drawnCell : List Cond := .code yX4_drawnCell cX4_drawnCell 7 (some .int) :: ([.fieldLink RX4 9 "RingPages$State" "stay" "[I", .fieldLink RX4 25 "RingPages$State" "cell" "I", .fieldLink RX4 73 "RingPages$Net" "out" "[I", .fieldLink RX4 76 "RingPages$Net" "cells" "I", .fieldLink RX4 79 "RingPages$Net" "weight" "[[I"] ++ wsX40 ++ wsX10)
def wsX5_init : List Cond := .code yX5_init cX5_init 1 none :: ([.methodLink RX5 3 objectInit, .instanceMethod objectInit, .code objectInit ⟨#[0xb1]⟩ 1 none, .arrayClass .int, .fieldLink RX5 9 "RingPages$Text" "letters" "[I", .fieldLink RX5 15 "RingPages$Text" "numbers" "[I"] ++ wsX50)
def wsX5_append : List Cond := .code yX5_append cX5_append 2 (some .boolean) :: ([.fieldLink RX5 18 "RingPages$Text" "length" "I", .fieldLink RX5 9 "RingPages$Text" "letters" "[I"] ++ wsX50)
def wsX5_letterHere : List Cond := .code yX5_letterHere cX5_letterHere 1 (some .int) :: ([.fieldLink RX5 32 "RingPages$Text" "place" "I", .fieldLink RX5 18 "RingPages$Text" "length" "I", .fieldLink RX5 9 "RingPages$Text" "letters" "[I"] ++ wsX50)
def wsX5_numbersBehind : List Cond := .code yX5_numbersBehind cX5_numbersBehind 2 (some .int) :: ([])
def wsX5_figureHere : List Cond := .code yX5_figureHere cX5_figureHere 2 (some .int) :: ([.fieldLink RX5 32 "RingPages$Text" "place" "I", .fieldLink RX5 18 "RingPages$Text" "length" "I", .fieldLink RX5 9 "RingPages$Text" "letters" "[I"] ++ wsX50)
def wsX5_readNumber : List Cond := .code yX5_readNumber cX5_readNumber 3 (some .int) :: ([.fieldLink RX5 32 "RingPages$Text" "place" "I", .methodLink RX5 105 yX5_figureHere, .instanceMethod yX5_figureHere, .selects RX5 yX5_figureHere yX5_figureHere, .initialized RX5, .code yX5_figureHere cX5_figureHere 2 (some .int), .fieldLink RX5 18 "RingPages$Text" "length" "I", .fieldLink RX5 9 "RingPages$Text" "letters" "[I"] ++ wsX50)
def wsX5_readNumbers : List Cond := .code yX5_readNumbers cX5_readNumbers 3 (some .boolean) :: ([.fieldLink RX5 15 "RingPages$Text" "numbers" "[I", .fieldLink RX5 32 "RingPages$Text" "place" "I", .methodLink RX5 102 yX5_readNumber, .instanceMethod yX5_readNumber, .selects RX5 yX5_readNumber yX5_readNumber, .initialized RX5, .code yX5_readNumber cX5_readNumber 3 (some .int), .methodLink RX5 105 yX5_figureHere, .instanceMethod yX5_figureHere, .selects RX5 yX5_figureHere yX5_figureHere, .code yX5_figureHere cX5_figureHere 2 (some .int), .fieldLink RX5 18 "RingPages$Text" "length" "I", .fieldLink RX5 9 "RingPages$Text" "letters" "[I", .methodLink RX5 39 yX5_letterHere, .instanceMethod yX5_letterHere, .selects RX5 yX5_letterHere yX5_letterHere, .code yX5_letterHere cX5_letterHere 1 (some .int)] ++ wsX50)
def wsX5_takeCells : List Cond := .code yX5_takeCells cX5_takeCells 2 (some .boolean) :: ([.fieldLink RX5 15 "RingPages$Text" "numbers" "[I", .methodLink RX5 22 yX1_begin, .instanceMethod yX1_begin, .selects RX1 yX1_begin yX1_begin, .initialized RX1, .code yX1_begin cX1_begin 4 none, .fieldLink RX1 33 "RingPages$Net" "cells" "I", .fieldLink RX1 37 "RingPages$Net" "joins" "I", .fieldLink RX1 19 "RingPages$Net" "near" "[I", .fieldLink RX1 23 "RingPages$Net" "out" "[I", .fieldLink RX1 11 "RingPages$Net" "weight" "[[I", .fieldLink RX1 16 "RingPages$Net" "wide" "[[I", .methodLink RX1 40 yX1_price, .instanceMethod yX1_price, .selects RX1 yX1_price yX1_price, .code yX1_price cX1_price 5 none, .fieldLink RX1 44 "RingPages$Net" "mostRounds" "I", .fieldLink RX1 47 "RingPages$Net" "pageCost" "I", .fieldLink RX1 50 "RingPages$Net" "updateCost" "I", .fieldLink RX1 53 "RingPages$Net" "callChance" "I"] ++ wsX50 ++ wsX10)
def wsX5_isWeight : List Cond := .code yX5_isWeight cX5_isWeight 2 (some .boolean) :: ([])
def wsX5_takeJoin : List Cond := .code yX5_takeJoin cX5_takeJoin 4 (some .boolean) :: ([.fieldLink RX5 15 "RingPages$Text" "numbers" "[I", .fieldLink RX5 43 "RingPages$Net" "cells" "I", .fieldLink RX5 78 "RingPages$Net" "weight" "[[I", .methodLink RX5 82 yX5_isWeight, .instanceMethod yX5_isWeight, .selects RX5 yX5_isWeight yX5_isWeight, .initialized RX5, .code yX5_isWeight cX5_isWeight 2 (some .boolean), .methodLink RX5 85 yX1_join, .instanceMethod yX1_join, .selects RX1 yX1_join yX1_join, .initialized RX1, .code yX1_join cX1_join 5 none, .fieldLink RX1 37 "RingPages$Net" "joins" "I", .methodLink RX1 56 yX1_lead, .instanceMethod yX1_lead, .selects RX1 yX1_lead yX1_lead, .code yX1_lead cX1_lead 4 none, .fieldLink RX1 11 "RingPages$Net" "weight" "[[I", .fieldLink RX1 16 "RingPages$Net" "wide" "[[I", .fieldLink RX1 19 "RingPages$Net" "near" "[I", .fieldLink RX1 23 "RingPages$Net" "out" "[I"] ++ wsX50 ++ wsX10)
def wsX5_takeCellNumber : List Cond := .code yX5_takeCellNumber cX5_takeCellNumber 4 (some .boolean) :: ([.fieldLink RX5 15 "RingPages$Text" "numbers" "[I", .fieldLink RX5 43 "RingPages$Net" "cells" "I"] ++ wsX50 ++ wsX10)
def wsX7_isLaw : List Cond := .code yX7_isLaw cX7_isLaw 2 (some .boolean) :: ([])
def wsX5_takeLaw : List Cond := .code yX5_takeLaw cX5_takeLaw 2 (some .boolean) :: ([.fieldLink RX5 15 "RingPages$Text" "numbers" "[I", .fieldLink RX5 93 "RingPages$State" "kind" "I", .fieldLink RX5 96 "RingPages$State" "value" "I", .static yX7_isLaw, .initialized RX7, .code yX7_isLaw cX7_isLaw 2 (some .boolean)] ++ wsX50 ++ wsX40)
def wsX5_takePrices : List Cond := .code yX5_takePrices cX5_takePrices 2 (some .boolean) :: ([.fieldLink RX5 15 "RingPages$Text" "numbers" "[I", .methodLink RX5 99 yX1_price, .instanceMethod yX1_price, .selects RX1 yX1_price yX1_price, .initialized RX1, .code yX1_price cX1_price 5 none, .fieldLink RX1 44 "RingPages$Net" "mostRounds" "I", .fieldLink RX1 47 "RingPages$Net" "pageCost" "I", .fieldLink RX1 50 "RingPages$Net" "updateCost" "I", .fieldLink RX1 53 "RingPages$Net" "callChance" "I"] ++ wsX50 ++ wsX10)
def wsX5_readItem_r1 : List Cond := [Cond.fieldLink RX5 32 "RingPages$Text" "place" "I", Cond.fieldLink RX5 43 "RingPages$Net" "cells" "I", Cond.fieldLink RX5 61 "RingPages$State" "stay" "[I", Cond.fieldLink RX5 68 "RingPages$State" "area" "[I", Cond.methodLink RX5 39 yX5_letterHere, Cond.instanceMethod yX5_letterHere, Cond.selects RX5 yX5_letterHere yX5_letterHere, Cond.initialized RX5, Cond.code yX5_letterHere cX5_letterHere 1 (some .int), Cond.fieldLink RX5 18 "RingPages$Text" "length" "I", Cond.fieldLink RX5 9 "RingPages$Text" "letters" "[I", Cond.methodLink RX5 46 yX5_numbersBehind, Cond.instanceMethod yX5_numbersBehind, Cond.selects RX5 yX5_numbersBehind yX5_numbersBehind, Cond.code yX5_numbersBehind cX5_numbersBehind 2 (some .int), Cond.methodLink RX5 50 yX5_readNumbers, Cond.instanceMethod yX5_readNumbers, Cond.selects RX5 yX5_readNumbers yX5_readNumbers, Cond.code yX5_readNumbers cX5_readNumbers 3 (some .boolean), Cond.fieldLink RX5 15 "RingPages$Text" "numbers" "[I", Cond.methodLink RX5 102 yX5_readNumber, Cond.instanceMethod yX5_readNumber, Cond.selects RX5 yX5_readNumber yX5_readNumber, Cond.code yX5_readNumber cX5_readNumber 3 (some .int)]
def wsX5_readItem_r2 : List Cond := [Cond.methodLink RX5 105 yX5_figureHere, Cond.instanceMethod yX5_figureHere, Cond.selects RX5 yX5_figureHere yX5_figureHere, Cond.code yX5_figureHere cX5_figureHere 2 (some .int), Cond.methodLink RX5 54 yX5_takeCells, Cond.instanceMethod yX5_takeCells, Cond.selects RX5 yX5_takeCells yX5_takeCells, Cond.code yX5_takeCells cX5_takeCells 2 (some .boolean), Cond.methodLink RX5 22 yX1_begin, Cond.instanceMethod yX1_begin, Cond.selects RX1 yX1_begin yX1_begin, Cond.initialized RX1, Cond.code yX1_begin cX1_begin 4 none, Cond.fieldLink RX1 33 "RingPages$Net" "cells" "I", Cond.fieldLink RX1 37 "RingPages$Net" "joins" "I", Cond.fieldLink RX1 19 "RingPages$Net" "near" "[I", Cond.fieldLink RX1 23 "RingPages$Net" "out" "[I", Cond.fieldLink RX1 11 "RingPages$Net" "weight" "[[I", Cond.fieldLink RX1 16 "RingPages$Net" "wide" "[[I", Cond.methodLink RX1 40 yX1_price, Cond.instanceMethod yX1_price, Cond.selects RX1 yX1_price yX1_price, Cond.code yX1_price cX1_price 5 none, Cond.fieldLink RX1 44 "RingPages$Net" "mostRounds" "I"]
def wsX5_readItem_r3 : List Cond := [Cond.fieldLink RX1 47 "RingPages$Net" "pageCost" "I", Cond.fieldLink RX1 50 "RingPages$Net" "updateCost" "I", Cond.fieldLink RX1 53 "RingPages$Net" "callChance" "I", Cond.methodLink RX5 58 yX5_takeJoin, Cond.instanceMethod yX5_takeJoin, Cond.selects RX5 yX5_takeJoin yX5_takeJoin, Cond.code yX5_takeJoin cX5_takeJoin 4 (some .boolean), Cond.fieldLink RX5 78 "RingPages$Net" "weight" "[[I", Cond.methodLink RX5 82 yX5_isWeight, Cond.instanceMethod yX5_isWeight, Cond.selects RX5 yX5_isWeight yX5_isWeight, Cond.code yX5_isWeight cX5_isWeight 2 (some .boolean), Cond.methodLink RX5 85 yX1_join, Cond.instanceMethod yX1_join, Cond.selects RX1 yX1_join yX1_join, Cond.code yX1_join cX1_join 5 none, Cond.methodLink RX1 56 yX1_lead, Cond.instanceMethod yX1_lead, Cond.selects RX1 yX1_lead yX1_lead, Cond.code yX1_lead cX1_lead 4 none, Cond.methodLink RX5 64 yX5_takeCellNumber, Cond.instanceMethod yX5_takeCellNumber, Cond.selects RX5 yX5_takeCellNumber yX5_takeCellNumber, Cond.code yX5_takeCellNumber cX5_takeCellNumber 4 (some .boolean)]
def wsX5_readItem_r4 : List Cond := [Cond.methodLink RX5 71 yX5_takeLaw, Cond.instanceMethod yX5_takeLaw, Cond.selects RX5 yX5_takeLaw yX5_takeLaw, Cond.code yX5_takeLaw cX5_takeLaw 2 (some .boolean), Cond.fieldLink RX5 93 "RingPages$State" "kind" "I", Cond.fieldLink RX5 96 "RingPages$State" "value" "I", Cond.static yX7_isLaw, Cond.initialized RX7, Cond.code yX7_isLaw cX7_isLaw 2 (some .boolean), Cond.methodLink RX5 75 yX5_takePrices, Cond.instanceMethod yX5_takePrices, Cond.selects RX5 yX5_takePrices yX5_takePrices, Cond.code yX5_takePrices cX5_takePrices 2 (some .boolean), Cond.methodLink RX5 99 yX1_price]
def wsX5_readItem : List Cond := .code yX5_readItem cX5_readItem 5 (some .boolean) :: ((wsX5_readItem_r1 ++ (wsX5_readItem_r2 ++ (wsX5_readItem_r3 ++ wsX5_readItem_r4))) ++ wsX50 ++ wsX10 ++ wsX40)
def wsX5_readInto_r1 : List Cond := [Cond.fieldLink RX5 32 "RingPages$Text" "place" "I", Cond.fieldLink RX5 18 "RingPages$Text" "length" "I", Cond.methodLink RX5 22 yX1_begin, Cond.instanceMethod yX1_begin, Cond.selects RX1 yX1_begin yX1_begin, Cond.initialized RX1, Cond.code yX1_begin cX1_begin 4 none, Cond.fieldLink RX1 33 "RingPages$Net" "cells" "I", Cond.fieldLink RX1 37 "RingPages$Net" "joins" "I", Cond.fieldLink RX1 19 "RingPages$Net" "near" "[I", Cond.fieldLink RX1 23 "RingPages$Net" "out" "[I", Cond.fieldLink RX1 11 "RingPages$Net" "weight" "[[I", Cond.fieldLink RX1 16 "RingPages$Net" "wide" "[[I", Cond.methodLink RX1 40 yX1_price, Cond.instanceMethod yX1_price, Cond.selects RX1 yX1_price yX1_price, Cond.code yX1_price cX1_price 5 none, Cond.fieldLink RX1 44 "RingPages$Net" "mostRounds" "I", Cond.fieldLink RX1 47 "RingPages$Net" "pageCost" "I", Cond.fieldLink RX1 50 "RingPages$Net" "updateCost" "I", Cond.fieldLink RX1 53 "RingPages$Net" "callChance" "I", Cond.methodLink RX5 28 yX4_begin, Cond.instanceMethod yX4_begin, Cond.selects RX4 yX4_begin yX4_begin]
end
section
def wsX5_readInto_r2 : List Cond := [Cond.initialized RX4, Cond.code yX4_begin cX4_begin 2 none, Cond.fieldLink RX4 9 "RingPages$State" "stay" "[I", Cond.fieldLink RX4 15 "RingPages$State" "area" "[I", Cond.fieldLink RX4 18 "RingPages$State" "kind" "I", Cond.fieldLink RX4 22 "RingPages$State" "value" "I", Cond.fieldLink RX4 25 "RingPages$State" "cell" "I", Cond.fieldLink RX4 28 "RingPages$State" "updates" "I", Cond.fieldLink RX4 31 "RingPages$State" "paged" "I", Cond.methodLink RX4 34 yX4_register, Cond.instanceMethod yX4_register, Cond.selects RX4 yX4_register yX4_register, Cond.code yX4_register cX4_register 1 none, Cond.fieldLink RX4 43 "RingPages$State" "home" "I", Cond.fieldLink RX4 46 "RingPages$State" "moves" "I", Cond.fieldLink RX4 49 "RingPages$State" "ticks" "I", Cond.methodLink RX5 35 yX5_readItem, Cond.instanceMethod yX5_readItem, Cond.selects RX5 yX5_readItem yX5_readItem, Cond.initialized RX5, Cond.code yX5_readItem cX5_readItem 5 (some .boolean), Cond.fieldLink RX5 43 "RingPages$Net" "cells" "I", Cond.fieldLink RX5 61 "RingPages$State" "stay" "[I", Cond.fieldLink RX5 68 "RingPages$State" "area" "[I"]
def wsX5_readInto_r3 : List Cond := [Cond.methodLink RX5 39 yX5_letterHere, Cond.instanceMethod yX5_letterHere, Cond.selects RX5 yX5_letterHere yX5_letterHere, Cond.code yX5_letterHere cX5_letterHere 1 (some .int), Cond.fieldLink RX5 9 "RingPages$Text" "letters" "[I", Cond.methodLink RX5 46 yX5_numbersBehind, Cond.instanceMethod yX5_numbersBehind, Cond.selects RX5 yX5_numbersBehind yX5_numbersBehind, Cond.code yX5_numbersBehind cX5_numbersBehind 2 (some .int), Cond.methodLink RX5 50 yX5_readNumbers, Cond.instanceMethod yX5_readNumbers, Cond.selects RX5 yX5_readNumbers yX5_readNumbers, Cond.code yX5_readNumbers cX5_readNumbers 3 (some .boolean), Cond.fieldLink RX5 15 "RingPages$Text" "numbers" "[I", Cond.methodLink RX5 102 yX5_readNumber, Cond.instanceMethod yX5_readNumber, Cond.selects RX5 yX5_readNumber yX5_readNumber, Cond.code yX5_readNumber cX5_readNumber 3 (some .int), Cond.methodLink RX5 105 yX5_figureHere, Cond.instanceMethod yX5_figureHere, Cond.selects RX5 yX5_figureHere yX5_figureHere, Cond.code yX5_figureHere cX5_figureHere 2 (some .int), Cond.methodLink RX5 54 yX5_takeCells, Cond.instanceMethod yX5_takeCells]
def wsX5_readInto_r4 : List Cond := [Cond.selects RX5 yX5_takeCells yX5_takeCells, Cond.code yX5_takeCells cX5_takeCells 2 (some .boolean), Cond.methodLink RX5 58 yX5_takeJoin, Cond.instanceMethod yX5_takeJoin, Cond.selects RX5 yX5_takeJoin yX5_takeJoin, Cond.code yX5_takeJoin cX5_takeJoin 4 (some .boolean), Cond.fieldLink RX5 78 "RingPages$Net" "weight" "[[I", Cond.methodLink RX5 82 yX5_isWeight, Cond.instanceMethod yX5_isWeight, Cond.selects RX5 yX5_isWeight yX5_isWeight, Cond.code yX5_isWeight cX5_isWeight 2 (some .boolean), Cond.methodLink RX5 85 yX1_join, Cond.instanceMethod yX1_join, Cond.selects RX1 yX1_join yX1_join, Cond.code yX1_join cX1_join 5 none, Cond.methodLink RX1 56 yX1_lead, Cond.instanceMethod yX1_lead, Cond.selects RX1 yX1_lead yX1_lead, Cond.code yX1_lead cX1_lead 4 none, Cond.methodLink RX5 64 yX5_takeCellNumber, Cond.instanceMethod yX5_takeCellNumber, Cond.selects RX5 yX5_takeCellNumber yX5_takeCellNumber, Cond.code yX5_takeCellNumber cX5_takeCellNumber 4 (some .boolean), Cond.methodLink RX5 71 yX5_takeLaw]
def wsX5_readInto_r5 : List Cond := [Cond.instanceMethod yX5_takeLaw, Cond.selects RX5 yX5_takeLaw yX5_takeLaw, Cond.code yX5_takeLaw cX5_takeLaw 2 (some .boolean), Cond.fieldLink RX5 93 "RingPages$State" "kind" "I", Cond.fieldLink RX5 96 "RingPages$State" "value" "I", Cond.static yX7_isLaw, Cond.initialized RX7, Cond.code yX7_isLaw cX7_isLaw 2 (some .boolean), Cond.methodLink RX5 75 yX5_takePrices, Cond.instanceMethod yX5_takePrices, Cond.selects RX5 yX5_takePrices yX5_takePrices, Cond.code yX5_takePrices cX5_takePrices 2 (some .boolean), Cond.methodLink RX5 99 yX1_price]
def wsX5_readInto : List Cond := .code yX5_readInto cX5_readInto 5 (some .int) :: ((wsX5_readInto_r1 ++ (wsX5_readInto_r2 ++ (wsX5_readInto_r3 ++ (wsX5_readInto_r4 ++ wsX5_readInto_r5)))) ++ wsX50 ++ wsX10 ++ wsX40)
def wsX6_init : List Cond := .code yX6_init cX6_init 1 none :: ([.methodLink RX6 3 objectInit, .instanceMethod objectInit, .code objectInit ⟨#[0xb1]⟩ 1 none, .arrayClass .int, .fieldLink RX6 9 "RingPages$Whereabouts" "reached" "[I"] ++ wsX60)
def wsX6_insideOf : List Cond := .code yX6_insideOf cX6_insideOf 5 (some .int) :: ([.fieldLink RX6 44 "RingPages$Net" "cells" "I", .methodLink RX6 49 yX4_isOutside, .instanceMethod yX4_isOutside, .selects RX4 yX4_isOutside yX4_isOutside, .initialized RX4, .code yX4_isOutside cX4_isOutside 3 (some .boolean), .fieldLink RX4 18 "RingPages$State" "kind" "I", .fieldLink RX4 15 "RingPages$State" "area" "[I", .fieldLink RX4 43 "RingPages$State" "home" "I", .fieldLink RX4 69 "RingPages$Net" "wide" "[[I", .fieldLink RX4 22 "RingPages$State" "value" "I"] ++ wsX10 ++ wsX40)
def wsX6_movers : List Cond := .code yX6_movers cX6_movers 5 (some .int) :: ([.fieldLink RX6 44 "RingPages$Net" "cells" "I", .fieldLink RX6 68 "RingPages$Net" "near" "[I", .static yX7_holds, .initialized RX7, .code yX7_holds cX7_holds 2 (some .boolean)] ++ wsX10)
def wsX6_stayers : List Cond := .code yX6_stayers cX6_stayers 6 (some .int) :: ([.fieldLink RX6 44 "RingPages$Net" "cells" "I", .fieldLink RX6 65 "RingPages$State" "stay" "[I", .static yX7_holds, .initialized RX7, .code yX7_holds cX7_holds 2 (some .boolean)] ++ wsX10 ++ wsX40)
def wsX6_step : List Cond := .code yX6_step cX6_step 9 (some .boolean) :: ([.fieldLink RX6 15 "RingPages$State" "kind" "I", .fieldLink RX6 9 "RingPages$Whereabouts" "reached" "[I", .methodLink RX6 53 yX6_movers, .instanceMethod yX6_movers, .selects RX6 yX6_movers yX6_movers, .initialized RX6, .code yX6_movers cX6_movers 5 (some .int), .fieldLink RX6 44 "RingPages$Net" "cells" "I", .fieldLink RX6 68 "RingPages$Net" "near" "[I", .static yX7_holds, .initialized RX7, .code yX7_holds cX7_holds 2 (some .boolean), .methodLink RX6 57 yX6_stayers, .instanceMethod yX6_stayers, .selects RX6 yX6_stayers yX6_stayers, .code yX6_stayers cX6_stayers 6 (some .int), .fieldLink RX6 65 "RingPages$State" "stay" "[I"] ++ wsX40 ++ wsX60 ++ wsX10)
def wsX6_find_r1 : List Cond := [Cond.fieldLink RX6 15 "RingPages$State" "kind" "I", Cond.fieldLink RX6 21 "RingPages$State" "value" "I", Cond.methodLink RX6 24 Lib.Math.min.name, Cond.static Lib.Math.min.name, Cond.initialized "java/lang/Math", Cond.code Lib.Math.min.name Lib.Math.min.code 2 (some .int), Cond.fieldLink RX6 9 "RingPages$Whereabouts" "reached" "[I", Cond.fieldLink RX6 34 "RingPages$State" "home" "I", Cond.fieldLink RX6 37 "RingPages$State" "ticks" "I", Cond.methodLink RX6 30 yX6_insideOf, Cond.instanceMethod yX6_insideOf, Cond.selects RX6 yX6_insideOf yX6_insideOf, Cond.initialized RX6, Cond.code yX6_insideOf cX6_insideOf 5 (some .int), Cond.fieldLink RX6 44 "RingPages$Net" "cells" "I", Cond.methodLink RX6 49 yX4_isOutside, Cond.instanceMethod yX4_isOutside, Cond.selects RX4 yX4_isOutside yX4_isOutside, Cond.initialized RX4, Cond.code yX4_isOutside cX4_isOutside 3 (some .boolean), Cond.fieldLink RX4 18 "RingPages$State" "kind" "I", Cond.fieldLink RX4 15 "RingPages$State" "area" "[I", Cond.fieldLink RX4 43 "RingPages$State" "home" "I", Cond.fieldLink RX4 69 "RingPages$Net" "wide" "[[I"]
def wsX6_find_r2 : List Cond := [Cond.fieldLink RX4 22 "RingPages$State" "value" "I", Cond.methodLink RX6 40 yX6_step, Cond.instanceMethod yX6_step, Cond.selects RX6 yX6_step yX6_step, Cond.code yX6_step cX6_step 9 (some .boolean), Cond.methodLink RX6 53 yX6_movers, Cond.instanceMethod yX6_movers, Cond.selects RX6 yX6_movers yX6_movers, Cond.code yX6_movers cX6_movers 5 (some .int), Cond.fieldLink RX6 68 "RingPages$Net" "near" "[I", Cond.static yX7_holds, Cond.initialized RX7, Cond.code yX7_holds cX7_holds 2 (some .boolean), Cond.methodLink RX6 57 yX6_stayers, Cond.instanceMethod yX6_stayers, Cond.selects RX6 yX6_stayers yX6_stayers, Cond.code yX6_stayers cX6_stayers 6 (some .int), Cond.fieldLink RX6 65 "RingPages$State" "stay" "[I"]
def wsX6_find : List Cond := .code yX6_find cX6_find 8 (some .int) :: ((wsX6_find_r1 ++ wsX6_find_r2) ++ wsX40 ++ wsX60 ++ wsX10)
def wsJ0_coder_7d493 : List Cond := .code yJ0_coder_7d493 cJ0_coder_7d493 1 (some .byte) :: ([.fieldLink RJ0 38 "java/lang/String" "COMPACT_STRINGS" "Z", .fieldLink RJ0 15 "java/lang/String" "coder" "B"])
def wsJ0_length_8abf5 : List Cond := .code yJ0_length_8abf5 cJ0_length_8abf5 1 (some .int) :: ([.fieldLink RJ0 9 "java/lang/String" "value" "[B", .methodLink RJ0 335 yJ0_coder_7d493, .instanceMethod yJ0_coder_7d493, .selects RJ0 yJ0_coder_7d493 yJ0_coder_7d493, .initialized RJ0, .code yJ0_coder_7d493 cJ0_coder_7d493 1 (some .byte), .fieldLink RJ0 38 "java/lang/String" "COMPACT_STRINGS" "Z", .fieldLink RJ0 15 "java/lang/String" "coder" "B"])
def wsJ0_isLatin1_aae02 : List Cond := .code yJ0_isLatin1_aae02 cJ0_isLatin1_aae02 1 (some .boolean) :: ([.fieldLink RJ0 38 "java/lang/String" "COMPACT_STRINGS" "Z", .fieldLink RJ0 15 "java/lang/String" "coder" "B"])
def wsJ3_checkIndex_8e157 : List Cond := .code yJ3_checkIndex_8e157 cJ3_checkIndex_8e157 3 (some .int) :: ([])
def wsJ0_checkIndex_df160 : List Cond := .code yJ0_checkIndex_df160 cJ0_checkIndex_df160 2 none :: ([.fieldLink RJ0 1053 "jdk/internal/util/Preconditions" "SIOOBE_FORMATTER" "Ljava/util/function/BiFunction;", .methodLink RJ0 1059 yJ3_checkIndex_8e157, .static yJ3_checkIndex_8e157, .initialized RJ3, .code yJ3_checkIndex_8e157 cJ3_checkIndex_8e157 3 (some .int)])
def wsJ1_charAt_3b067 : List Cond := .code yJ1_charAt_3b067 cJ1_charAt_3b067 2 (some .char) :: ([.methodLink RJ1 9 yJ0_checkIndex_df160, .static yJ0_checkIndex_df160, .initialized RJ0, .code yJ0_checkIndex_df160 cJ0_checkIndex_df160 2 none, .fieldLink RJ0 1053 "jdk/internal/util/Preconditions" "SIOOBE_FORMATTER" "Ljava/util/function/BiFunction;", .methodLink RJ0 1059 yJ3_checkIndex_8e157, .static yJ3_checkIndex_8e157, .initialized RJ3, .code yJ3_checkIndex_8e157 cJ3_checkIndex_8e157 3 (some .int)])
def wsJ2_length_9d52b : List Cond := .code yJ2_length_9d52b cJ2_length_9d52b 1 (some .int) :: ([])
def wsJ2_checkIndex_2214a : List Cond := .code yJ2_checkIndex_2214a cJ2_checkIndex_2214a 2 none :: ([.methodLink RJ2 48 yJ2_length_9d52b, .static yJ2_length_9d52b, .initialized RJ2, .code yJ2_length_9d52b cJ2_length_9d52b 1 (some .int), .methodLink RJ2 414 yJ0_checkIndex_df160, .static yJ0_checkIndex_df160, .initialized RJ0, .code yJ0_checkIndex_df160 cJ0_checkIndex_df160 2 none, .fieldLink RJ0 1053 "jdk/internal/util/Preconditions" "SIOOBE_FORMATTER" "Ljava/util/function/BiFunction;", .methodLink RJ0 1059 yJ3_checkIndex_8e157, .static yJ3_checkIndex_8e157, .initialized RJ3, .code yJ3_checkIndex_8e157 cJ3_checkIndex_8e157 3 (some .int)])
def wsJ2_getChar_3b067 : List Cond := .code yJ2_getChar_3b067 cJ2_getChar_3b067 2 (some .char) :: ([.fieldLink RJ2 44 "java/lang/StringUTF16" "$assertionsDisabled" "Z", .fieldLink RJ2 59 "java/lang/StringUTF16" "HI_BYTE_SHIFT" "I", .fieldLink RJ2 63 "java/lang/StringUTF16" "LO_BYTE_SHIFT" "I", .methodLink RJ2 48 yJ2_length_9d52b, .static yJ2_length_9d52b, .initialized RJ2, .code yJ2_length_9d52b cJ2_length_9d52b 1 (some .int)])
def wsJ2_charAt_3b067 : List Cond := .code yJ2_charAt_3b067 cJ2_charAt_3b067 2 (some .char) :: ([.methodLink RJ2 67 yJ2_checkIndex_2214a, .static yJ2_checkIndex_2214a, .initialized RJ2, .code yJ2_checkIndex_2214a cJ2_checkIndex_2214a 2 none, .methodLink RJ2 48 yJ2_length_9d52b, .static yJ2_length_9d52b, .code yJ2_length_9d52b cJ2_length_9d52b 1 (some .int), .methodLink RJ2 414 yJ0_checkIndex_df160, .static yJ0_checkIndex_df160, .initialized RJ0, .code yJ0_checkIndex_df160 cJ0_checkIndex_df160 2 none, .fieldLink RJ0 1053 "jdk/internal/util/Preconditions" "SIOOBE_FORMATTER" "Ljava/util/function/BiFunction;", .methodLink RJ0 1059 yJ3_checkIndex_8e157, .static yJ3_checkIndex_8e157, .initialized RJ3, .code yJ3_checkIndex_8e157 cJ3_checkIndex_8e157 3 (some .int), .methodLink RJ2 71 yJ2_getChar_3b067, .static yJ2_getChar_3b067, .code yJ2_getChar_3b067 cJ2_getChar_3b067 2 (some .char), .fieldLink RJ2 44 "java/lang/StringUTF16" "$assertionsDisabled" "Z", .fieldLink RJ2 59 "java/lang/StringUTF16" "HI_BYTE_SHIFT" "I", .fieldLink RJ2 63 "java/lang/StringUTF16" "LO_BYTE_SHIFT" "I"])
def wsJ0_charAt_5068e_r1 : List Cond := [Cond.fieldLink RJ0 9 "java/lang/String" "value" "[B", Cond.methodLink RJ0 492 yJ0_isLatin1_aae02, Cond.instanceMethod yJ0_isLatin1_aae02, Cond.selects RJ0 yJ0_isLatin1_aae02 yJ0_isLatin1_aae02, Cond.initialized RJ0, Cond.code yJ0_isLatin1_aae02 cJ0_isLatin1_aae02 1 (some .boolean), Cond.fieldLink RJ0 38 "java/lang/String" "COMPACT_STRINGS" "Z", Cond.fieldLink RJ0 15 "java/lang/String" "coder" "B", Cond.methodLink RJ0 495 yJ1_charAt_3b067, Cond.static yJ1_charAt_3b067, Cond.initialized RJ1, Cond.code yJ1_charAt_3b067 cJ1_charAt_3b067 2 (some .char), Cond.methodLink RJ1 9 yJ0_checkIndex_df160, Cond.static yJ0_checkIndex_df160, Cond.code yJ0_checkIndex_df160 cJ0_checkIndex_df160 2 none, Cond.fieldLink RJ0 1053 "jdk/internal/util/Preconditions" "SIOOBE_FORMATTER" "Ljava/util/function/BiFunction;", Cond.methodLink RJ0 1059 yJ3_checkIndex_8e157, Cond.static yJ3_checkIndex_8e157, Cond.initialized RJ3, Cond.code yJ3_checkIndex_8e157 cJ3_checkIndex_8e157 3 (some .int), Cond.methodLink RJ0 498 yJ2_charAt_3b067, Cond.static yJ2_charAt_3b067, Cond.initialized RJ2, Cond.code yJ2_charAt_3b067 cJ2_charAt_3b067 2 (some .char)]
def wsJ0_charAt_5068e_r2 : List Cond := [Cond.methodLink RJ2 67 yJ2_checkIndex_2214a, Cond.static yJ2_checkIndex_2214a, Cond.code yJ2_checkIndex_2214a cJ2_checkIndex_2214a 2 none, Cond.methodLink RJ2 48 yJ2_length_9d52b, Cond.static yJ2_length_9d52b, Cond.code yJ2_length_9d52b cJ2_length_9d52b 1 (some .int), Cond.methodLink RJ2 414 yJ0_checkIndex_df160, Cond.methodLink RJ2 71 yJ2_getChar_3b067, Cond.static yJ2_getChar_3b067, Cond.code yJ2_getChar_3b067 cJ2_getChar_3b067 2 (some .char), Cond.fieldLink RJ2 44 "java/lang/StringUTF16" "$assertionsDisabled" "Z", Cond.fieldLink RJ2 59 "java/lang/StringUTF16" "HI_BYTE_SHIFT" "I", Cond.fieldLink RJ2 63 "java/lang/StringUTF16" "LO_BYTE_SHIFT" "I"]
def wsJ0_charAt_5068e : List Cond := .code yJ0_charAt_5068e cJ0_charAt_5068e 2 (some .char) :: ((wsJ0_charAt_5068e_r1 ++ wsJ0_charAt_5068e_r2))
def wsX7_layText_r1 : List Cond := [Cond.fieldLink RX7 10 "RingPages" "text" "LRingPages$Text;", Cond.fieldLink RX7 61 "RingPages" "draftNet" "LRingPages$Net;", Cond.fieldLink RX7 64 "RingPages" "draftState" "LRingPages$State;", Cond.fieldLink RX7 54 "RingPages" "net" "LRingPages$Net;", Cond.fieldLink RX7 58 "RingPages" "state" "LRingPages$State;", Cond.fieldLink RX7 19 "RingPages" "past" "LRingPages$Past;", Cond.fieldLink RX7 103 "RingPages$Past" "held" "I", Cond.fieldLink RX7 26 "RingPages" "longRun" "LRingPages$LongRun;", Cond.methodLink RX7 90 yX5_readInto, Cond.instanceMethod yX5_readInto, Cond.selects RX5 yX5_readInto yX5_readInto, Cond.initialized RX5, Cond.code yX5_readInto cX5_readInto 5 (some .int), Cond.fieldLink RX5 32 "RingPages$Text" "place" "I", Cond.fieldLink RX5 18 "RingPages$Text" "length" "I", Cond.methodLink RX5 22 yX1_begin, Cond.instanceMethod yX1_begin, Cond.selects RX1 yX1_begin yX1_begin, Cond.initialized RX1, Cond.code yX1_begin cX1_begin 4 none, Cond.fieldLink RX1 33 "RingPages$Net" "cells" "I", Cond.fieldLink RX1 37 "RingPages$Net" "joins" "I", Cond.fieldLink RX1 19 "RingPages$Net" "near" "[I", Cond.fieldLink RX1 23 "RingPages$Net" "out" "[I"]
def wsX7_layText_r2 : List Cond := [Cond.fieldLink RX1 11 "RingPages$Net" "weight" "[[I", Cond.fieldLink RX1 16 "RingPages$Net" "wide" "[[I", Cond.methodLink RX1 40 yX1_price, Cond.instanceMethod yX1_price, Cond.selects RX1 yX1_price yX1_price, Cond.code yX1_price cX1_price 5 none, Cond.fieldLink RX1 44 "RingPages$Net" "mostRounds" "I", Cond.fieldLink RX1 47 "RingPages$Net" "pageCost" "I", Cond.fieldLink RX1 50 "RingPages$Net" "updateCost" "I", Cond.fieldLink RX1 53 "RingPages$Net" "callChance" "I", Cond.methodLink RX5 28 yX4_begin, Cond.instanceMethod yX4_begin, Cond.selects RX4 yX4_begin yX4_begin, Cond.initialized RX4, Cond.code yX4_begin cX4_begin 2 none, Cond.fieldLink RX4 9 "RingPages$State" "stay" "[I", Cond.fieldLink RX4 15 "RingPages$State" "area" "[I", Cond.fieldLink RX4 18 "RingPages$State" "kind" "I", Cond.fieldLink RX4 22 "RingPages$State" "value" "I", Cond.fieldLink RX4 25 "RingPages$State" "cell" "I", Cond.fieldLink RX4 28 "RingPages$State" "updates" "I", Cond.fieldLink RX4 31 "RingPages$State" "paged" "I", Cond.methodLink RX4 34 yX4_register, Cond.instanceMethod yX4_register]
def wsX7_layText_r3 : List Cond := [Cond.selects RX4 yX4_register yX4_register, Cond.code yX4_register cX4_register 1 none, Cond.fieldLink RX4 43 "RingPages$State" "home" "I", Cond.fieldLink RX4 46 "RingPages$State" "moves" "I", Cond.fieldLink RX4 49 "RingPages$State" "ticks" "I", Cond.methodLink RX5 35 yX5_readItem, Cond.instanceMethod yX5_readItem, Cond.selects RX5 yX5_readItem yX5_readItem, Cond.code yX5_readItem cX5_readItem 5 (some .boolean), Cond.fieldLink RX5 43 "RingPages$Net" "cells" "I", Cond.fieldLink RX5 61 "RingPages$State" "stay" "[I", Cond.fieldLink RX5 68 "RingPages$State" "area" "[I", Cond.methodLink RX5 39 yX5_letterHere, Cond.instanceMethod yX5_letterHere, Cond.selects RX5 yX5_letterHere yX5_letterHere, Cond.code yX5_letterHere cX5_letterHere 1 (some .int), Cond.fieldLink RX5 9 "RingPages$Text" "letters" "[I", Cond.methodLink RX5 46 yX5_numbersBehind, Cond.instanceMethod yX5_numbersBehind, Cond.selects RX5 yX5_numbersBehind yX5_numbersBehind, Cond.code yX5_numbersBehind cX5_numbersBehind 2 (some .int), Cond.methodLink RX5 50 yX5_readNumbers, Cond.instanceMethod yX5_readNumbers, Cond.selects RX5 yX5_readNumbers yX5_readNumbers]
def wsX7_layText_r4 : List Cond := [Cond.code yX5_readNumbers cX5_readNumbers 3 (some .boolean), Cond.fieldLink RX5 15 "RingPages$Text" "numbers" "[I", Cond.methodLink RX5 102 yX5_readNumber, Cond.instanceMethod yX5_readNumber, Cond.selects RX5 yX5_readNumber yX5_readNumber, Cond.code yX5_readNumber cX5_readNumber 3 (some .int), Cond.methodLink RX5 105 yX5_figureHere, Cond.instanceMethod yX5_figureHere, Cond.selects RX5 yX5_figureHere yX5_figureHere, Cond.code yX5_figureHere cX5_figureHere 2 (some .int), Cond.methodLink RX5 54 yX5_takeCells, Cond.instanceMethod yX5_takeCells, Cond.selects RX5 yX5_takeCells yX5_takeCells, Cond.code yX5_takeCells cX5_takeCells 2 (some .boolean), Cond.methodLink RX5 58 yX5_takeJoin, Cond.instanceMethod yX5_takeJoin, Cond.selects RX5 yX5_takeJoin yX5_takeJoin, Cond.code yX5_takeJoin cX5_takeJoin 4 (some .boolean), Cond.fieldLink RX5 78 "RingPages$Net" "weight" "[[I", Cond.methodLink RX5 82 yX5_isWeight, Cond.instanceMethod yX5_isWeight, Cond.selects RX5 yX5_isWeight yX5_isWeight, Cond.code yX5_isWeight cX5_isWeight 2 (some .boolean), Cond.methodLink RX5 85 yX1_join]
def wsX7_layText_r5 : List Cond := [Cond.instanceMethod yX1_join, Cond.selects RX1 yX1_join yX1_join, Cond.code yX1_join cX1_join 5 none, Cond.methodLink RX1 56 yX1_lead, Cond.instanceMethod yX1_lead, Cond.selects RX1 yX1_lead yX1_lead, Cond.code yX1_lead cX1_lead 4 none, Cond.methodLink RX5 64 yX5_takeCellNumber, Cond.instanceMethod yX5_takeCellNumber, Cond.selects RX5 yX5_takeCellNumber yX5_takeCellNumber, Cond.code yX5_takeCellNumber cX5_takeCellNumber 4 (some .boolean), Cond.methodLink RX5 71 yX5_takeLaw, Cond.instanceMethod yX5_takeLaw, Cond.selects RX5 yX5_takeLaw yX5_takeLaw, Cond.code yX5_takeLaw cX5_takeLaw 2 (some .boolean), Cond.fieldLink RX5 93 "RingPages$State" "kind" "I", Cond.fieldLink RX5 96 "RingPages$State" "value" "I", Cond.static yX7_isLaw, Cond.initialized RX7, Cond.code yX7_isLaw cX7_isLaw 2 (some .boolean), Cond.methodLink RX5 75 yX5_takePrices, Cond.instanceMethod yX5_takePrices, Cond.selects RX5 yX5_takePrices yX5_takePrices, Cond.code yX5_takePrices cX5_takePrices 2 (some .boolean)]
def wsX7_layText_r6 : List Cond := [Cond.methodLink RX5 99 yX1_price, Cond.methodLink RX7 97 yX1_isWhole, Cond.instanceMethod yX1_isWhole, Cond.selects RX1 yX1_isWhole yX1_isWhole, Cond.code yX1_isWhole cX1_isWhole 4 (some .boolean), Cond.methodLink RX1 60 Lib.Math.min.name, Cond.static Lib.Math.min.name, Cond.initialized "java/lang/Math", Cond.code Lib.Math.min.name Lib.Math.min.code 2 (some .int), Cond.methodLink RX7 100 yX1_growTrees, Cond.instanceMethod yX1_growTrees, Cond.selects RX1 yX1_growTrees yX1_growTrees, Cond.code yX1_growTrees cX1_growTrees 2 none, Cond.fieldLink RX1 26 "RingPages$Net" "trees" "[J", Cond.methodLink RX1 66 yX1_treesTo, Cond.instanceMethod yX1_treesTo, Cond.selects RX1 yX1_treesTo yX1_treesTo, Cond.code yX1_treesTo cX1_treesTo 4 (some .long), Cond.fieldLink RX1 30 "RingPages$Net" "minors" "[J", Cond.methodLink RX1 70 yJ6_bitCount_0f7a4, Cond.static yJ6_bitCount_0f7a4, Cond.initialized RJ6, Cond.code yJ6_bitCount_0f7a4 cJ6_bitCount_0f7a4 1 (some .int), Cond.constant RJ6 265 (1431655765)]
def wsX7_layText_r7 : List Cond := [Cond.constant RJ6 266 (858993459), Cond.constant RJ6 267 (252645135), Cond.methodLink RX1 76 yX1_rowOf, Cond.instanceMethod yX1_rowOf, Cond.selects RX1 yX1_rowOf yX1_rowOf, Cond.code yX1_rowOf cX1_rowOf 3 (some .int), Cond.methodLink RX1 79 yX1_minorOf, Cond.instanceMethod yX1_minorOf, Cond.selects RX1 yX1_minorOf yX1_minorOf, Cond.code yX1_minorOf cX1_minorOf 9 (some .long), Cond.static yX7_holds, Cond.code yX7_holds cX7_holds 2 (some .boolean), Cond.methodLink RX7 106 yX0_reckon, Cond.instanceMethod yX0_reckon, Cond.selects RX0 yX0_reckon yX0_reckon, Cond.initialized RX0, Cond.code yX0_reckon cX0_reckon 4 none, Cond.fieldLink RX0 22 "RingPages$LongRun" "below" "J", Cond.fieldLink RX0 26 "RingPages$Net" "cells" "I", Cond.fieldLink RX0 9 "RingPages$LongRun" "above" "[J", Cond.fieldLink RX0 32 "RingPages$State" "stay" "[I", Cond.fieldLink RX0 37 "RingPages$Net" "out" "[I", Cond.fieldLink RX0 40 "RingPages$Net" "trees" "[J", Cond.fieldLink RX0 43 "RingPages$LongRun" "bestKnown" "Z"]
def wsX7_layText : List Cond := .code yX7_layText cX7_layText 3 (some .boolean) :: ((wsX7_layText_r1 ++ (wsX7_layText_r2 ++ (wsX7_layText_r3 ++ (wsX7_layText_r4 ++ (wsX7_layText_r5 ++ (wsX7_layText_r6 ++ wsX7_layText_r7)))))) ++ wsX70 ++ wsX20 ++ wsX50 ++ wsX10 ++ wsX40 ++ wsX00)
def wsX7_init_r1 : List Cond := [Cond.methodLink RX7 1 objectInit, Cond.instanceMethod objectInit, Cond.code objectInit ⟨#[0xb1]⟩ 1 none, Cond.classLink RX7 7 RX5, Cond.instantiable RX5 4, Cond.initialized RX5, Cond.fieldLink RX7 10 "RingPages" "text" "LRingPages$Text;", Cond.classLink RX7 16 RX2, Cond.instantiable RX2 3, Cond.initialized RX2, Cond.fieldLink RX7 19 "RingPages" "past" "LRingPages$Past;", Cond.classLink RX7 23 RX0, Cond.instantiable RX0 6, Cond.initialized RX0, Cond.fieldLink RX7 26 "RingPages" "longRun" "LRingPages$LongRun;", Cond.classLink RX7 30 RX6, Cond.instantiable RX6 1, Cond.initialized RX6, Cond.fieldLink RX7 33 "RingPages" "whereabouts" "LRingPages$Whereabouts;", Cond.classLink RX7 37 RX3, Cond.instantiable RX3 4, Cond.initialized RX3, Cond.fieldLink RX7 40 "RingPages" "rounds" "LRingPages$Rounds;", Cond.classLink RX7 44 RX4]
def wsX7_init_r2 : List Cond := [Cond.instantiable RX4 10, Cond.initialized RX4, Cond.fieldLink RX7 47 "RingPages" "walker" "LRingPages$State;", Cond.classLink RX7 51 RX1, Cond.instantiable RX1 12, Cond.initialized RX1, Cond.fieldLink RX7 54 "RingPages" "net" "LRingPages$Net;", Cond.fieldLink RX7 58 "RingPages" "state" "LRingPages$State;", Cond.fieldLink RX7 61 "RingPages" "draftNet" "LRingPages$Net;", Cond.fieldLink RX7 64 "RingPages" "draftState" "LRingPages$State;", Cond.fieldLink RX7 87 "RingPages$Text" "length" "I", Cond.instanceMethod yX5_init, Cond.code yX5_init cX5_init 1 none, Cond.methodLink RX5 3 objectInit, Cond.arrayClass .int, Cond.fieldLink RX5 9 "RingPages$Text" "letters" "[I", Cond.fieldLink RX5 15 "RingPages$Text" "numbers" "[I", Cond.methodLink RX7 18 yX2_init, Cond.instanceMethod yX2_init, Cond.code yX2_init cX2_init 2 none, Cond.methodLink RX2 3 objectInit, Cond.classLink RX2 9 RX4, Cond.fieldLink RX2 11 "RingPages$Past" "kept" "[LRingPages$State;", Cond.instanceMethod yX4_init]
def wsX7_init_r3 : List Cond := [Cond.code yX4_init cX4_init 1 none, Cond.methodLink RX4 3 objectInit, Cond.fieldLink RX4 9 "RingPages$State" "stay" "[I", Cond.fieldLink RX4 15 "RingPages$State" "area" "[I", Cond.instanceMethod yX0_init, Cond.code yX0_init cX0_init 1 none, Cond.methodLink RX0 3 objectInit, Cond.arrayClass .long, Cond.fieldLink RX0 9 "RingPages$LongRun" "above" "[J", Cond.fieldLink RX0 15 "RingPages$LongRun" "best" "[I", Cond.fieldLink RX0 19 "RingPages$LongRun" "tried" "[I", Cond.instanceMethod yX6_init, Cond.code yX6_init cX6_init 1 none, Cond.methodLink RX6 3 objectInit, Cond.fieldLink RX6 9 "RingPages$Whereabouts" "reached" "[I", Cond.instanceMethod yX3_init, Cond.code yX3_init cX3_init 1 none, Cond.methodLink RX3 3 objectInit, Cond.fieldLink RX3 9 "RingPages$Rounds" "row" "[I", Cond.instanceMethod yX1_init, Cond.code yX1_init cX1_init 1 none, Cond.methodLink RX1 3 objectInit, Cond.classLink RX1 9 "[[I", Cond.fieldLink RX1 11 "RingPages$Net" "weight" "[[I"]
def wsX7_init_r4 : List Cond := [Cond.fieldLink RX1 16 "RingPages$Net" "wide" "[[I", Cond.fieldLink RX1 19 "RingPages$Net" "near" "[I", Cond.fieldLink RX1 23 "RingPages$Net" "out" "[I", Cond.fieldLink RX1 26 "RingPages$Net" "trees" "[J", Cond.fieldLink RX1 30 "RingPages$Net" "minors" "[J", Cond.methodLink RX7 69 yJ0_length_8abf5, Cond.instanceMethod yJ0_length_8abf5, Cond.selects RJ0 yJ0_length_8abf5 yJ0_length_8abf5, Cond.initialized RJ0, Cond.code yJ0_length_8abf5 cJ0_length_8abf5 1 (some .int), Cond.fieldLink RJ0 9 "java/lang/String" "value" "[B", Cond.methodLink RJ0 335 yJ0_coder_7d493, Cond.instanceMethod yJ0_coder_7d493, Cond.selects RJ0 yJ0_coder_7d493 yJ0_coder_7d493, Cond.code yJ0_coder_7d493 cJ0_coder_7d493 1 (some .byte), Cond.fieldLink RJ0 38 "java/lang/String" "COMPACT_STRINGS" "Z", Cond.fieldLink RJ0 15 "java/lang/String" "coder" "B", Cond.methodLink RX7 75 yJ0_charAt_5068e, Cond.instanceMethod yJ0_charAt_5068e, Cond.selects RJ0 yJ0_charAt_5068e yJ0_charAt_5068e, Cond.code yJ0_charAt_5068e cJ0_charAt_5068e 2 (some .char), Cond.methodLink RJ0 492 yJ0_isLatin1_aae02, Cond.instanceMethod yJ0_isLatin1_aae02, Cond.selects RJ0 yJ0_isLatin1_aae02 yJ0_isLatin1_aae02]
def wsX7_init_r5 : List Cond := [Cond.code yJ0_isLatin1_aae02 cJ0_isLatin1_aae02 1 (some .boolean), Cond.methodLink RJ0 495 yJ1_charAt_3b067, Cond.static yJ1_charAt_3b067, Cond.initialized RJ1, Cond.code yJ1_charAt_3b067 cJ1_charAt_3b067 2 (some .char), Cond.methodLink RJ1 9 yJ0_checkIndex_df160, Cond.static yJ0_checkIndex_df160, Cond.code yJ0_checkIndex_df160 cJ0_checkIndex_df160 2 none, Cond.fieldLink RJ0 1053 "jdk/internal/util/Preconditions" "SIOOBE_FORMATTER" "Ljava/util/function/BiFunction;", Cond.methodLink RJ0 1059 yJ3_checkIndex_8e157, Cond.static yJ3_checkIndex_8e157, Cond.initialized RJ3, Cond.code yJ3_checkIndex_8e157 cJ3_checkIndex_8e157 3 (some .int), Cond.methodLink RJ0 498 yJ2_charAt_3b067, Cond.static yJ2_charAt_3b067, Cond.initialized RJ2, Cond.code yJ2_charAt_3b067 cJ2_charAt_3b067 2 (some .char), Cond.methodLink RJ2 67 yJ2_checkIndex_2214a, Cond.static yJ2_checkIndex_2214a, Cond.code yJ2_checkIndex_2214a cJ2_checkIndex_2214a 2 none, Cond.methodLink RJ2 48 yJ2_length_9d52b, Cond.static yJ2_length_9d52b, Cond.code yJ2_length_9d52b cJ2_length_9d52b 1 (some .int), Cond.methodLink RJ2 414 yJ0_checkIndex_df160]
def wsX7_init_r6 : List Cond := [Cond.methodLink RJ2 71 yJ2_getChar_3b067, Cond.static yJ2_getChar_3b067, Cond.code yJ2_getChar_3b067 cJ2_getChar_3b067 2 (some .char), Cond.fieldLink RJ2 44 "java/lang/StringUTF16" "$assertionsDisabled" "Z", Cond.fieldLink RJ2 59 "java/lang/StringUTF16" "HI_BYTE_SHIFT" "I", Cond.fieldLink RJ2 63 "java/lang/StringUTF16" "LO_BYTE_SHIFT" "I", Cond.methodLink RX7 79 yX5_append, Cond.instanceMethod yX5_append, Cond.selects RX5 yX5_append yX5_append, Cond.code yX5_append cX5_append 2 (some .boolean), Cond.fieldLink RX5 18 "RingPages$Text" "length" "I", Cond.methodLink RX7 83 yX7_layText, Cond.instanceMethod yX7_layText, Cond.selects RX7 yX7_layText yX7_layText, Cond.initialized RX7, Cond.code yX7_layText cX7_layText 3 (some .boolean), Cond.fieldLink RX7 103 "RingPages$Past" "held" "I", Cond.methodLink RX7 90 yX5_readInto, Cond.instanceMethod yX5_readInto, Cond.selects RX5 yX5_readInto yX5_readInto, Cond.code yX5_readInto cX5_readInto 5 (some .int), Cond.fieldLink RX5 32 "RingPages$Text" "place" "I", Cond.methodLink RX5 22 yX1_begin, Cond.instanceMethod yX1_begin]
def wsX7_init_r7 : List Cond := [Cond.selects RX1 yX1_begin yX1_begin, Cond.code yX1_begin cX1_begin 4 none, Cond.fieldLink RX1 33 "RingPages$Net" "cells" "I", Cond.fieldLink RX1 37 "RingPages$Net" "joins" "I", Cond.methodLink RX1 40 yX1_price, Cond.instanceMethod yX1_price, Cond.selects RX1 yX1_price yX1_price, Cond.code yX1_price cX1_price 5 none, Cond.fieldLink RX1 44 "RingPages$Net" "mostRounds" "I", Cond.fieldLink RX1 47 "RingPages$Net" "pageCost" "I", Cond.fieldLink RX1 50 "RingPages$Net" "updateCost" "I", Cond.fieldLink RX1 53 "RingPages$Net" "callChance" "I", Cond.methodLink RX5 28 yX4_begin, Cond.instanceMethod yX4_begin, Cond.selects RX4 yX4_begin yX4_begin, Cond.code yX4_begin cX4_begin 2 none, Cond.fieldLink RX4 18 "RingPages$State" "kind" "I", Cond.fieldLink RX4 22 "RingPages$State" "value" "I", Cond.fieldLink RX4 25 "RingPages$State" "cell" "I", Cond.fieldLink RX4 28 "RingPages$State" "updates" "I", Cond.fieldLink RX4 31 "RingPages$State" "paged" "I", Cond.methodLink RX4 34 yX4_register, Cond.instanceMethod yX4_register, Cond.selects RX4 yX4_register yX4_register]
def wsX7_init_r8 : List Cond := [Cond.code yX4_register cX4_register 1 none, Cond.fieldLink RX4 43 "RingPages$State" "home" "I", Cond.fieldLink RX4 46 "RingPages$State" "moves" "I", Cond.fieldLink RX4 49 "RingPages$State" "ticks" "I", Cond.methodLink RX5 35 yX5_readItem, Cond.instanceMethod yX5_readItem, Cond.selects RX5 yX5_readItem yX5_readItem, Cond.code yX5_readItem cX5_readItem 5 (some .boolean), Cond.fieldLink RX5 43 "RingPages$Net" "cells" "I", Cond.fieldLink RX5 61 "RingPages$State" "stay" "[I", Cond.fieldLink RX5 68 "RingPages$State" "area" "[I", Cond.methodLink RX5 39 yX5_letterHere, Cond.instanceMethod yX5_letterHere, Cond.selects RX5 yX5_letterHere yX5_letterHere, Cond.code yX5_letterHere cX5_letterHere 1 (some .int), Cond.methodLink RX5 46 yX5_numbersBehind, Cond.instanceMethod yX5_numbersBehind, Cond.selects RX5 yX5_numbersBehind yX5_numbersBehind, Cond.code yX5_numbersBehind cX5_numbersBehind 2 (some .int), Cond.methodLink RX5 50 yX5_readNumbers, Cond.instanceMethod yX5_readNumbers, Cond.selects RX5 yX5_readNumbers yX5_readNumbers, Cond.code yX5_readNumbers cX5_readNumbers 3 (some .boolean), Cond.methodLink RX5 102 yX5_readNumber]
def wsX7_init_r9 : List Cond := [Cond.instanceMethod yX5_readNumber, Cond.selects RX5 yX5_readNumber yX5_readNumber, Cond.code yX5_readNumber cX5_readNumber 3 (some .int), Cond.methodLink RX5 105 yX5_figureHere, Cond.instanceMethod yX5_figureHere, Cond.selects RX5 yX5_figureHere yX5_figureHere, Cond.code yX5_figureHere cX5_figureHere 2 (some .int), Cond.methodLink RX5 54 yX5_takeCells, Cond.instanceMethod yX5_takeCells, Cond.selects RX5 yX5_takeCells yX5_takeCells, Cond.code yX5_takeCells cX5_takeCells 2 (some .boolean), Cond.methodLink RX5 58 yX5_takeJoin, Cond.instanceMethod yX5_takeJoin, Cond.selects RX5 yX5_takeJoin yX5_takeJoin, Cond.code yX5_takeJoin cX5_takeJoin 4 (some .boolean), Cond.fieldLink RX5 78 "RingPages$Net" "weight" "[[I", Cond.methodLink RX5 82 yX5_isWeight, Cond.instanceMethod yX5_isWeight, Cond.selects RX5 yX5_isWeight yX5_isWeight, Cond.code yX5_isWeight cX5_isWeight 2 (some .boolean), Cond.methodLink RX5 85 yX1_join, Cond.instanceMethod yX1_join, Cond.selects RX1 yX1_join yX1_join, Cond.code yX1_join cX1_join 5 none]
def wsX7_init_r10 : List Cond := [Cond.methodLink RX1 56 yX1_lead, Cond.instanceMethod yX1_lead, Cond.selects RX1 yX1_lead yX1_lead, Cond.code yX1_lead cX1_lead 4 none, Cond.methodLink RX5 64 yX5_takeCellNumber, Cond.instanceMethod yX5_takeCellNumber, Cond.selects RX5 yX5_takeCellNumber yX5_takeCellNumber, Cond.code yX5_takeCellNumber cX5_takeCellNumber 4 (some .boolean), Cond.methodLink RX5 71 yX5_takeLaw, Cond.instanceMethod yX5_takeLaw, Cond.selects RX5 yX5_takeLaw yX5_takeLaw, Cond.code yX5_takeLaw cX5_takeLaw 2 (some .boolean), Cond.fieldLink RX5 93 "RingPages$State" "kind" "I", Cond.fieldLink RX5 96 "RingPages$State" "value" "I", Cond.static yX7_isLaw, Cond.code yX7_isLaw cX7_isLaw 2 (some .boolean), Cond.methodLink RX5 75 yX5_takePrices, Cond.instanceMethod yX5_takePrices, Cond.selects RX5 yX5_takePrices yX5_takePrices, Cond.code yX5_takePrices cX5_takePrices 2 (some .boolean), Cond.methodLink RX5 99 yX1_price, Cond.methodLink RX7 97 yX1_isWhole, Cond.instanceMethod yX1_isWhole, Cond.selects RX1 yX1_isWhole yX1_isWhole]
def wsX7_init_r11 : List Cond := [Cond.code yX1_isWhole cX1_isWhole 4 (some .boolean), Cond.methodLink RX1 60 Lib.Math.min.name, Cond.static Lib.Math.min.name, Cond.initialized "java/lang/Math", Cond.code Lib.Math.min.name Lib.Math.min.code 2 (some .int), Cond.methodLink RX7 100 yX1_growTrees, Cond.instanceMethod yX1_growTrees, Cond.selects RX1 yX1_growTrees yX1_growTrees, Cond.code yX1_growTrees cX1_growTrees 2 none, Cond.methodLink RX1 66 yX1_treesTo, Cond.instanceMethod yX1_treesTo, Cond.selects RX1 yX1_treesTo yX1_treesTo, Cond.code yX1_treesTo cX1_treesTo 4 (some .long), Cond.methodLink RX1 70 yJ6_bitCount_0f7a4, Cond.static yJ6_bitCount_0f7a4, Cond.initialized RJ6, Cond.code yJ6_bitCount_0f7a4 cJ6_bitCount_0f7a4 1 (some .int), Cond.constant RJ6 265 (1431655765), Cond.constant RJ6 266 (858993459), Cond.constant RJ6 267 (252645135), Cond.methodLink RX1 76 yX1_rowOf, Cond.instanceMethod yX1_rowOf, Cond.selects RX1 yX1_rowOf yX1_rowOf, Cond.code yX1_rowOf cX1_rowOf 3 (some .int)]
def wsX7_init_r12 : List Cond := [Cond.methodLink RX1 79 yX1_minorOf, Cond.instanceMethod yX1_minorOf, Cond.selects RX1 yX1_minorOf yX1_minorOf, Cond.code yX1_minorOf cX1_minorOf 9 (some .long), Cond.static yX7_holds, Cond.code yX7_holds cX7_holds 2 (some .boolean), Cond.methodLink RX7 106 yX0_reckon, Cond.instanceMethod yX0_reckon, Cond.selects RX0 yX0_reckon yX0_reckon, Cond.code yX0_reckon cX0_reckon 4 none, Cond.fieldLink RX0 22 "RingPages$LongRun" "below" "J", Cond.fieldLink RX0 26 "RingPages$Net" "cells" "I", Cond.fieldLink RX0 32 "RingPages$State" "stay" "[I", Cond.fieldLink RX0 37 "RingPages$Net" "out" "[I", Cond.fieldLink RX0 40 "RingPages$Net" "trees" "[J", Cond.fieldLink RX0 43 "RingPages$LongRun" "bestKnown" "Z"]
def wsX7_init : List Cond := .code yX7_init cX7_init 2 none :: ((wsX7_init_r1 ++ (wsX7_init_r2 ++ (wsX7_init_r3 ++ (wsX7_init_r4 ++ (wsX7_init_r5 ++ (wsX7_init_r6 ++ (wsX7_init_r7 ++ (wsX7_init_r8 ++ (wsX7_init_r9 ++ (wsX7_init_r10 ++ (wsX7_init_r11 ++ wsX7_init_r12))))))))))) ++ wsX50 ++ wsX70 ++ wsX20 ++ wsX00 ++ wsX60 ++ wsX30 ++ wsX40 ++ wsX10)
def wsX7_write : List Cond := .code yX7_write cX7_write 2 (some .int) :: ([.fieldLink RX7 10 "RingPages" "text" "LRingPages$Text;", .fieldLink RX7 87 "RingPages$Text" "length" "I", .methodLink RX7 79 yX5_append, .instanceMethod yX5_append, .selects RX5 yX5_append yX5_append, .initialized RX5, .code yX5_append cX5_append 2 (some .boolean), .fieldLink RX5 18 "RingPages$Text" "length" "I", .fieldLink RX5 9 "RingPages$Text" "letters" "[I"] ++ wsX70 ++ wsX50)
def wsX7_wipe : List Cond := .code yX7_wipe cX7_wipe 2 (some .int) :: ([.fieldLink RX7 10 "RingPages" "text" "LRingPages$Text;", .fieldLink RX7 87 "RingPages$Text" "length" "I"] ++ wsX70 ++ wsX50)
def wsX7_fault_r1 : List Cond := [Cond.fieldLink RX7 10 "RingPages" "text" "LRingPages$Text;", Cond.fieldLink RX7 61 "RingPages" "draftNet" "LRingPages$Net;", Cond.fieldLink RX7 64 "RingPages" "draftState" "LRingPages$State;", Cond.methodLink RX7 90 yX5_readInto, Cond.instanceMethod yX5_readInto, Cond.selects RX5 yX5_readInto yX5_readInto, Cond.initialized RX5, Cond.code yX5_readInto cX5_readInto 5 (some .int), Cond.fieldLink RX5 32 "RingPages$Text" "place" "I", Cond.fieldLink RX5 18 "RingPages$Text" "length" "I", Cond.methodLink RX5 22 yX1_begin, Cond.instanceMethod yX1_begin, Cond.selects RX1 yX1_begin yX1_begin, Cond.initialized RX1, Cond.code yX1_begin cX1_begin 4 none, Cond.fieldLink RX1 33 "RingPages$Net" "cells" "I", Cond.fieldLink RX1 37 "RingPages$Net" "joins" "I", Cond.fieldLink RX1 19 "RingPages$Net" "near" "[I", Cond.fieldLink RX1 23 "RingPages$Net" "out" "[I", Cond.fieldLink RX1 11 "RingPages$Net" "weight" "[[I", Cond.fieldLink RX1 16 "RingPages$Net" "wide" "[[I", Cond.methodLink RX1 40 yX1_price, Cond.instanceMethod yX1_price, Cond.selects RX1 yX1_price yX1_price]
def wsX7_fault_r2 : List Cond := [Cond.code yX1_price cX1_price 5 none, Cond.fieldLink RX1 44 "RingPages$Net" "mostRounds" "I", Cond.fieldLink RX1 47 "RingPages$Net" "pageCost" "I", Cond.fieldLink RX1 50 "RingPages$Net" "updateCost" "I", Cond.fieldLink RX1 53 "RingPages$Net" "callChance" "I", Cond.methodLink RX5 28 yX4_begin, Cond.instanceMethod yX4_begin, Cond.selects RX4 yX4_begin yX4_begin, Cond.initialized RX4, Cond.code yX4_begin cX4_begin 2 none, Cond.fieldLink RX4 9 "RingPages$State" "stay" "[I", Cond.fieldLink RX4 15 "RingPages$State" "area" "[I", Cond.fieldLink RX4 18 "RingPages$State" "kind" "I", Cond.fieldLink RX4 22 "RingPages$State" "value" "I", Cond.fieldLink RX4 25 "RingPages$State" "cell" "I", Cond.fieldLink RX4 28 "RingPages$State" "updates" "I", Cond.fieldLink RX4 31 "RingPages$State" "paged" "I", Cond.methodLink RX4 34 yX4_register, Cond.instanceMethod yX4_register, Cond.selects RX4 yX4_register yX4_register, Cond.code yX4_register cX4_register 1 none, Cond.fieldLink RX4 43 "RingPages$State" "home" "I", Cond.fieldLink RX4 46 "RingPages$State" "moves" "I", Cond.fieldLink RX4 49 "RingPages$State" "ticks" "I"]
def wsX7_fault_r3 : List Cond := [Cond.methodLink RX5 35 yX5_readItem, Cond.instanceMethod yX5_readItem, Cond.selects RX5 yX5_readItem yX5_readItem, Cond.code yX5_readItem cX5_readItem 5 (some .boolean), Cond.fieldLink RX5 43 "RingPages$Net" "cells" "I", Cond.fieldLink RX5 61 "RingPages$State" "stay" "[I", Cond.fieldLink RX5 68 "RingPages$State" "area" "[I", Cond.methodLink RX5 39 yX5_letterHere, Cond.instanceMethod yX5_letterHere, Cond.selects RX5 yX5_letterHere yX5_letterHere, Cond.code yX5_letterHere cX5_letterHere 1 (some .int), Cond.fieldLink RX5 9 "RingPages$Text" "letters" "[I", Cond.methodLink RX5 46 yX5_numbersBehind, Cond.instanceMethod yX5_numbersBehind, Cond.selects RX5 yX5_numbersBehind yX5_numbersBehind, Cond.code yX5_numbersBehind cX5_numbersBehind 2 (some .int), Cond.methodLink RX5 50 yX5_readNumbers, Cond.instanceMethod yX5_readNumbers, Cond.selects RX5 yX5_readNumbers yX5_readNumbers, Cond.code yX5_readNumbers cX5_readNumbers 3 (some .boolean), Cond.fieldLink RX5 15 "RingPages$Text" "numbers" "[I", Cond.methodLink RX5 102 yX5_readNumber, Cond.instanceMethod yX5_readNumber, Cond.selects RX5 yX5_readNumber yX5_readNumber]
def wsX7_fault_r4 : List Cond := [Cond.code yX5_readNumber cX5_readNumber 3 (some .int), Cond.methodLink RX5 105 yX5_figureHere, Cond.instanceMethod yX5_figureHere, Cond.selects RX5 yX5_figureHere yX5_figureHere, Cond.code yX5_figureHere cX5_figureHere 2 (some .int), Cond.methodLink RX5 54 yX5_takeCells, Cond.instanceMethod yX5_takeCells, Cond.selects RX5 yX5_takeCells yX5_takeCells, Cond.code yX5_takeCells cX5_takeCells 2 (some .boolean), Cond.methodLink RX5 58 yX5_takeJoin, Cond.instanceMethod yX5_takeJoin, Cond.selects RX5 yX5_takeJoin yX5_takeJoin, Cond.code yX5_takeJoin cX5_takeJoin 4 (some .boolean), Cond.fieldLink RX5 78 "RingPages$Net" "weight" "[[I", Cond.methodLink RX5 82 yX5_isWeight, Cond.instanceMethod yX5_isWeight, Cond.selects RX5 yX5_isWeight yX5_isWeight, Cond.code yX5_isWeight cX5_isWeight 2 (some .boolean), Cond.methodLink RX5 85 yX1_join, Cond.instanceMethod yX1_join, Cond.selects RX1 yX1_join yX1_join, Cond.code yX1_join cX1_join 5 none, Cond.methodLink RX1 56 yX1_lead, Cond.instanceMethod yX1_lead]
def wsX7_fault_r5 : List Cond := [Cond.selects RX1 yX1_lead yX1_lead, Cond.code yX1_lead cX1_lead 4 none, Cond.methodLink RX5 64 yX5_takeCellNumber, Cond.instanceMethod yX5_takeCellNumber, Cond.selects RX5 yX5_takeCellNumber yX5_takeCellNumber, Cond.code yX5_takeCellNumber cX5_takeCellNumber 4 (some .boolean), Cond.methodLink RX5 71 yX5_takeLaw, Cond.instanceMethod yX5_takeLaw, Cond.selects RX5 yX5_takeLaw yX5_takeLaw, Cond.code yX5_takeLaw cX5_takeLaw 2 (some .boolean), Cond.fieldLink RX5 93 "RingPages$State" "kind" "I", Cond.fieldLink RX5 96 "RingPages$State" "value" "I", Cond.static yX7_isLaw, Cond.initialized RX7, Cond.code yX7_isLaw cX7_isLaw 2 (some .boolean), Cond.methodLink RX5 75 yX5_takePrices, Cond.instanceMethod yX5_takePrices, Cond.selects RX5 yX5_takePrices yX5_takePrices, Cond.code yX5_takePrices cX5_takePrices 2 (some .boolean), Cond.methodLink RX5 99 yX1_price]
def wsX7_fault : List Cond := .code yX7_fault cX7_fault 1 (some .int) :: ((wsX7_fault_r1 ++ (wsX7_fault_r2 ++ (wsX7_fault_r3 ++ (wsX7_fault_r4 ++ wsX7_fault_r5)))) ++ wsX70 ++ wsX50 ++ wsX10 ++ wsX40)
def wsX7_lay_r1 : List Cond := [Cond.fieldLink RX7 54 "RingPages" "net" "LRingPages$Net;", Cond.fieldLink RX7 94 "RingPages$Net" "cells" "I", Cond.methodLink RX7 83 yX7_layText, Cond.instanceMethod yX7_layText, Cond.selects RX7 yX7_layText yX7_layText, Cond.initialized RX7, Cond.code yX7_layText cX7_layText 3 (some .boolean), Cond.fieldLink RX7 10 "RingPages" "text" "LRingPages$Text;", Cond.fieldLink RX7 61 "RingPages" "draftNet" "LRingPages$Net;", Cond.fieldLink RX7 64 "RingPages" "draftState" "LRingPages$State;", Cond.fieldLink RX7 58 "RingPages" "state" "LRingPages$State;", Cond.fieldLink RX7 19 "RingPages" "past" "LRingPages$Past;", Cond.fieldLink RX7 103 "RingPages$Past" "held" "I", Cond.fieldLink RX7 26 "RingPages" "longRun" "LRingPages$LongRun;", Cond.methodLink RX7 90 yX5_readInto, Cond.instanceMethod yX5_readInto, Cond.selects RX5 yX5_readInto yX5_readInto, Cond.initialized RX5, Cond.code yX5_readInto cX5_readInto 5 (some .int), Cond.fieldLink RX5 32 "RingPages$Text" "place" "I", Cond.fieldLink RX5 18 "RingPages$Text" "length" "I", Cond.methodLink RX5 22 yX1_begin, Cond.instanceMethod yX1_begin, Cond.selects RX1 yX1_begin yX1_begin]
def wsX7_lay_r2 : List Cond := [Cond.initialized RX1, Cond.code yX1_begin cX1_begin 4 none, Cond.fieldLink RX1 33 "RingPages$Net" "cells" "I", Cond.fieldLink RX1 37 "RingPages$Net" "joins" "I", Cond.fieldLink RX1 19 "RingPages$Net" "near" "[I", Cond.fieldLink RX1 23 "RingPages$Net" "out" "[I", Cond.fieldLink RX1 11 "RingPages$Net" "weight" "[[I", Cond.fieldLink RX1 16 "RingPages$Net" "wide" "[[I", Cond.methodLink RX1 40 yX1_price, Cond.instanceMethod yX1_price, Cond.selects RX1 yX1_price yX1_price, Cond.code yX1_price cX1_price 5 none, Cond.fieldLink RX1 44 "RingPages$Net" "mostRounds" "I", Cond.fieldLink RX1 47 "RingPages$Net" "pageCost" "I", Cond.fieldLink RX1 50 "RingPages$Net" "updateCost" "I", Cond.fieldLink RX1 53 "RingPages$Net" "callChance" "I", Cond.methodLink RX5 28 yX4_begin, Cond.instanceMethod yX4_begin, Cond.selects RX4 yX4_begin yX4_begin, Cond.initialized RX4, Cond.code yX4_begin cX4_begin 2 none, Cond.fieldLink RX4 9 "RingPages$State" "stay" "[I", Cond.fieldLink RX4 15 "RingPages$State" "area" "[I", Cond.fieldLink RX4 18 "RingPages$State" "kind" "I"]
def wsX7_lay_r3 : List Cond := [Cond.fieldLink RX4 22 "RingPages$State" "value" "I", Cond.fieldLink RX4 25 "RingPages$State" "cell" "I", Cond.fieldLink RX4 28 "RingPages$State" "updates" "I", Cond.fieldLink RX4 31 "RingPages$State" "paged" "I", Cond.methodLink RX4 34 yX4_register, Cond.instanceMethod yX4_register, Cond.selects RX4 yX4_register yX4_register, Cond.code yX4_register cX4_register 1 none, Cond.fieldLink RX4 43 "RingPages$State" "home" "I", Cond.fieldLink RX4 46 "RingPages$State" "moves" "I", Cond.fieldLink RX4 49 "RingPages$State" "ticks" "I", Cond.methodLink RX5 35 yX5_readItem, Cond.instanceMethod yX5_readItem, Cond.selects RX5 yX5_readItem yX5_readItem, Cond.code yX5_readItem cX5_readItem 5 (some .boolean), Cond.fieldLink RX5 43 "RingPages$Net" "cells" "I", Cond.fieldLink RX5 61 "RingPages$State" "stay" "[I", Cond.fieldLink RX5 68 "RingPages$State" "area" "[I", Cond.methodLink RX5 39 yX5_letterHere, Cond.instanceMethod yX5_letterHere, Cond.selects RX5 yX5_letterHere yX5_letterHere, Cond.code yX5_letterHere cX5_letterHere 1 (some .int), Cond.fieldLink RX5 9 "RingPages$Text" "letters" "[I", Cond.methodLink RX5 46 yX5_numbersBehind]
def wsX7_lay_r4 : List Cond := [Cond.instanceMethod yX5_numbersBehind, Cond.selects RX5 yX5_numbersBehind yX5_numbersBehind, Cond.code yX5_numbersBehind cX5_numbersBehind 2 (some .int), Cond.methodLink RX5 50 yX5_readNumbers, Cond.instanceMethod yX5_readNumbers, Cond.selects RX5 yX5_readNumbers yX5_readNumbers, Cond.code yX5_readNumbers cX5_readNumbers 3 (some .boolean), Cond.fieldLink RX5 15 "RingPages$Text" "numbers" "[I", Cond.methodLink RX5 102 yX5_readNumber, Cond.instanceMethod yX5_readNumber, Cond.selects RX5 yX5_readNumber yX5_readNumber, Cond.code yX5_readNumber cX5_readNumber 3 (some .int), Cond.methodLink RX5 105 yX5_figureHere, Cond.instanceMethod yX5_figureHere, Cond.selects RX5 yX5_figureHere yX5_figureHere, Cond.code yX5_figureHere cX5_figureHere 2 (some .int), Cond.methodLink RX5 54 yX5_takeCells, Cond.instanceMethod yX5_takeCells, Cond.selects RX5 yX5_takeCells yX5_takeCells, Cond.code yX5_takeCells cX5_takeCells 2 (some .boolean), Cond.methodLink RX5 58 yX5_takeJoin, Cond.instanceMethod yX5_takeJoin, Cond.selects RX5 yX5_takeJoin yX5_takeJoin, Cond.code yX5_takeJoin cX5_takeJoin 4 (some .boolean)]
def wsX7_lay_r5 : List Cond := [Cond.fieldLink RX5 78 "RingPages$Net" "weight" "[[I", Cond.methodLink RX5 82 yX5_isWeight, Cond.instanceMethod yX5_isWeight, Cond.selects RX5 yX5_isWeight yX5_isWeight, Cond.code yX5_isWeight cX5_isWeight 2 (some .boolean), Cond.methodLink RX5 85 yX1_join, Cond.instanceMethod yX1_join, Cond.selects RX1 yX1_join yX1_join, Cond.code yX1_join cX1_join 5 none, Cond.methodLink RX1 56 yX1_lead, Cond.instanceMethod yX1_lead, Cond.selects RX1 yX1_lead yX1_lead, Cond.code yX1_lead cX1_lead 4 none, Cond.methodLink RX5 64 yX5_takeCellNumber, Cond.instanceMethod yX5_takeCellNumber, Cond.selects RX5 yX5_takeCellNumber yX5_takeCellNumber, Cond.code yX5_takeCellNumber cX5_takeCellNumber 4 (some .boolean), Cond.methodLink RX5 71 yX5_takeLaw, Cond.instanceMethod yX5_takeLaw, Cond.selects RX5 yX5_takeLaw yX5_takeLaw, Cond.code yX5_takeLaw cX5_takeLaw 2 (some .boolean), Cond.fieldLink RX5 93 "RingPages$State" "kind" "I", Cond.fieldLink RX5 96 "RingPages$State" "value" "I", Cond.static yX7_isLaw]
def wsX7_lay_r6 : List Cond := [Cond.code yX7_isLaw cX7_isLaw 2 (some .boolean), Cond.methodLink RX5 75 yX5_takePrices, Cond.instanceMethod yX5_takePrices, Cond.selects RX5 yX5_takePrices yX5_takePrices, Cond.code yX5_takePrices cX5_takePrices 2 (some .boolean), Cond.methodLink RX5 99 yX1_price, Cond.methodLink RX7 97 yX1_isWhole, Cond.instanceMethod yX1_isWhole, Cond.selects RX1 yX1_isWhole yX1_isWhole, Cond.code yX1_isWhole cX1_isWhole 4 (some .boolean), Cond.methodLink RX1 60 Lib.Math.min.name, Cond.static Lib.Math.min.name, Cond.initialized "java/lang/Math", Cond.code Lib.Math.min.name Lib.Math.min.code 2 (some .int), Cond.methodLink RX7 100 yX1_growTrees, Cond.instanceMethod yX1_growTrees, Cond.selects RX1 yX1_growTrees yX1_growTrees, Cond.code yX1_growTrees cX1_growTrees 2 none, Cond.fieldLink RX1 26 "RingPages$Net" "trees" "[J", Cond.methodLink RX1 66 yX1_treesTo, Cond.instanceMethod yX1_treesTo, Cond.selects RX1 yX1_treesTo yX1_treesTo, Cond.code yX1_treesTo cX1_treesTo 4 (some .long), Cond.fieldLink RX1 30 "RingPages$Net" "minors" "[J"]
def wsX7_lay_r7 : List Cond := [Cond.methodLink RX1 70 yJ6_bitCount_0f7a4, Cond.static yJ6_bitCount_0f7a4, Cond.initialized RJ6, Cond.code yJ6_bitCount_0f7a4 cJ6_bitCount_0f7a4 1 (some .int), Cond.constant RJ6 265 (1431655765), Cond.constant RJ6 266 (858993459), Cond.constant RJ6 267 (252645135), Cond.methodLink RX1 76 yX1_rowOf, Cond.instanceMethod yX1_rowOf, Cond.selects RX1 yX1_rowOf yX1_rowOf, Cond.code yX1_rowOf cX1_rowOf 3 (some .int), Cond.methodLink RX1 79 yX1_minorOf, Cond.instanceMethod yX1_minorOf, Cond.selects RX1 yX1_minorOf yX1_minorOf, Cond.code yX1_minorOf cX1_minorOf 9 (some .long), Cond.static yX7_holds, Cond.code yX7_holds cX7_holds 2 (some .boolean), Cond.methodLink RX7 106 yX0_reckon, Cond.instanceMethod yX0_reckon, Cond.selects RX0 yX0_reckon yX0_reckon, Cond.initialized RX0, Cond.code yX0_reckon cX0_reckon 4 none, Cond.fieldLink RX0 22 "RingPages$LongRun" "below" "J", Cond.fieldLink RX0 26 "RingPages$Net" "cells" "I"]
def wsX7_lay_r8 : List Cond := [Cond.fieldLink RX0 9 "RingPages$LongRun" "above" "[J", Cond.fieldLink RX0 32 "RingPages$State" "stay" "[I", Cond.fieldLink RX0 37 "RingPages$Net" "out" "[I", Cond.fieldLink RX0 40 "RingPages$Net" "trees" "[J", Cond.fieldLink RX0 43 "RingPages$LongRun" "bestKnown" "Z"]
def wsX7_lay : List Cond := .code yX7_lay cX7_lay 1 (some .int) :: ((wsX7_lay_r1 ++ (wsX7_lay_r2 ++ (wsX7_lay_r3 ++ (wsX7_lay_r4 ++ (wsX7_lay_r5 ++ (wsX7_lay_r6 ++ (wsX7_lay_r7 ++ wsX7_lay_r8))))))) ++ wsX70 ++ wsX10 ++ wsX20 ++ wsX50 ++ wsX40 ++ wsX00)
def wsX7_isCell : List Cond := .code yX7_isCell cX7_isCell 2 (some .boolean) :: ([.fieldLink RX7 54 "RingPages" "net" "LRingPages$Net;", .fieldLink RX7 94 "RingPages$Net" "cells" "I"] ++ wsX70 ++ wsX10)
def wsX7_set_r1 : List Cond := [Cond.fieldLink RX7 58 "RingPages" "state" "LRingPages$State;", Cond.fieldLink RX7 113 "RingPages$State" "stay" "[I", Cond.fieldLink RX7 117 "RingPages$State" "area" "[I", Cond.fieldLink RX7 19 "RingPages" "past" "LRingPages$Past;", Cond.fieldLink RX7 26 "RingPages" "longRun" "LRingPages$LongRun;", Cond.fieldLink RX7 54 "RingPages" "net" "LRingPages$Net;", Cond.methodLink RX7 110 yX7_isCell, Cond.instanceMethod yX7_isCell, Cond.selects RX7 yX7_isCell yX7_isCell, Cond.initialized RX7, Cond.code yX7_isCell cX7_isCell 2 (some .boolean), Cond.fieldLink RX7 94 "RingPages$Net" "cells" "I", Cond.methodLink RX7 120 yX2_keep, Cond.instanceMethod yX2_keep, Cond.selects RX2 yX2_keep yX2_keep, Cond.initialized RX2, Cond.code yX2_keep cX2_keep 2 none, Cond.fieldLink RX2 11 "RingPages$Past" "kept" "[LRingPages$State;", Cond.fieldLink RX2 18 "RingPages$Past" "next" "I", Cond.fieldLink RX2 26 "RingPages$Past" "held" "I", Cond.methodLink RX2 29 Lib.Math.min.name, Cond.static Lib.Math.min.name, Cond.initialized "java/lang/Math", Cond.code Lib.Math.min.name Lib.Math.min.code 2 (some .int)]
def wsX7_set_r2 : List Cond := [Cond.methodLink RX2 22 yX4_copyFrom, Cond.instanceMethod yX4_copyFrom, Cond.selects RX4 yX4_copyFrom yX4_copyFrom, Cond.initialized RX4, Cond.code yX4_copyFrom cX4_copyFrom 2 none, Cond.fieldLink RX4 9 "RingPages$State" "stay" "[I", Cond.methodLink RX4 37 arraycopyName, Cond.native arraycopyName, Cond.static arraycopyName, Cond.initialized "java/lang/System", Cond.fieldLink RX4 15 "RingPages$State" "area" "[I", Cond.fieldLink RX4 18 "RingPages$State" "kind" "I", Cond.fieldLink RX4 22 "RingPages$State" "value" "I", Cond.fieldLink RX4 25 "RingPages$State" "cell" "I", Cond.fieldLink RX4 43 "RingPages$State" "home" "I", Cond.fieldLink RX4 46 "RingPages$State" "moves" "I", Cond.fieldLink RX4 49 "RingPages$State" "ticks" "I", Cond.fieldLink RX4 28 "RingPages$State" "updates" "I", Cond.fieldLink RX4 31 "RingPages$State" "paged" "I", Cond.methodLink RX7 106 yX0_reckon, Cond.instanceMethod yX0_reckon, Cond.selects RX0 yX0_reckon yX0_reckon, Cond.initialized RX0, Cond.code yX0_reckon cX0_reckon 4 none]
def wsX7_set_r3 : List Cond := [Cond.fieldLink RX0 22 "RingPages$LongRun" "below" "J", Cond.fieldLink RX0 26 "RingPages$Net" "cells" "I", Cond.fieldLink RX0 9 "RingPages$LongRun" "above" "[J", Cond.fieldLink RX0 32 "RingPages$State" "stay" "[I", Cond.fieldLink RX0 37 "RingPages$Net" "out" "[I", Cond.fieldLink RX0 40 "RingPages$Net" "trees" "[J", Cond.fieldLink RX0 43 "RingPages$LongRun" "bestKnown" "Z", Cond.methodLink RX7 124 yX4_register, Cond.instanceMethod yX4_register, Cond.selects RX4 yX4_register yX4_register, Cond.code yX4_register cX4_register 1 none]
def wsX7_set : List Cond := .code yX7_set cX7_set 5 (some .int) :: ((wsX7_set_r1 ++ (wsX7_set_r2 ++ wsX7_set_r3)) ++ wsX70 ++ wsX40 ++ wsX10 ++ wsX20 ++ wsX00)
def wsX7_law_r1 : List Cond := [Cond.fieldLink RX7 58 "RingPages" "state" "LRingPages$State;", Cond.fieldLink RX7 131 "RingPages$State" "kind" "I", Cond.fieldLink RX7 134 "RingPages$State" "value" "I", Cond.fieldLink RX7 19 "RingPages" "past" "LRingPages$Past;", Cond.methodLink RX7 127 yX7_isLaw, Cond.static yX7_isLaw, Cond.initialized RX7, Cond.code yX7_isLaw cX7_isLaw 2 (some .boolean), Cond.methodLink RX7 120 yX2_keep, Cond.instanceMethod yX2_keep, Cond.selects RX2 yX2_keep yX2_keep, Cond.initialized RX2, Cond.code yX2_keep cX2_keep 2 none, Cond.fieldLink RX2 11 "RingPages$Past" "kept" "[LRingPages$State;", Cond.fieldLink RX2 18 "RingPages$Past" "next" "I", Cond.fieldLink RX2 26 "RingPages$Past" "held" "I", Cond.methodLink RX2 29 Lib.Math.min.name, Cond.static Lib.Math.min.name, Cond.initialized "java/lang/Math", Cond.code Lib.Math.min.name Lib.Math.min.code 2 (some .int), Cond.methodLink RX2 22 yX4_copyFrom, Cond.instanceMethod yX4_copyFrom, Cond.selects RX4 yX4_copyFrom yX4_copyFrom, Cond.initialized RX4]
def wsX7_law_r2 : List Cond := [Cond.code yX4_copyFrom cX4_copyFrom 2 none, Cond.fieldLink RX4 9 "RingPages$State" "stay" "[I", Cond.methodLink RX4 37 arraycopyName, Cond.native arraycopyName, Cond.static arraycopyName, Cond.initialized "java/lang/System", Cond.fieldLink RX4 15 "RingPages$State" "area" "[I", Cond.fieldLink RX4 18 "RingPages$State" "kind" "I", Cond.fieldLink RX4 22 "RingPages$State" "value" "I", Cond.fieldLink RX4 25 "RingPages$State" "cell" "I", Cond.fieldLink RX4 43 "RingPages$State" "home" "I", Cond.fieldLink RX4 46 "RingPages$State" "moves" "I", Cond.fieldLink RX4 49 "RingPages$State" "ticks" "I", Cond.fieldLink RX4 28 "RingPages$State" "updates" "I", Cond.fieldLink RX4 31 "RingPages$State" "paged" "I", Cond.methodLink RX7 124 yX4_register, Cond.instanceMethod yX4_register, Cond.selects RX4 yX4_register yX4_register, Cond.code yX4_register cX4_register 1 none]
def wsX7_law : List Cond := .code yX7_law cX7_law 4 (some .int) :: ((wsX7_law_r1 ++ wsX7_law_r2) ++ wsX70 ++ wsX40 ++ wsX20)
def wsX7_give_r1 : List Cond := [Cond.fieldLink RX7 26 "RingPages" "longRun" "LRingPages$LongRun;", Cond.fieldLink RX7 54 "RingPages" "net" "LRingPages$Net;", Cond.fieldLink RX7 19 "RingPages" "past" "LRingPages$Past;", Cond.fieldLink RX7 58 "RingPages" "state" "LRingPages$State;", Cond.fieldLink RX7 94 "RingPages$Net" "cells" "I", Cond.fieldLink RX7 117 "RingPages$State" "area" "[I", Cond.fieldLink RX7 141 "RingPages$LongRun" "best" "[I", Cond.methodLink RX7 137 yX0_findBest, Cond.instanceMethod yX0_findBest, Cond.selects RX0 yX0_findBest yX0_findBest, Cond.initialized RX0, Cond.code yX0_findBest cX0_findBest 5 none, Cond.fieldLink RX0 43 "RingPages$LongRun" "bestKnown" "Z", Cond.fieldLink RX0 19 "RingPages$LongRun" "tried" "[I", Cond.fieldLink RX0 26 "RingPages$Net" "cells" "I", Cond.fieldLink RX0 79 "RingPages$LongRun" "leastExpense" "J", Cond.methodLink RX0 68 yX0_expense, Cond.instanceMethod yX0_expense, Cond.selects RX0 yX0_expense yX0_expense, Cond.code yX0_expense cX0_expense 6 (some .long), Cond.fieldLink RX0 9 "RingPages$LongRun" "above" "[J", Cond.fieldLink RX0 55 "RingPages$Net" "updateCost" "I", Cond.fieldLink RX0 62 "RingPages$Net" "pageCost" "I", Cond.fieldLink RX0 65 "RingPages$Net" "callChance" "I"]
def wsX7_give_r2 : List Cond := [Cond.static yX7_sameArea, Cond.initialized RX7, Cond.code yX7_sameArea cX7_sameArea 5 (some .int), Cond.methodLink RX0 58 yX0_crosses, Cond.instanceMethod yX0_crosses, Cond.selects RX0 yX0_crosses yX0_crosses, Cond.code yX0_crosses cX0_crosses 7 (some .long), Cond.fieldLink RX0 40 "RingPages$Net" "trees" "[J", Cond.fieldLink RX0 47 "RingPages$Net" "weight" "[[I", Cond.methodLink RX0 71 yX0_takeTried, Cond.instanceMethod yX0_takeTried, Cond.selects RX0 yX0_takeTried yX0_takeTried, Cond.code yX0_takeTried cX0_takeTried 3 none, Cond.fieldLink RX0 15 "RingPages$LongRun" "best" "[I", Cond.methodLink RX0 82 arraycopyName, Cond.native arraycopyName, Cond.static arraycopyName, Cond.initialized "java/lang/System", Cond.methodLink RX0 75 yX0_nextTried, Cond.instanceMethod yX0_nextTried, Cond.selects RX0 yX0_nextTried yX0_nextTried, Cond.code yX0_nextTried cX0_nextTried 3 (some .boolean), Cond.methodLink RX0 88 yX0_highestAhead, Cond.instanceMethod yX0_highestAhead]
def wsX7_give_r3 : List Cond := [Cond.selects RX0 yX0_highestAhead yX0_highestAhead, Cond.code yX0_highestAhead cX0_highestAhead 4 (some .int), Cond.methodLink RX0 92 Lib.Math.max.name, Cond.static Lib.Math.max.name, Cond.initialized "java/lang/Math", Cond.code Lib.Math.max.name Lib.Math.max.code 2 (some .int), Cond.methodLink RX7 120 yX2_keep, Cond.instanceMethod yX2_keep, Cond.selects RX2 yX2_keep yX2_keep, Cond.initialized RX2, Cond.code yX2_keep cX2_keep 2 none, Cond.fieldLink RX2 11 "RingPages$Past" "kept" "[LRingPages$State;", Cond.fieldLink RX2 18 "RingPages$Past" "next" "I", Cond.fieldLink RX2 26 "RingPages$Past" "held" "I", Cond.methodLink RX2 29 Lib.Math.min.name, Cond.static Lib.Math.min.name, Cond.code Lib.Math.min.name Lib.Math.min.code 2 (some .int), Cond.methodLink RX2 22 yX4_copyFrom, Cond.instanceMethod yX4_copyFrom, Cond.selects RX4 yX4_copyFrom yX4_copyFrom, Cond.initialized RX4, Cond.code yX4_copyFrom cX4_copyFrom 2 none, Cond.fieldLink RX4 9 "RingPages$State" "stay" "[I", Cond.methodLink RX4 37 arraycopyName]
def wsX7_give_r4 : List Cond := [Cond.fieldLink RX4 15 "RingPages$State" "area" "[I", Cond.fieldLink RX4 18 "RingPages$State" "kind" "I", Cond.fieldLink RX4 22 "RingPages$State" "value" "I", Cond.fieldLink RX4 25 "RingPages$State" "cell" "I", Cond.fieldLink RX4 43 "RingPages$State" "home" "I", Cond.fieldLink RX4 46 "RingPages$State" "moves" "I", Cond.fieldLink RX4 49 "RingPages$State" "ticks" "I", Cond.fieldLink RX4 28 "RingPages$State" "updates" "I", Cond.fieldLink RX4 31 "RingPages$State" "paged" "I", Cond.methodLink RX7 124 yX4_register, Cond.instanceMethod yX4_register, Cond.selects RX4 yX4_register yX4_register, Cond.code yX4_register cX4_register 1 none]
def wsX7_give : List Cond := .code yX7_give cX7_give 3 (some .int) :: ((wsX7_give_r1 ++ (wsX7_give_r2 ++ (wsX7_give_r3 ++ wsX7_give_r4))) ++ wsX70 ++ wsX10 ++ wsX40 ++ wsX00 ++ wsX20)
def wsX7_undo_r1 : List Cond := [Cond.fieldLink RX7 19 "RingPages" "past" "LRingPages$Past;", Cond.fieldLink RX7 58 "RingPages" "state" "LRingPages$State;", Cond.fieldLink RX7 26 "RingPages" "longRun" "LRingPages$LongRun;", Cond.fieldLink RX7 54 "RingPages" "net" "LRingPages$Net;", Cond.fieldLink RX7 103 "RingPages$Past" "held" "I", Cond.methodLink RX7 144 yX2_bringBack, Cond.instanceMethod yX2_bringBack, Cond.selects RX2 yX2_bringBack yX2_bringBack, Cond.initialized RX2, Cond.code yX2_bringBack cX2_bringBack 2 (some .boolean), Cond.fieldLink RX2 26 "RingPages$Past" "held" "I", Cond.fieldLink RX2 18 "RingPages$Past" "next" "I", Cond.fieldLink RX2 11 "RingPages$Past" "kept" "[LRingPages$State;", Cond.methodLink RX2 22 yX4_copyFrom, Cond.instanceMethod yX4_copyFrom, Cond.selects RX4 yX4_copyFrom yX4_copyFrom, Cond.initialized RX4, Cond.code yX4_copyFrom cX4_copyFrom 2 none, Cond.fieldLink RX4 9 "RingPages$State" "stay" "[I", Cond.methodLink RX4 37 arraycopyName, Cond.native arraycopyName, Cond.static arraycopyName, Cond.initialized "java/lang/System", Cond.fieldLink RX4 15 "RingPages$State" "area" "[I"]
def wsX7_undo_r2 : List Cond := [Cond.fieldLink RX4 18 "RingPages$State" "kind" "I", Cond.fieldLink RX4 22 "RingPages$State" "value" "I", Cond.fieldLink RX4 25 "RingPages$State" "cell" "I", Cond.fieldLink RX4 43 "RingPages$State" "home" "I", Cond.fieldLink RX4 46 "RingPages$State" "moves" "I", Cond.fieldLink RX4 49 "RingPages$State" "ticks" "I", Cond.fieldLink RX4 28 "RingPages$State" "updates" "I", Cond.fieldLink RX4 31 "RingPages$State" "paged" "I", Cond.methodLink RX7 106 yX0_reckon, Cond.instanceMethod yX0_reckon, Cond.selects RX0 yX0_reckon yX0_reckon, Cond.initialized RX0, Cond.code yX0_reckon cX0_reckon 4 none, Cond.fieldLink RX0 22 "RingPages$LongRun" "below" "J", Cond.fieldLink RX0 26 "RingPages$Net" "cells" "I", Cond.fieldLink RX0 9 "RingPages$LongRun" "above" "[J", Cond.fieldLink RX0 32 "RingPages$State" "stay" "[I", Cond.fieldLink RX0 37 "RingPages$Net" "out" "[I", Cond.fieldLink RX0 40 "RingPages$Net" "trees" "[J", Cond.fieldLink RX0 43 "RingPages$LongRun" "bestKnown" "Z"]
def wsX7_undo : List Cond := .code yX7_undo cX7_undo 1 (some .int) :: ((wsX7_undo_r1 ++ wsX7_undo_r2) ++ wsX70 ++ wsX20 ++ wsX40 ++ wsX00 ++ wsX10)
def wsX7_cell : List Cond := .code yX7_cell cX7_cell 3 (some .int) :: ([.fieldLink RX7 58 "RingPages" "state" "LRingPages$State;", .fieldLink RX7 113 "RingPages$State" "stay" "[I", .fieldLink RX7 117 "RingPages$State" "area" "[I", .fieldLink RX7 54 "RingPages" "net" "LRingPages$Net;", .fieldLink RX7 148 "RingPages$Net" "out" "[I", .fieldLink RX7 151 "RingPages$Net" "near" "[I", .fieldLink RX7 94 "RingPages$Net" "cells" "I", .methodLink RX7 110 yX7_isCell, .instanceMethod yX7_isCell, .selects RX7 yX7_isCell yX7_isCell, .initialized RX7, .code yX7_isCell cX7_isCell 2 (some .boolean), .methodLink RX7 154 yX7_sameArea, .static yX7_sameArea, .code yX7_sameArea cX7_sameArea 5 (some .int)] ++ wsX70 ++ wsX40 ++ wsX10)
def wsX7_weight : List Cond := .code yX7_weight cX7_weight 3 (some .int) :: ([.fieldLink RX7 54 "RingPages" "net" "LRingPages$Net;", .fieldLink RX7 158 "RingPages$Net" "weight" "[[I", .methodLink RX7 110 yX7_isCell, .instanceMethod yX7_isCell, .selects RX7 yX7_isCell yX7_isCell, .initialized RX7, .code yX7_isCell cX7_isCell 2 (some .boolean), .fieldLink RX7 94 "RingPages$Net" "cells" "I"] ++ wsX70 ++ wsX10)
def wsX7_wide : List Cond := .code yX7_wide cX7_wide 3 (some .int) :: ([.fieldLink RX7 54 "RingPages" "net" "LRingPages$Net;", .fieldLink RX7 162 "RingPages$Net" "wide" "[[I", .methodLink RX7 110 yX7_isCell, .instanceMethod yX7_isCell, .selects RX7 yX7_isCell yX7_isCell, .initialized RX7, .code yX7_isCell cX7_isCell 2 (some .boolean), .fieldLink RX7 94 "RingPages$Net" "cells" "I"] ++ wsX70 ++ wsX10)
def wsX7_tick_r1 : List Cond := [Cond.fieldLink RX7 58 "RingPages" "state" "LRingPages$State;", Cond.fieldLink RX7 54 "RingPages" "net" "LRingPages$Net;", Cond.fieldLink RX7 19 "RingPages" "past" "LRingPages$Past;", Cond.methodLink RX7 110 yX7_isCell, Cond.instanceMethod yX7_isCell, Cond.selects RX7 yX7_isCell yX7_isCell, Cond.initialized RX7, Cond.code yX7_isCell cX7_isCell 2 (some .boolean), Cond.fieldLink RX7 94 "RingPages$Net" "cells" "I", Cond.methodLink RX7 165 yX4_canGo, Cond.instanceMethod yX4_canGo, Cond.selects RX4 yX4_canGo yX4_canGo, Cond.initialized RX4, Cond.code yX4_canGo cX4_canGo 3 (some .boolean), Cond.fieldLink RX4 25 "RingPages$State" "cell" "I", Cond.fieldLink RX4 9 "RingPages$State" "stay" "[I", Cond.fieldLink RX4 52 "RingPages$Net" "near" "[I", Cond.static yX7_holds, Cond.code yX7_holds cX7_holds 2 (some .boolean), Cond.methodLink RX7 120 yX2_keep, Cond.instanceMethod yX2_keep, Cond.selects RX2 yX2_keep yX2_keep, Cond.initialized RX2, Cond.code yX2_keep cX2_keep 2 none]
def wsX7_tick_r2 : List Cond := [Cond.fieldLink RX2 11 "RingPages$Past" "kept" "[LRingPages$State;", Cond.fieldLink RX2 18 "RingPages$Past" "next" "I", Cond.fieldLink RX2 26 "RingPages$Past" "held" "I", Cond.methodLink RX2 29 Lib.Math.min.name, Cond.static Lib.Math.min.name, Cond.initialized "java/lang/Math", Cond.code Lib.Math.min.name Lib.Math.min.code 2 (some .int), Cond.methodLink RX2 22 yX4_copyFrom, Cond.instanceMethod yX4_copyFrom, Cond.selects RX4 yX4_copyFrom yX4_copyFrom, Cond.code yX4_copyFrom cX4_copyFrom 2 none, Cond.methodLink RX4 37 arraycopyName, Cond.native arraycopyName, Cond.static arraycopyName, Cond.initialized "java/lang/System", Cond.fieldLink RX4 15 "RingPages$State" "area" "[I", Cond.fieldLink RX4 18 "RingPages$State" "kind" "I", Cond.fieldLink RX4 22 "RingPages$State" "value" "I", Cond.fieldLink RX4 43 "RingPages$State" "home" "I", Cond.fieldLink RX4 46 "RingPages$State" "moves" "I", Cond.fieldLink RX4 49 "RingPages$State" "ticks" "I", Cond.fieldLink RX4 28 "RingPages$State" "updates" "I", Cond.fieldLink RX4 31 "RingPages$State" "paged" "I", Cond.methodLink RX7 169 yX4_go]
def wsX7_tick_r3 : List Cond := [Cond.instanceMethod yX4_go, Cond.selects RX4 yX4_go yX4_go, Cond.code yX4_go cX4_go 3 (some .boolean), Cond.methodLink RX4 61 yX4_isDue, Cond.instanceMethod yX4_isDue, Cond.selects RX4 yX4_isDue yX4_isDue, Cond.code yX4_isDue cX4_isDue 2 (some .boolean), Cond.methodLink RX4 65 yX4_isOutside, Cond.instanceMethod yX4_isOutside, Cond.selects RX4 yX4_isOutside yX4_isOutside, Cond.code yX4_isOutside cX4_isOutside 3 (some .boolean), Cond.fieldLink RX4 69 "RingPages$Net" "wide" "[[I", Cond.methodLink RX4 34 yX4_register, Cond.instanceMethod yX4_register, Cond.selects RX4 yX4_register yX4_register, Cond.code yX4_register cX4_register 1 none]
def wsX7_tick : List Cond := .code yX7_tick cX7_tick 2 (some .int) :: ((wsX7_tick_r1 ++ (wsX7_tick_r2 ++ wsX7_tick_r3)) ++ wsX70 ++ wsX10 ++ wsX40 ++ wsX20)
def wsX7_seek_r1 : List Cond := [Cond.fieldLink RX7 40 "RingPages" "rounds" "LRingPages$Rounds;", Cond.fieldLink RX7 33 "RingPages" "whereabouts" "LRingPages$Whereabouts;", Cond.fieldLink RX7 54 "RingPages" "net" "LRingPages$Net;", Cond.fieldLink RX7 58 "RingPages" "state" "LRingPages$State;", Cond.fieldLink RX7 26 "RingPages" "longRun" "LRingPages$LongRun;", Cond.fieldLink RX7 217 "RingPages$LongRun" "above" "[J", Cond.fieldLink RX7 225 "RingPages$Net" "mostRounds" "I", Cond.methodLink RX7 214 yX6_find, Cond.instanceMethod yX6_find, Cond.selects RX6 yX6_find yX6_find, Cond.initialized RX6, Cond.code yX6_find cX6_find 8 (some .int), Cond.fieldLink RX6 15 "RingPages$State" "kind" "I", Cond.fieldLink RX6 21 "RingPages$State" "value" "I", Cond.methodLink RX6 24 Lib.Math.min.name, Cond.static Lib.Math.min.name, Cond.initialized "java/lang/Math", Cond.code Lib.Math.min.name Lib.Math.min.code 2 (some .int), Cond.fieldLink RX6 9 "RingPages$Whereabouts" "reached" "[I", Cond.fieldLink RX6 34 "RingPages$State" "home" "I", Cond.fieldLink RX6 37 "RingPages$State" "ticks" "I", Cond.methodLink RX6 30 yX6_insideOf, Cond.instanceMethod yX6_insideOf, Cond.selects RX6 yX6_insideOf yX6_insideOf]
def wsX7_seek_r2 : List Cond := [Cond.code yX6_insideOf cX6_insideOf 5 (some .int), Cond.fieldLink RX6 44 "RingPages$Net" "cells" "I", Cond.methodLink RX6 49 yX4_isOutside, Cond.instanceMethod yX4_isOutside, Cond.selects RX4 yX4_isOutside yX4_isOutside, Cond.initialized RX4, Cond.code yX4_isOutside cX4_isOutside 3 (some .boolean), Cond.fieldLink RX4 18 "RingPages$State" "kind" "I", Cond.fieldLink RX4 15 "RingPages$State" "area" "[I", Cond.fieldLink RX4 43 "RingPages$State" "home" "I", Cond.fieldLink RX4 69 "RingPages$Net" "wide" "[[I", Cond.fieldLink RX4 22 "RingPages$State" "value" "I", Cond.methodLink RX6 40 yX6_step, Cond.instanceMethod yX6_step, Cond.selects RX6 yX6_step yX6_step, Cond.code yX6_step cX6_step 9 (some .boolean), Cond.methodLink RX6 53 yX6_movers, Cond.instanceMethod yX6_movers, Cond.selects RX6 yX6_movers yX6_movers, Cond.code yX6_movers cX6_movers 5 (some .int), Cond.fieldLink RX6 68 "RingPages$Net" "near" "[I", Cond.static yX7_holds, Cond.initialized RX7, Cond.code yX7_holds cX7_holds 2 (some .boolean)]
def wsX7_seek_r3 : List Cond := [Cond.methodLink RX6 57 yX6_stayers, Cond.instanceMethod yX6_stayers, Cond.selects RX6 yX6_stayers yX6_stayers, Cond.code yX6_stayers cX6_stayers 6 (some .int), Cond.fieldLink RX6 65 "RingPages$State" "stay" "[I", Cond.methodLink RX7 221 yX3_lineUp, Cond.instanceMethod yX3_lineUp, Cond.selects RX3 yX3_lineUp yX3_lineUp, Cond.initialized RX3, Cond.code yX3_lineUp cX3_lineUp 5 none, Cond.fieldLink RX3 15 "RingPages$Rounds" "length" "I", Cond.fieldLink RX3 9 "RingPages$Rounds" "row" "[I", Cond.methodLink RX7 228 yX3_split, Cond.instanceMethod yX3_split, Cond.selects RX3 yX3_split yX3_split, Cond.code yX3_split cX3_split 10 none, Cond.constantLong RX3 23 (-1), Cond.fieldLink RX3 25 "RingPages$Rounds" "many" "I", Cond.fieldLink RX3 28 "RingPages$Rounds" "cuts" "I", Cond.methodLink RX3 31 yJ6_bitCount_0f7a4, Cond.static yJ6_bitCount_0f7a4, Cond.initialized RJ6, Cond.code yJ6_bitCount_0f7a4 cJ6_bitCount_0f7a4 1 (some .int), Cond.constant RJ6 265 (1431655765)]
def wsX7_seek_r4 : List Cond := [Cond.constant RJ6 266 (858993459), Cond.constant RJ6 267 (252645135), Cond.methodLink RX3 37 yX3_meanPaged, Cond.instanceMethod yX3_meanPaged, Cond.selects RX3 yX3_meanPaged yX3_meanPaged, Cond.code yX3_meanPaged cX3_meanPaged 7 (some .long), Cond.methodLink RX3 41 yX3_isCutBehind, Cond.instanceMethod yX3_isCutBehind, Cond.selects RX3 yX3_isCutBehind yX3_isCutBehind, Cond.code yX3_isCutBehind cX3_isCutBehind 3 (some .boolean)]
def wsX7_seek : List Cond := .code yX7_seek cX7_seek 1 none :: ((wsX7_seek_r1 ++ (wsX7_seek_r2 ++ (wsX7_seek_r3 ++ wsX7_seek_r4))) ++ wsX70 ++ wsX00 ++ wsX10 ++ wsX40 ++ wsX60 ++ wsX30)
def wsX7_page_r1 : List Cond := [Cond.fieldLink RX7 40 "RingPages" "rounds" "LRingPages$Rounds;", Cond.fieldLink RX7 175 "RingPages$Rounds" "many" "I", Cond.fieldLink RX7 58 "RingPages" "state" "LRingPages$State;", Cond.fieldLink RX7 187 "RingPages$State" "cell" "I", Cond.fieldLink RX7 19 "RingPages" "past" "LRingPages$Past;", Cond.fieldLink RX7 193 "RingPages$State" "paged" "I", Cond.methodLink RX7 172 yX7_seek, Cond.instanceMethod yX7_seek, Cond.selects RX7 yX7_seek yX7_seek, Cond.initialized RX7, Cond.code yX7_seek cX7_seek 1 none, Cond.fieldLink RX7 33 "RingPages" "whereabouts" "LRingPages$Whereabouts;", Cond.fieldLink RX7 54 "RingPages" "net" "LRingPages$Net;", Cond.fieldLink RX7 26 "RingPages" "longRun" "LRingPages$LongRun;", Cond.fieldLink RX7 217 "RingPages$LongRun" "above" "[J", Cond.fieldLink RX7 225 "RingPages$Net" "mostRounds" "I", Cond.methodLink RX7 214 yX6_find, Cond.instanceMethod yX6_find, Cond.selects RX6 yX6_find yX6_find, Cond.initialized RX6, Cond.code yX6_find cX6_find 8 (some .int), Cond.fieldLink RX6 15 "RingPages$State" "kind" "I", Cond.fieldLink RX6 21 "RingPages$State" "value" "I", Cond.methodLink RX6 24 Lib.Math.min.name]
def wsX7_page_r2 : List Cond := [Cond.static Lib.Math.min.name, Cond.initialized "java/lang/Math", Cond.code Lib.Math.min.name Lib.Math.min.code 2 (some .int), Cond.fieldLink RX6 9 "RingPages$Whereabouts" "reached" "[I", Cond.fieldLink RX6 34 "RingPages$State" "home" "I", Cond.fieldLink RX6 37 "RingPages$State" "ticks" "I", Cond.methodLink RX6 30 yX6_insideOf, Cond.instanceMethod yX6_insideOf, Cond.selects RX6 yX6_insideOf yX6_insideOf, Cond.code yX6_insideOf cX6_insideOf 5 (some .int), Cond.fieldLink RX6 44 "RingPages$Net" "cells" "I", Cond.methodLink RX6 49 yX4_isOutside, Cond.instanceMethod yX4_isOutside, Cond.selects RX4 yX4_isOutside yX4_isOutside, Cond.initialized RX4, Cond.code yX4_isOutside cX4_isOutside 3 (some .boolean), Cond.fieldLink RX4 18 "RingPages$State" "kind" "I", Cond.fieldLink RX4 15 "RingPages$State" "area" "[I", Cond.fieldLink RX4 43 "RingPages$State" "home" "I", Cond.fieldLink RX4 69 "RingPages$Net" "wide" "[[I", Cond.fieldLink RX4 22 "RingPages$State" "value" "I", Cond.methodLink RX6 40 yX6_step, Cond.instanceMethod yX6_step, Cond.selects RX6 yX6_step yX6_step]
def wsX7_page_r3 : List Cond := [Cond.code yX6_step cX6_step 9 (some .boolean), Cond.methodLink RX6 53 yX6_movers, Cond.instanceMethod yX6_movers, Cond.selects RX6 yX6_movers yX6_movers, Cond.code yX6_movers cX6_movers 5 (some .int), Cond.fieldLink RX6 68 "RingPages$Net" "near" "[I", Cond.static yX7_holds, Cond.code yX7_holds cX7_holds 2 (some .boolean), Cond.methodLink RX6 57 yX6_stayers, Cond.instanceMethod yX6_stayers, Cond.selects RX6 yX6_stayers yX6_stayers, Cond.code yX6_stayers cX6_stayers 6 (some .int), Cond.fieldLink RX6 65 "RingPages$State" "stay" "[I", Cond.methodLink RX7 221 yX3_lineUp, Cond.instanceMethod yX3_lineUp, Cond.selects RX3 yX3_lineUp yX3_lineUp, Cond.initialized RX3, Cond.code yX3_lineUp cX3_lineUp 5 none, Cond.fieldLink RX3 15 "RingPages$Rounds" "length" "I", Cond.fieldLink RX3 9 "RingPages$Rounds" "row" "[I", Cond.methodLink RX7 228 yX3_split, Cond.instanceMethod yX3_split, Cond.selects RX3 yX3_split yX3_split, Cond.code yX3_split cX3_split 10 none]
def wsX7_page_r4 : List Cond := [Cond.constantLong RX3 23 (-1), Cond.fieldLink RX3 25 "RingPages$Rounds" "many" "I", Cond.fieldLink RX3 28 "RingPages$Rounds" "cuts" "I", Cond.methodLink RX3 31 yJ6_bitCount_0f7a4, Cond.static yJ6_bitCount_0f7a4, Cond.initialized RJ6, Cond.code yJ6_bitCount_0f7a4 cJ6_bitCount_0f7a4 1 (some .int), Cond.constant RJ6 265 (1431655765), Cond.constant RJ6 266 (858993459), Cond.constant RJ6 267 (252645135), Cond.methodLink RX3 37 yX3_meanPaged, Cond.instanceMethod yX3_meanPaged, Cond.selects RX3 yX3_meanPaged yX3_meanPaged, Cond.code yX3_meanPaged cX3_meanPaged 7 (some .long), Cond.methodLink RX3 41 yX3_isCutBehind, Cond.instanceMethod yX3_isCutBehind, Cond.selects RX3 yX3_isCutBehind yX3_isCutBehind, Cond.code yX3_isCutBehind cX3_isCutBehind 3 (some .boolean), Cond.methodLink RX7 178 yX3_cellsOf, Cond.instanceMethod yX3_cellsOf, Cond.selects RX3 yX3_cellsOf yX3_cellsOf, Cond.code yX3_cellsOf cX3_cellsOf 5 (some .int), Cond.methodLink RX7 182 yJ6_bitCount_0f7a4, Cond.methodLink RX7 190 yX7_holds]
def wsX7_page_r5 : List Cond := [Cond.methodLink RX7 120 yX2_keep, Cond.instanceMethod yX2_keep, Cond.selects RX2 yX2_keep yX2_keep, Cond.initialized RX2, Cond.code yX2_keep cX2_keep 2 none, Cond.fieldLink RX2 11 "RingPages$Past" "kept" "[LRingPages$State;", Cond.fieldLink RX2 18 "RingPages$Past" "next" "I", Cond.fieldLink RX2 26 "RingPages$Past" "held" "I", Cond.methodLink RX2 29 Lib.Math.min.name, Cond.methodLink RX2 22 yX4_copyFrom, Cond.instanceMethod yX4_copyFrom, Cond.selects RX4 yX4_copyFrom yX4_copyFrom, Cond.code yX4_copyFrom cX4_copyFrom 2 none, Cond.fieldLink RX4 9 "RingPages$State" "stay" "[I", Cond.methodLink RX4 37 arraycopyName, Cond.native arraycopyName, Cond.static arraycopyName, Cond.initialized "java/lang/System", Cond.fieldLink RX4 25 "RingPages$State" "cell" "I", Cond.fieldLink RX4 46 "RingPages$State" "moves" "I", Cond.fieldLink RX4 49 "RingPages$State" "ticks" "I", Cond.fieldLink RX4 28 "RingPages$State" "updates" "I", Cond.fieldLink RX4 31 "RingPages$State" "paged" "I", Cond.methodLink RX7 124 yX4_register]
def wsX7_page_r6 : List Cond := [Cond.instanceMethod yX4_register, Cond.selects RX4 yX4_register yX4_register, Cond.code yX4_register cX4_register 1 none]
def wsX7_page : List Cond := .code yX7_page cX7_page 4 (some .int) :: ((wsX7_page_r1 ++ (wsX7_page_r2 ++ (wsX7_page_r3 ++ (wsX7_page_r4 ++ (wsX7_page_r5 ++ wsX7_page_r6))))) ++ wsX70 ++ wsX30 ++ wsX40 ++ wsX00 ++ wsX10 ++ wsX60 ++ wsX20)
def wsX7_handset : List Cond := .code yX7_handset cX7_handset 2 (some .int) :: ([.fieldLink RX7 58 "RingPages" "state" "LRingPages$State;", .fieldLink RX7 187 "RingPages$State" "cell" "I", .fieldLink RX7 196 "RingPages$State" "home" "I", .fieldLink RX7 199 "RingPages$State" "moves" "I", .fieldLink RX7 202 "RingPages$State" "ticks" "I", .fieldLink RX7 205 "RingPages$State" "updates" "I", .fieldLink RX7 193 "RingPages$State" "paged" "I", .fieldLink RX7 54 "RingPages" "net" "LRingPages$Net;", .fieldLink RX7 208 "RingPages$Net" "pageCost" "I", .fieldLink RX7 211 "RingPages$Net" "updateCost" "I"] ++ wsX70 ++ wsX40 ++ wsX10)
end
section
def wsX7_where_r1 : List Cond := [Cond.fieldLink RX7 33 "RingPages" "whereabouts" "LRingPages$Whereabouts;", Cond.fieldLink RX7 54 "RingPages" "net" "LRingPages$Net;", Cond.fieldLink RX7 58 "RingPages" "state" "LRingPages$State;", Cond.methodLink RX7 214 yX6_find, Cond.instanceMethod yX6_find, Cond.selects RX6 yX6_find yX6_find, Cond.initialized RX6, Cond.code yX6_find cX6_find 8 (some .int), Cond.fieldLink RX6 15 "RingPages$State" "kind" "I", Cond.fieldLink RX6 21 "RingPages$State" "value" "I", Cond.methodLink RX6 24 Lib.Math.min.name, Cond.static Lib.Math.min.name, Cond.initialized "java/lang/Math", Cond.code Lib.Math.min.name Lib.Math.min.code 2 (some .int), Cond.fieldLink RX6 9 "RingPages$Whereabouts" "reached" "[I", Cond.fieldLink RX6 34 "RingPages$State" "home" "I", Cond.fieldLink RX6 37 "RingPages$State" "ticks" "I", Cond.methodLink RX6 30 yX6_insideOf, Cond.instanceMethod yX6_insideOf, Cond.selects RX6 yX6_insideOf yX6_insideOf, Cond.code yX6_insideOf cX6_insideOf 5 (some .int), Cond.fieldLink RX6 44 "RingPages$Net" "cells" "I", Cond.methodLink RX6 49 yX4_isOutside, Cond.instanceMethod yX4_isOutside]
def wsX7_where_r2 : List Cond := [Cond.selects RX4 yX4_isOutside yX4_isOutside, Cond.initialized RX4, Cond.code yX4_isOutside cX4_isOutside 3 (some .boolean), Cond.fieldLink RX4 18 "RingPages$State" "kind" "I", Cond.fieldLink RX4 15 "RingPages$State" "area" "[I", Cond.fieldLink RX4 43 "RingPages$State" "home" "I", Cond.fieldLink RX4 69 "RingPages$Net" "wide" "[[I", Cond.fieldLink RX4 22 "RingPages$State" "value" "I", Cond.methodLink RX6 40 yX6_step, Cond.instanceMethod yX6_step, Cond.selects RX6 yX6_step yX6_step, Cond.code yX6_step cX6_step 9 (some .boolean), Cond.methodLink RX6 53 yX6_movers, Cond.instanceMethod yX6_movers, Cond.selects RX6 yX6_movers yX6_movers, Cond.code yX6_movers cX6_movers 5 (some .int), Cond.fieldLink RX6 68 "RingPages$Net" "near" "[I", Cond.static yX7_holds, Cond.initialized RX7, Cond.code yX7_holds cX7_holds 2 (some .boolean), Cond.methodLink RX6 57 yX6_stayers, Cond.instanceMethod yX6_stayers, Cond.selects RX6 yX6_stayers yX6_stayers, Cond.code yX6_stayers cX6_stayers 6 (some .int)]
def wsX7_where_r3 : List Cond := [Cond.fieldLink RX6 65 "RingPages$State" "stay" "[I"]
def wsX7_where : List Cond := .code yX7_where cX7_where 1 (some .int) :: ((wsX7_where_r1 ++ (wsX7_where_r2 ++ wsX7_where_r3)) ++ wsX70 ++ wsX40 ++ wsX60 ++ wsX10)
def wsX7_round_r1 : List Cond := [Cond.fieldLink RX7 40 "RingPages" "rounds" "LRingPages$Rounds;", Cond.fieldLink RX7 175 "RingPages$Rounds" "many" "I", Cond.methodLink RX7 172 yX7_seek, Cond.instanceMethod yX7_seek, Cond.selects RX7 yX7_seek yX7_seek, Cond.initialized RX7, Cond.code yX7_seek cX7_seek 1 none, Cond.fieldLink RX7 33 "RingPages" "whereabouts" "LRingPages$Whereabouts;", Cond.fieldLink RX7 54 "RingPages" "net" "LRingPages$Net;", Cond.fieldLink RX7 58 "RingPages" "state" "LRingPages$State;", Cond.fieldLink RX7 26 "RingPages" "longRun" "LRingPages$LongRun;", Cond.fieldLink RX7 217 "RingPages$LongRun" "above" "[J", Cond.fieldLink RX7 225 "RingPages$Net" "mostRounds" "I", Cond.methodLink RX7 214 yX6_find, Cond.instanceMethod yX6_find, Cond.selects RX6 yX6_find yX6_find, Cond.initialized RX6, Cond.code yX6_find cX6_find 8 (some .int), Cond.fieldLink RX6 15 "RingPages$State" "kind" "I", Cond.fieldLink RX6 21 "RingPages$State" "value" "I", Cond.methodLink RX6 24 Lib.Math.min.name, Cond.static Lib.Math.min.name, Cond.initialized "java/lang/Math", Cond.code Lib.Math.min.name Lib.Math.min.code 2 (some .int)]
def wsX7_round_r2 : List Cond := [Cond.fieldLink RX6 9 "RingPages$Whereabouts" "reached" "[I", Cond.fieldLink RX6 34 "RingPages$State" "home" "I", Cond.fieldLink RX6 37 "RingPages$State" "ticks" "I", Cond.methodLink RX6 30 yX6_insideOf, Cond.instanceMethod yX6_insideOf, Cond.selects RX6 yX6_insideOf yX6_insideOf, Cond.code yX6_insideOf cX6_insideOf 5 (some .int), Cond.fieldLink RX6 44 "RingPages$Net" "cells" "I", Cond.methodLink RX6 49 yX4_isOutside, Cond.instanceMethod yX4_isOutside, Cond.selects RX4 yX4_isOutside yX4_isOutside, Cond.initialized RX4, Cond.code yX4_isOutside cX4_isOutside 3 (some .boolean), Cond.fieldLink RX4 18 "RingPages$State" "kind" "I", Cond.fieldLink RX4 15 "RingPages$State" "area" "[I", Cond.fieldLink RX4 43 "RingPages$State" "home" "I", Cond.fieldLink RX4 69 "RingPages$Net" "wide" "[[I", Cond.fieldLink RX4 22 "RingPages$State" "value" "I", Cond.methodLink RX6 40 yX6_step, Cond.instanceMethod yX6_step, Cond.selects RX6 yX6_step yX6_step, Cond.code yX6_step cX6_step 9 (some .boolean), Cond.methodLink RX6 53 yX6_movers, Cond.instanceMethod yX6_movers]
def wsX7_round_r3 : List Cond := [Cond.selects RX6 yX6_movers yX6_movers, Cond.code yX6_movers cX6_movers 5 (some .int), Cond.fieldLink RX6 68 "RingPages$Net" "near" "[I", Cond.static yX7_holds, Cond.code yX7_holds cX7_holds 2 (some .boolean), Cond.methodLink RX6 57 yX6_stayers, Cond.instanceMethod yX6_stayers, Cond.selects RX6 yX6_stayers yX6_stayers, Cond.code yX6_stayers cX6_stayers 6 (some .int), Cond.fieldLink RX6 65 "RingPages$State" "stay" "[I", Cond.methodLink RX7 221 yX3_lineUp, Cond.instanceMethod yX3_lineUp, Cond.selects RX3 yX3_lineUp yX3_lineUp, Cond.initialized RX3, Cond.code yX3_lineUp cX3_lineUp 5 none, Cond.fieldLink RX3 15 "RingPages$Rounds" "length" "I", Cond.fieldLink RX3 9 "RingPages$Rounds" "row" "[I", Cond.methodLink RX7 228 yX3_split, Cond.instanceMethod yX3_split, Cond.selects RX3 yX3_split yX3_split, Cond.code yX3_split cX3_split 10 none, Cond.constantLong RX3 23 (-1), Cond.fieldLink RX3 25 "RingPages$Rounds" "many" "I", Cond.fieldLink RX3 28 "RingPages$Rounds" "cuts" "I"]
def wsX7_round_r4 : List Cond := [Cond.methodLink RX3 31 yJ6_bitCount_0f7a4, Cond.static yJ6_bitCount_0f7a4, Cond.initialized RJ6, Cond.code yJ6_bitCount_0f7a4 cJ6_bitCount_0f7a4 1 (some .int), Cond.constant RJ6 265 (1431655765), Cond.constant RJ6 266 (858993459), Cond.constant RJ6 267 (252645135), Cond.methodLink RX3 37 yX3_meanPaged, Cond.instanceMethod yX3_meanPaged, Cond.selects RX3 yX3_meanPaged yX3_meanPaged, Cond.code yX3_meanPaged cX3_meanPaged 7 (some .long), Cond.methodLink RX3 41 yX3_isCutBehind, Cond.instanceMethod yX3_isCutBehind, Cond.selects RX3 yX3_isCutBehind yX3_isCutBehind, Cond.code yX3_isCutBehind cX3_isCutBehind 3 (some .boolean), Cond.methodLink RX7 178 yX3_cellsOf, Cond.instanceMethod yX3_cellsOf, Cond.selects RX3 yX3_cellsOf yX3_cellsOf, Cond.code yX3_cellsOf cX3_cellsOf 5 (some .int)]
def wsX7_round : List Cond := .code yX7_round cX7_round 2 (some .int) :: ((wsX7_round_r1 ++ (wsX7_round_r2 ++ (wsX7_round_r3 ++ wsX7_round_r4))) ++ wsX70 ++ wsX30 ++ wsX00 ++ wsX10 ++ wsX40 ++ wsX60)
def wsX7_isPart : List Cond := .code yX7_isPart cX7_isPart 1 (some .boolean) :: ([])
def wsX7_greatestShared : List Cond := .code yX7_greatestShared cX7_greatestShared 7 (some .long) :: ([])
def wsX7_lowest : List Cond := .code yX7_lowest cX7_lowest 7 (some .long) :: ([.methodLink RX7 289 yX7_greatestShared, .static yX7_greatestShared, .initialized RX7, .code yX7_greatestShared cX7_greatestShared 7 (some .long)])
def wsX7_chance : List Cond := .code yX7_chance cX7_chance 3 (some .long) :: ([.constantLong RX7 234 (-1), .fieldLink RX7 26 "RingPages" "longRun" "LRingPages$LongRun;", .fieldLink RX7 217 "RingPages$LongRun" "above" "[J", .fieldLink RX7 236 "RingPages$LongRun" "below" "J", .methodLink RX7 110 yX7_isCell, .instanceMethod yX7_isCell, .selects RX7 yX7_isCell yX7_isCell, .initialized RX7, .code yX7_isCell cX7_isCell 2 (some .boolean), .fieldLink RX7 54 "RingPages" "net" "LRingPages$Net;", .fieldLink RX7 94 "RingPages$Net" "cells" "I", .methodLink RX7 231 yX7_isPart, .static yX7_isPart, .code yX7_isPart cX7_isPart 1 (some .boolean), .methodLink RX7 240 yX7_lowest, .static yX7_lowest, .code yX7_lowest cX7_lowest 7 (some .long), .methodLink RX7 289 yX7_greatestShared, .static yX7_greatestShared, .code yX7_greatestShared cX7_greatestShared 7 (some .long)] ++ wsX70 ++ wsX00 ++ wsX10)
def wsX7_rate_r1 : List Cond := [Cond.fieldLink RX7 58 "RingPages" "state" "LRingPages$State;", Cond.fieldLink RX7 131 "RingPages$State" "kind" "I", Cond.fieldLink RX7 26 "RingPages" "longRun" "LRingPages$LongRun;", Cond.fieldLink RX7 54 "RingPages" "net" "LRingPages$Net;", Cond.fieldLink RX7 117 "RingPages$State" "area" "[I", Cond.fieldLink RX7 236 "RingPages$LongRun" "below" "J", Cond.fieldLink RX7 134 "RingPages$State" "value" "I", Cond.constantLong RX7 261 (-4), Cond.methodLink RX7 244 yX0_crosses, Cond.instanceMethod yX0_crosses, Cond.selects RX0 yX0_crosses yX0_crosses, Cond.initialized RX0, Cond.code yX0_crosses cX0_crosses 7 (some .long), Cond.fieldLink RX0 26 "RingPages$Net" "cells" "I", Cond.fieldLink RX0 40 "RingPages$Net" "trees" "[J", Cond.fieldLink RX0 47 "RingPages$Net" "weight" "[[I", Cond.methodLink RX7 240 yX7_lowest, Cond.static yX7_lowest, Cond.initialized RX7, Cond.code yX7_lowest cX7_lowest 7 (some .long), Cond.methodLink RX7 289 yX7_greatestShared, Cond.static yX7_greatestShared, Cond.code yX7_greatestShared cX7_greatestShared 7 (some .long), Cond.methodLink RX7 248 yX0_movesOn]
def wsX7_rate_r2 : List Cond := [Cond.instanceMethod yX0_movesOn, Cond.selects RX0 yX0_movesOn yX0_movesOn, Cond.code yX0_movesOn cX0_movesOn 5 (some .long), Cond.fieldLink RX0 37 "RingPages$Net" "out" "[I"]
def wsX7_rate : List Cond := .code yX7_rate cX7_rate 2 (some .long) :: ((wsX7_rate_r1 ++ wsX7_rate_r2) ++ wsX70 ++ wsX40 ++ wsX00 ++ wsX10)
def wsX7_mean_r1 : List Cond := [Cond.constantLong RX7 234 (-1), Cond.fieldLink RX7 26 "RingPages" "longRun" "LRingPages$LongRun;", Cond.fieldLink RX7 54 "RingPages" "net" "LRingPages$Net;", Cond.fieldLink RX7 58 "RingPages" "state" "LRingPages$State;", Cond.fieldLink RX7 117 "RingPages$State" "area" "[I", Cond.fieldLink RX7 236 "RingPages$LongRun" "below" "J", Cond.constantLong RX7 259 (100), Cond.methodLink RX7 231 yX7_isPart, Cond.static yX7_isPart, Cond.initialized RX7, Cond.code yX7_isPart cX7_isPart 1 (some .boolean), Cond.methodLink RX7 244 yX0_crosses, Cond.instanceMethod yX0_crosses, Cond.selects RX0 yX0_crosses yX0_crosses, Cond.initialized RX0, Cond.code yX0_crosses cX0_crosses 7 (some .long), Cond.fieldLink RX0 26 "RingPages$Net" "cells" "I", Cond.fieldLink RX0 40 "RingPages$Net" "trees" "[J", Cond.fieldLink RX0 47 "RingPages$Net" "weight" "[[I", Cond.methodLink RX7 240 yX7_lowest, Cond.static yX7_lowest, Cond.code yX7_lowest cX7_lowest 7 (some .long), Cond.methodLink RX7 289 yX7_greatestShared, Cond.static yX7_greatestShared]
def wsX7_mean_r2 : List Cond := [Cond.code yX7_greatestShared cX7_greatestShared 7 (some .long), Cond.methodLink RX7 248 yX0_movesOn, Cond.instanceMethod yX0_movesOn, Cond.selects RX0 yX0_movesOn yX0_movesOn, Cond.code yX0_movesOn cX0_movesOn 5 (some .long), Cond.fieldLink RX0 37 "RingPages$Net" "out" "[I", Cond.methodLink RX7 252 yX7_rate, Cond.instanceMethod yX7_rate, Cond.selects RX7 yX7_rate yX7_rate, Cond.code yX7_rate cX7_rate 2 (some .long), Cond.fieldLink RX7 131 "RingPages$State" "kind" "I", Cond.fieldLink RX7 134 "RingPages$State" "value" "I", Cond.constantLong RX7 261 (-4), Cond.methodLink RX7 256 yX0_expense, Cond.instanceMethod yX0_expense, Cond.selects RX0 yX0_expense yX0_expense, Cond.code yX0_expense cX0_expense 6 (some .long), Cond.fieldLink RX0 9 "RingPages$LongRun" "above" "[J", Cond.fieldLink RX0 55 "RingPages$Net" "updateCost" "I", Cond.fieldLink RX0 62 "RingPages$Net" "pageCost" "I", Cond.fieldLink RX0 65 "RingPages$Net" "callChance" "I", Cond.static yX7_sameArea, Cond.code yX7_sameArea cX7_sameArea 5 (some .int), Cond.methodLink RX0 58 yX0_crosses]
def wsX7_mean : List Cond := .code yX7_mean cX7_mean 3 (some .long) :: ((wsX7_mean_r1 ++ wsX7_mean_r2) ++ wsX70 ++ wsX40 ++ wsX00 ++ wsX10)
def wsX7_best_r1 : List Cond := [Cond.fieldLink RX7 26 "RingPages" "longRun" "LRingPages$LongRun;", Cond.fieldLink RX7 54 "RingPages" "net" "LRingPages$Net;", Cond.fieldLink RX7 141 "RingPages$LongRun" "best" "[I", Cond.methodLink RX7 110 yX7_isCell, Cond.instanceMethod yX7_isCell, Cond.selects RX7 yX7_isCell yX7_isCell, Cond.initialized RX7, Cond.code yX7_isCell cX7_isCell 2 (some .boolean), Cond.fieldLink RX7 94 "RingPages$Net" "cells" "I", Cond.methodLink RX7 137 yX0_findBest, Cond.instanceMethod yX0_findBest, Cond.selects RX0 yX0_findBest yX0_findBest, Cond.initialized RX0, Cond.code yX0_findBest cX0_findBest 5 none, Cond.fieldLink RX0 43 "RingPages$LongRun" "bestKnown" "Z", Cond.fieldLink RX0 19 "RingPages$LongRun" "tried" "[I", Cond.fieldLink RX0 26 "RingPages$Net" "cells" "I", Cond.fieldLink RX0 79 "RingPages$LongRun" "leastExpense" "J", Cond.methodLink RX0 68 yX0_expense, Cond.instanceMethod yX0_expense, Cond.selects RX0 yX0_expense yX0_expense, Cond.code yX0_expense cX0_expense 6 (some .long), Cond.fieldLink RX0 9 "RingPages$LongRun" "above" "[J", Cond.fieldLink RX0 55 "RingPages$Net" "updateCost" "I"]
def wsX7_best_r2 : List Cond := [Cond.fieldLink RX0 62 "RingPages$Net" "pageCost" "I", Cond.fieldLink RX0 65 "RingPages$Net" "callChance" "I", Cond.static yX7_sameArea, Cond.code yX7_sameArea cX7_sameArea 5 (some .int), Cond.methodLink RX0 58 yX0_crosses, Cond.instanceMethod yX0_crosses, Cond.selects RX0 yX0_crosses yX0_crosses, Cond.code yX0_crosses cX0_crosses 7 (some .long), Cond.fieldLink RX0 40 "RingPages$Net" "trees" "[J", Cond.fieldLink RX0 47 "RingPages$Net" "weight" "[[I", Cond.methodLink RX0 71 yX0_takeTried, Cond.instanceMethod yX0_takeTried, Cond.selects RX0 yX0_takeTried yX0_takeTried, Cond.code yX0_takeTried cX0_takeTried 3 none, Cond.fieldLink RX0 15 "RingPages$LongRun" "best" "[I", Cond.methodLink RX0 82 arraycopyName, Cond.native arraycopyName, Cond.static arraycopyName, Cond.initialized "java/lang/System", Cond.methodLink RX0 75 yX0_nextTried, Cond.instanceMethod yX0_nextTried, Cond.selects RX0 yX0_nextTried yX0_nextTried, Cond.code yX0_nextTried cX0_nextTried 3 (some .boolean), Cond.methodLink RX0 88 yX0_highestAhead]
def wsX7_best_r3 : List Cond := [Cond.instanceMethod yX0_highestAhead, Cond.selects RX0 yX0_highestAhead yX0_highestAhead, Cond.code yX0_highestAhead cX0_highestAhead 4 (some .int), Cond.methodLink RX0 92 Lib.Math.max.name, Cond.static Lib.Math.max.name, Cond.initialized "java/lang/Math", Cond.code Lib.Math.max.name Lib.Math.max.code 2 (some .int)]
def wsX7_best : List Cond := .code yX7_best cX7_best 2 (some .int) :: ((wsX7_best_r1 ++ (wsX7_best_r2 ++ wsX7_best_r3)) ++ wsX70 ++ wsX00 ++ wsX10)
def wsX7_least_r1 : List Cond := [Cond.constantLong RX7 234 (-1), Cond.fieldLink RX7 26 "RingPages" "longRun" "LRingPages$LongRun;", Cond.fieldLink RX7 54 "RingPages" "net" "LRingPages$Net;", Cond.fieldLink RX7 263 "RingPages$LongRun" "leastExpense" "J", Cond.constantLong RX7 259 (100), Cond.fieldLink RX7 236 "RingPages$LongRun" "below" "J", Cond.methodLink RX7 231 yX7_isPart, Cond.static yX7_isPart, Cond.initialized RX7, Cond.code yX7_isPart cX7_isPart 1 (some .boolean), Cond.methodLink RX7 137 yX0_findBest, Cond.instanceMethod yX0_findBest, Cond.selects RX0 yX0_findBest yX0_findBest, Cond.initialized RX0, Cond.code yX0_findBest cX0_findBest 5 none, Cond.fieldLink RX0 43 "RingPages$LongRun" "bestKnown" "Z", Cond.fieldLink RX0 19 "RingPages$LongRun" "tried" "[I", Cond.fieldLink RX0 26 "RingPages$Net" "cells" "I", Cond.fieldLink RX0 79 "RingPages$LongRun" "leastExpense" "J", Cond.methodLink RX0 68 yX0_expense, Cond.instanceMethod yX0_expense, Cond.selects RX0 yX0_expense yX0_expense, Cond.code yX0_expense cX0_expense 6 (some .long), Cond.fieldLink RX0 9 "RingPages$LongRun" "above" "[J"]
def wsX7_least_r2 : List Cond := [Cond.fieldLink RX0 55 "RingPages$Net" "updateCost" "I", Cond.fieldLink RX0 62 "RingPages$Net" "pageCost" "I", Cond.fieldLink RX0 65 "RingPages$Net" "callChance" "I", Cond.static yX7_sameArea, Cond.code yX7_sameArea cX7_sameArea 5 (some .int), Cond.methodLink RX0 58 yX0_crosses, Cond.instanceMethod yX0_crosses, Cond.selects RX0 yX0_crosses yX0_crosses, Cond.code yX0_crosses cX0_crosses 7 (some .long), Cond.fieldLink RX0 40 "RingPages$Net" "trees" "[J", Cond.fieldLink RX0 47 "RingPages$Net" "weight" "[[I", Cond.methodLink RX0 71 yX0_takeTried, Cond.instanceMethod yX0_takeTried, Cond.selects RX0 yX0_takeTried yX0_takeTried, Cond.code yX0_takeTried cX0_takeTried 3 none, Cond.fieldLink RX0 15 "RingPages$LongRun" "best" "[I", Cond.methodLink RX0 82 arraycopyName, Cond.native arraycopyName, Cond.static arraycopyName, Cond.initialized "java/lang/System", Cond.methodLink RX0 75 yX0_nextTried, Cond.instanceMethod yX0_nextTried, Cond.selects RX0 yX0_nextTried yX0_nextTried, Cond.code yX0_nextTried cX0_nextTried 3 (some .boolean)]
def wsX7_least_r3 : List Cond := [Cond.methodLink RX0 88 yX0_highestAhead, Cond.instanceMethod yX0_highestAhead, Cond.selects RX0 yX0_highestAhead yX0_highestAhead, Cond.code yX0_highestAhead cX0_highestAhead 4 (some .int), Cond.methodLink RX0 92 Lib.Math.max.name, Cond.static Lib.Math.max.name, Cond.initialized "java/lang/Math", Cond.code Lib.Math.max.name Lib.Math.max.code 2 (some .int), Cond.methodLink RX7 240 yX7_lowest, Cond.static yX7_lowest, Cond.code yX7_lowest cX7_lowest 7 (some .long), Cond.methodLink RX7 289 yX7_greatestShared, Cond.static yX7_greatestShared, Cond.code yX7_greatestShared cX7_greatestShared 7 (some .long)]
def wsX7_least : List Cond := .code yX7_least cX7_least 2 (some .long) :: ((wsX7_least_r1 ++ (wsX7_least_r2 ++ wsX7_least_r3)) ++ wsX70 ++ wsX00 ++ wsX10)
def wsX7_draw : List Cond := .code yX7_draw cX7_draw 4 (some .int) :: ([.constantLong RX7 283 (7919), .constantLong RX7 285 (6151), .constantLong RX7 287 (65521)])
def wsX7_walk_r1 : List Cond := [Cond.fieldLink RX7 47 "RingPages" "walker" "LRingPages$State;", Cond.fieldLink RX7 58 "RingPages" "state" "LRingPages$State;", Cond.fieldLink RX7 54 "RingPages" "net" "LRingPages$Net;", Cond.fieldLink RX7 187 "RingPages$State" "cell" "I", Cond.methodLink RX7 266 yX4_copyFrom, Cond.instanceMethod yX4_copyFrom, Cond.selects RX4 yX4_copyFrom yX4_copyFrom, Cond.initialized RX4, Cond.code yX4_copyFrom cX4_copyFrom 2 none, Cond.fieldLink RX4 9 "RingPages$State" "stay" "[I", Cond.methodLink RX4 37 arraycopyName, Cond.native arraycopyName, Cond.static arraycopyName, Cond.initialized "java/lang/System", Cond.fieldLink RX4 15 "RingPages$State" "area" "[I", Cond.fieldLink RX4 18 "RingPages$State" "kind" "I", Cond.fieldLink RX4 22 "RingPages$State" "value" "I", Cond.fieldLink RX4 25 "RingPages$State" "cell" "I", Cond.fieldLink RX4 43 "RingPages$State" "home" "I", Cond.fieldLink RX4 46 "RingPages$State" "moves" "I", Cond.fieldLink RX4 49 "RingPages$State" "ticks" "I", Cond.fieldLink RX4 28 "RingPages$State" "updates" "I", Cond.fieldLink RX4 31 "RingPages$State" "paged" "I", Cond.methodLink RX7 269 yX7_draw]
def wsX7_walk_r2 : List Cond := [Cond.static yX7_draw, Cond.initialized RX7, Cond.code yX7_draw cX7_draw 4 (some .int), Cond.constantLong RX7 283 (7919), Cond.constantLong RX7 285 (6151), Cond.constantLong RX7 287 (65521), Cond.methodLink RX7 273 yX4_drawnCell, Cond.instanceMethod yX4_drawnCell, Cond.selects RX4 yX4_drawnCell yX4_drawnCell, Cond.code yX4_drawnCell cX4_drawnCell 7 (some .int), Cond.fieldLink RX4 73 "RingPages$Net" "out" "[I", Cond.fieldLink RX4 76 "RingPages$Net" "cells" "I", Cond.fieldLink RX4 79 "RingPages$Net" "weight" "[[I", Cond.methodLink RX7 169 yX4_go, Cond.instanceMethod yX4_go, Cond.selects RX4 yX4_go yX4_go, Cond.code yX4_go cX4_go 3 (some .boolean), Cond.methodLink RX4 61 yX4_isDue, Cond.instanceMethod yX4_isDue, Cond.selects RX4 yX4_isDue yX4_isDue, Cond.code yX4_isDue cX4_isDue 2 (some .boolean), Cond.methodLink RX4 65 yX4_isOutside, Cond.instanceMethod yX4_isOutside, Cond.selects RX4 yX4_isOutside yX4_isOutside]
def wsX7_walk_r3 : List Cond := [Cond.code yX4_isOutside cX4_isOutside 3 (some .boolean), Cond.fieldLink RX4 69 "RingPages$Net" "wide" "[[I", Cond.methodLink RX4 34 yX4_register, Cond.instanceMethod yX4_register, Cond.selects RX4 yX4_register yX4_register, Cond.code yX4_register cX4_register 1 none]
def wsX7_walk : List Cond := .code yX7_walk cX7_walk 8 (some .int) :: ((wsX7_walk_r1 ++ (wsX7_walk_r2 ++ wsX7_walk_r3)) ++ wsX70 ++ wsX40 ++ wsX10)
def wsX7_count : List Cond := .code yX7_count cX7_count 2 (some .int) :: ([.fieldLink RX7 54 "RingPages" "net" "LRingPages$Net;", .fieldLink RX7 94 "RingPages$Net" "cells" "I", .fieldLink RX7 277 "RingPages$Net" "joins" "I", .fieldLink RX7 58 "RingPages" "state" "LRingPages$State;", .fieldLink RX7 131 "RingPages$State" "kind" "I", .fieldLink RX7 134 "RingPages$State" "value" "I", .fieldLink RX7 225 "RingPages$Net" "mostRounds" "I", .fieldLink RX7 208 "RingPages$Net" "pageCost" "I", .fieldLink RX7 211 "RingPages$Net" "updateCost" "I", .fieldLink RX7 280 "RingPages$Net" "callChance" "I", .fieldLink RX7 19 "RingPages" "past" "LRingPages$Past;", .fieldLink RX7 103 "RingPages$Past" "held" "I", .fieldLink RX7 10 "RingPages" "text" "LRingPages$Text;", .fieldLink RX7 87 "RingPages$Text" "length" "I"] ++ wsX70 ++ wsX10 ++ wsX40 ++ wsX20 ++ wsX50)
def wsX8_clears : List Cond := .code yX8_clears cX8_clears 2 none :: ([.fieldLink RX8 62 "RingPagesModel" "readCells" "I", .fieldLink RX8 73 "RingPagesModel" "readJoins" "I", .fieldLink RX8 25 "RingPagesModel" "readWeight" "[I", .fieldLink RX8 31 "RingPagesModel" "read" "[I", .fieldLink RX8 28 "RingPagesModel" "readPrice" "[I"] ++ wsX80)
def wsX8_joinOf : List Cond := .code yX8_joinOf cX8_joinOf 5 none :: ([.fieldLink RX8 25 "RingPagesModel" "readWeight" "[I", .fieldLink RX8 73 "RingPagesModel" "readJoins" "I"] ++ wsX80)
def wsX8_takes : List Cond := .code yX8_takes cX8_takes 2 none :: ([.fieldLink RX8 62 "RingPagesModel" "readCells" "I", .fieldLink RX8 76 "RingPagesModel" "cells" "I", .fieldLink RX8 73 "RingPagesModel" "readJoins" "I", .fieldLink RX8 79 "RingPagesModel" "joins" "I", .fieldLink RX8 13 "RingPagesModel" "weight" "[I", .fieldLink RX8 25 "RingPagesModel" "readWeight" "[I", .fieldLink RX8 19 "RingPagesModel" "now" "[I", .fieldLink RX8 31 "RingPagesModel" "read" "[I", .fieldLink RX8 16 "RingPagesModel" "price" "[I", .fieldLink RX8 28 "RingPagesModel" "readPrice" "[I", .fieldLink RX8 82 "RingPagesModel" "changes" "I"] ++ wsX80)
def wsX8_init_r1 : List Cond := [Cond.methodLink RX8 1 objectInit, Cond.instanceMethod objectInit, Cond.code objectInit ⟨#[0xb1]⟩ 1 none, Cond.arrayClass .int, Cond.fieldLink RX8 7 "RingPagesModel" "text" "[I", Cond.fieldLink RX8 13 "RingPagesModel" "weight" "[I", Cond.fieldLink RX8 16 "RingPagesModel" "price" "[I", Cond.fieldLink RX8 19 "RingPagesModel" "now" "[I", Cond.fieldLink RX8 22 "RingPagesModel" "was" "[I", Cond.fieldLink RX8 25 "RingPagesModel" "readWeight" "[I", Cond.fieldLink RX8 28 "RingPagesModel" "readPrice" "[I", Cond.fieldLink RX8 31 "RingPagesModel" "read" "[I", Cond.fieldLink RX8 34 "RingPagesModel" "can" "[I", Cond.fieldLink RX8 37 "RingPagesModel" "next" "[I", Cond.arrayClass .long, Cond.fieldLink RX8 40 "RingPagesModel" "trees" "[J", Cond.fieldLink RX8 44 "RingPagesModel" "table" "[J", Cond.fieldLink RX8 47 "RingPagesModel" "tried" "[I", Cond.fieldLink RX8 50 "RingPagesModel" "best" "[I", Cond.fieldLink RX8 53 "RingPagesModel" "row" "[I", Cond.fieldLink RX8 56 "RingPagesModel" "walker" "[I", Cond.fieldLink RX8 62 "RingPagesModel" "readCells" "I", Cond.methodLink RX8 59 yX8_clears, Cond.instanceMethod yX8_clears]
def wsX8_init_r2 : List Cond := [Cond.selects RX8 yX8_clears yX8_clears, Cond.initialized RX8, Cond.code yX8_clears cX8_clears 2 none, Cond.fieldLink RX8 73 "RingPagesModel" "readJoins" "I", Cond.methodLink RX8 66 yX8_joinOf, Cond.instanceMethod yX8_joinOf, Cond.selects RX8 yX8_joinOf yX8_joinOf, Cond.code yX8_joinOf cX8_joinOf 5 none, Cond.methodLink RX8 70 yX8_takes, Cond.instanceMethod yX8_takes, Cond.selects RX8 yX8_takes yX8_takes, Cond.code yX8_takes cX8_takes 2 none, Cond.fieldLink RX8 76 "RingPagesModel" "cells" "I", Cond.fieldLink RX8 79 "RingPagesModel" "joins" "I", Cond.fieldLink RX8 82 "RingPagesModel" "changes" "I"]
def wsX8_init : List Cond := .code yX8_init cX8_init 1 none :: ((wsX8_init_r1 ++ wsX8_init_r2) ++ wsX80)
def wsX8_isIn : List Cond := .code yX8_isIn cX8_isIn 3 (some .boolean) :: ([])
def wsX8_letterAt : List Cond := .code yX8_letterAt cX8_letterAt 2 (some .int) :: ([.fieldLink RX8 85 "RingPagesModel" "length" "I", .fieldLink RX8 7 "RingPagesModel" "text" "[I"] ++ wsX80)
def wsX8_number : List Cond := .code yX8_number cX8_number 4 (some .boolean) :: ([.fieldLink RX8 88 "RingPagesModel" "value" "I", .fieldLink RX8 91 "RingPagesModel" "ends" "I", .fieldLink RX8 7 "RingPagesModel" "text" "[I", .methodLink RX8 94 yX8_letterAt, .instanceMethod yX8_letterAt, .selects RX8 yX8_letterAt yX8_letterAt, .initialized RX8, .code yX8_letterAt cX8_letterAt 2 (some .int), .fieldLink RX8 85 "RingPagesModel" "length" "I", .methodLink RX8 98 yX8_isIn, .static yX8_isIn, .code yX8_isIn cX8_isIn 3 (some .boolean)] ++ wsX80)
def wsX8_more : List Cond := .code yX8_more cX8_more 3 (some .boolean) :: ([.fieldLink RX8 91 "RingPagesModel" "ends" "I", .methodLink RX8 94 yX8_letterAt, .instanceMethod yX8_letterAt, .selects RX8 yX8_letterAt yX8_letterAt, .initialized RX8, .code yX8_letterAt cX8_letterAt 2 (some .int), .fieldLink RX8 85 "RingPagesModel" "length" "I", .fieldLink RX8 7 "RingPagesModel" "text" "[I", .methodLink RX8 102 yX8_number, .instanceMethod yX8_number, .selects RX8 yX8_number yX8_number, .code yX8_number cX8_number 4 (some .boolean), .fieldLink RX8 88 "RingPagesModel" "value" "I", .methodLink RX8 98 yX8_isIn, .static yX8_isIn, .code yX8_isIn cX8_isIn 3 (some .boolean)] ++ wsX80)
def wsX8_readsJoin_r1 : List Cond := [Cond.fieldLink RX8 62 "RingPagesModel" "readCells" "I", Cond.fieldLink RX8 88 "RingPagesModel" "value" "I", Cond.fieldLink RX8 25 "RingPagesModel" "readWeight" "[I", Cond.methodLink RX8 102 yX8_number, Cond.instanceMethod yX8_number, Cond.selects RX8 yX8_number yX8_number, Cond.initialized RX8, Cond.code yX8_number cX8_number 4 (some .boolean), Cond.fieldLink RX8 91 "RingPagesModel" "ends" "I", Cond.fieldLink RX8 7 "RingPagesModel" "text" "[I", Cond.methodLink RX8 94 yX8_letterAt, Cond.instanceMethod yX8_letterAt, Cond.selects RX8 yX8_letterAt yX8_letterAt, Cond.code yX8_letterAt cX8_letterAt 2 (some .int), Cond.fieldLink RX8 85 "RingPagesModel" "length" "I", Cond.methodLink RX8 98 yX8_isIn, Cond.static yX8_isIn, Cond.code yX8_isIn cX8_isIn 3 (some .boolean), Cond.methodLink RX8 105 yX8_more, Cond.instanceMethod yX8_more, Cond.selects RX8 yX8_more yX8_more, Cond.code yX8_more cX8_more 3 (some .boolean), Cond.methodLink RX8 66 yX8_joinOf, Cond.instanceMethod yX8_joinOf]
def wsX8_readsJoin_r2 : List Cond := [Cond.selects RX8 yX8_joinOf yX8_joinOf, Cond.code yX8_joinOf cX8_joinOf 5 none, Cond.fieldLink RX8 73 "RingPagesModel" "readJoins" "I"]
def wsX8_readsJoin : List Cond := .code yX8_readsJoin cX8_readsJoin 5 (some .boolean) :: ((wsX8_readsJoin_r1 ++ wsX8_readsJoin_r2) ++ wsX80)
def wsX8_readsCell : List Cond := .code yX8_readsCell cX8_readsCell 5 (some .boolean) :: ([.fieldLink RX8 62 "RingPagesModel" "readCells" "I", .fieldLink RX8 88 "RingPagesModel" "value" "I", .fieldLink RX8 31 "RingPagesModel" "read" "[I", .methodLink RX8 102 yX8_number, .instanceMethod yX8_number, .selects RX8 yX8_number yX8_number, .initialized RX8, .code yX8_number cX8_number 4 (some .boolean), .fieldLink RX8 91 "RingPagesModel" "ends" "I", .fieldLink RX8 7 "RingPagesModel" "text" "[I", .methodLink RX8 94 yX8_letterAt, .instanceMethod yX8_letterAt, .selects RX8 yX8_letterAt yX8_letterAt, .code yX8_letterAt cX8_letterAt 2 (some .int), .fieldLink RX8 85 "RingPagesModel" "length" "I", .methodLink RX8 98 yX8_isIn, .static yX8_isIn, .code yX8_isIn cX8_isIn 3 (some .boolean), .methodLink RX8 105 yX8_more, .instanceMethod yX8_more, .selects RX8 yX8_more yX8_more, .code yX8_more cX8_more 3 (some .boolean)] ++ wsX80)
def wsX8_isLaw : List Cond := .code yX8_isLaw cX8_isLaw 2 (some .boolean) :: ([.methodLink RX8 98 yX8_isIn, .static yX8_isIn, .initialized RX8, .code yX8_isIn cX8_isIn 3 (some .boolean)])
def wsX8_readsLaw : List Cond := .code yX8_readsLaw cX8_readsLaw 4 (some .boolean) :: ([.fieldLink RX8 88 "RingPagesModel" "value" "I", .fieldLink RX8 31 "RingPagesModel" "read" "[I", .methodLink RX8 102 yX8_number, .instanceMethod yX8_number, .selects RX8 yX8_number yX8_number, .initialized RX8, .code yX8_number cX8_number 4 (some .boolean), .fieldLink RX8 91 "RingPagesModel" "ends" "I", .fieldLink RX8 7 "RingPagesModel" "text" "[I", .methodLink RX8 94 yX8_letterAt, .instanceMethod yX8_letterAt, .selects RX8 yX8_letterAt yX8_letterAt, .code yX8_letterAt cX8_letterAt 2 (some .int), .fieldLink RX8 85 "RingPagesModel" "length" "I", .methodLink RX8 98 yX8_isIn, .static yX8_isIn, .code yX8_isIn cX8_isIn 3 (some .boolean), .methodLink RX8 105 yX8_more, .instanceMethod yX8_more, .selects RX8 yX8_more yX8_more, .code yX8_more cX8_more 3 (some .boolean), .methodLink RX8 109 yX8_isLaw, .static yX8_isLaw, .code yX8_isLaw cX8_isLaw 2 (some .boolean)] ++ wsX80)
def wsX8_readsPrice : List Cond := .code yX8_readsPrice cX8_readsPrice 5 (some .boolean) :: ([.fieldLink RX8 28 "RingPagesModel" "readPrice" "[I", .fieldLink RX8 88 "RingPagesModel" "value" "I", .methodLink RX8 102 yX8_number, .instanceMethod yX8_number, .selects RX8 yX8_number yX8_number, .initialized RX8, .code yX8_number cX8_number 4 (some .boolean), .fieldLink RX8 91 "RingPagesModel" "ends" "I", .fieldLink RX8 7 "RingPagesModel" "text" "[I", .methodLink RX8 94 yX8_letterAt, .instanceMethod yX8_letterAt, .selects RX8 yX8_letterAt yX8_letterAt, .code yX8_letterAt cX8_letterAt 2 (some .int), .fieldLink RX8 85 "RingPagesModel" "length" "I", .methodLink RX8 98 yX8_isIn, .static yX8_isIn, .code yX8_isIn cX8_isIn 3 (some .boolean), .methodLink RX8 105 yX8_more, .instanceMethod yX8_more, .selects RX8 yX8_more yX8_more, .code yX8_more cX8_more 3 (some .boolean)] ++ wsX80)
def wsX8_readsItem_r1 : List Cond := [Cond.fieldLink RX8 88 "RingPagesModel" "value" "I", Cond.fieldLink RX8 62 "RingPagesModel" "readCells" "I", Cond.methodLink RX8 102 yX8_number, Cond.instanceMethod yX8_number, Cond.selects RX8 yX8_number yX8_number, Cond.initialized RX8, Cond.code yX8_number cX8_number 4 (some .boolean), Cond.fieldLink RX8 91 "RingPagesModel" "ends" "I", Cond.fieldLink RX8 7 "RingPagesModel" "text" "[I", Cond.methodLink RX8 94 yX8_letterAt, Cond.instanceMethod yX8_letterAt, Cond.selects RX8 yX8_letterAt yX8_letterAt, Cond.code yX8_letterAt cX8_letterAt 2 (some .int), Cond.fieldLink RX8 85 "RingPagesModel" "length" "I", Cond.methodLink RX8 98 yX8_isIn, Cond.static yX8_isIn, Cond.code yX8_isIn cX8_isIn 3 (some .boolean), Cond.methodLink RX8 112 yX8_readsJoin, Cond.instanceMethod yX8_readsJoin, Cond.selects RX8 yX8_readsJoin yX8_readsJoin, Cond.code yX8_readsJoin cX8_readsJoin 5 (some .boolean), Cond.fieldLink RX8 25 "RingPagesModel" "readWeight" "[I", Cond.methodLink RX8 105 yX8_more, Cond.instanceMethod yX8_more]
def wsX8_readsItem_r2 : List Cond := [Cond.selects RX8 yX8_more yX8_more, Cond.code yX8_more cX8_more 3 (some .boolean), Cond.methodLink RX8 66 yX8_joinOf, Cond.instanceMethod yX8_joinOf, Cond.selects RX8 yX8_joinOf yX8_joinOf, Cond.code yX8_joinOf cX8_joinOf 5 none, Cond.fieldLink RX8 73 "RingPagesModel" "readJoins" "I", Cond.methodLink RX8 116 yX8_readsCell, Cond.instanceMethod yX8_readsCell, Cond.selects RX8 yX8_readsCell yX8_readsCell, Cond.code yX8_readsCell cX8_readsCell 5 (some .boolean), Cond.fieldLink RX8 31 "RingPagesModel" "read" "[I", Cond.methodLink RX8 119 yX8_readsLaw, Cond.instanceMethod yX8_readsLaw, Cond.selects RX8 yX8_readsLaw yX8_readsLaw, Cond.code yX8_readsLaw cX8_readsLaw 4 (some .boolean), Cond.methodLink RX8 109 yX8_isLaw, Cond.static yX8_isLaw, Cond.code yX8_isLaw cX8_isLaw 2 (some .boolean), Cond.methodLink RX8 122 yX8_readsPrice, Cond.instanceMethod yX8_readsPrice, Cond.selects RX8 yX8_readsPrice yX8_readsPrice, Cond.code yX8_readsPrice cX8_readsPrice 5 (some .boolean), Cond.fieldLink RX8 28 "RingPagesModel" "readPrice" "[I"]
def wsX8_readsItem : List Cond := .code yX8_readsItem cX8_readsItem 4 (some .boolean) :: ((wsX8_readsItem_r1 ++ wsX8_readsItem_r2) ++ wsX80)
def wsX8_reads_r1 : List Cond := [Cond.fieldLink RX8 85 "RingPagesModel" "length" "I", Cond.fieldLink RX8 7 "RingPagesModel" "text" "[I", Cond.fieldLink RX8 91 "RingPagesModel" "ends" "I", Cond.methodLink RX8 59 yX8_clears, Cond.instanceMethod yX8_clears, Cond.selects RX8 yX8_clears yX8_clears, Cond.initialized RX8, Cond.code yX8_clears cX8_clears 2 none, Cond.fieldLink RX8 62 "RingPagesModel" "readCells" "I", Cond.fieldLink RX8 73 "RingPagesModel" "readJoins" "I", Cond.fieldLink RX8 25 "RingPagesModel" "readWeight" "[I", Cond.fieldLink RX8 31 "RingPagesModel" "read" "[I", Cond.fieldLink RX8 28 "RingPagesModel" "readPrice" "[I", Cond.methodLink RX8 125 yX8_readsItem, Cond.instanceMethod yX8_readsItem, Cond.selects RX8 yX8_readsItem yX8_readsItem, Cond.code yX8_readsItem cX8_readsItem 4 (some .boolean), Cond.fieldLink RX8 88 "RingPagesModel" "value" "I", Cond.methodLink RX8 102 yX8_number, Cond.instanceMethod yX8_number, Cond.selects RX8 yX8_number yX8_number, Cond.code yX8_number cX8_number 4 (some .boolean), Cond.methodLink RX8 94 yX8_letterAt, Cond.instanceMethod yX8_letterAt]
def wsX8_reads_r2 : List Cond := [Cond.selects RX8 yX8_letterAt yX8_letterAt, Cond.code yX8_letterAt cX8_letterAt 2 (some .int), Cond.methodLink RX8 98 yX8_isIn, Cond.static yX8_isIn, Cond.code yX8_isIn cX8_isIn 3 (some .boolean), Cond.methodLink RX8 112 yX8_readsJoin, Cond.instanceMethod yX8_readsJoin, Cond.selects RX8 yX8_readsJoin yX8_readsJoin, Cond.code yX8_readsJoin cX8_readsJoin 5 (some .boolean), Cond.methodLink RX8 105 yX8_more, Cond.instanceMethod yX8_more, Cond.selects RX8 yX8_more yX8_more, Cond.code yX8_more cX8_more 3 (some .boolean), Cond.methodLink RX8 66 yX8_joinOf, Cond.instanceMethod yX8_joinOf, Cond.selects RX8 yX8_joinOf yX8_joinOf, Cond.code yX8_joinOf cX8_joinOf 5 none, Cond.methodLink RX8 116 yX8_readsCell, Cond.instanceMethod yX8_readsCell, Cond.selects RX8 yX8_readsCell yX8_readsCell, Cond.code yX8_readsCell cX8_readsCell 5 (some .boolean), Cond.methodLink RX8 119 yX8_readsLaw, Cond.instanceMethod yX8_readsLaw, Cond.selects RX8 yX8_readsLaw yX8_readsLaw]
def wsX8_reads_r3 : List Cond := [Cond.code yX8_readsLaw cX8_readsLaw 4 (some .boolean), Cond.methodLink RX8 109 yX8_isLaw, Cond.static yX8_isLaw, Cond.code yX8_isLaw cX8_isLaw 2 (some .boolean), Cond.methodLink RX8 122 yX8_readsPrice, Cond.instanceMethod yX8_readsPrice, Cond.selects RX8 yX8_readsPrice yX8_readsPrice, Cond.code yX8_readsPrice cX8_readsPrice 5 (some .boolean)]
def wsX8_reads : List Cond := .code yX8_reads cX8_reads 2 (some .int) :: ((wsX8_reads_r1 ++ (wsX8_reads_r2 ++ wsX8_reads_r3)) ++ wsX80)
def wsX8_hang : List Cond := .code yX8_hang cX8_hang 4 (some .boolean) :: ([.fieldLink RX8 62 "RingPagesModel" "readCells" "I", .fieldLink RX8 25 "RingPagesModel" "readWeight" "[I"] ++ wsX80)
def wsX8_write : List Cond := .code yX8_write cX8_write 2 (some .int) :: ([.fieldLink RX8 85 "RingPagesModel" "length" "I", .fieldLink RX8 7 "RingPagesModel" "text" "[I"] ++ wsX80)
def wsX8_wipe : List Cond := .code yX8_wipe cX8_wipe 2 (some .int) :: ([.fieldLink RX8 85 "RingPagesModel" "length" "I"] ++ wsX80)
def wsX8_fault_r1 : List Cond := [Cond.methodLink RX8 128 yX8_reads, Cond.instanceMethod yX8_reads, Cond.selects RX8 yX8_reads yX8_reads, Cond.initialized RX8, Cond.code yX8_reads cX8_reads 2 (some .int), Cond.fieldLink RX8 85 "RingPagesModel" "length" "I", Cond.fieldLink RX8 7 "RingPagesModel" "text" "[I", Cond.fieldLink RX8 91 "RingPagesModel" "ends" "I", Cond.methodLink RX8 59 yX8_clears, Cond.instanceMethod yX8_clears, Cond.selects RX8 yX8_clears yX8_clears, Cond.code yX8_clears cX8_clears 2 none, Cond.fieldLink RX8 62 "RingPagesModel" "readCells" "I", Cond.fieldLink RX8 73 "RingPagesModel" "readJoins" "I", Cond.fieldLink RX8 25 "RingPagesModel" "readWeight" "[I", Cond.fieldLink RX8 31 "RingPagesModel" "read" "[I", Cond.fieldLink RX8 28 "RingPagesModel" "readPrice" "[I", Cond.methodLink RX8 125 yX8_readsItem, Cond.instanceMethod yX8_readsItem, Cond.selects RX8 yX8_readsItem yX8_readsItem, Cond.code yX8_readsItem cX8_readsItem 4 (some .boolean), Cond.fieldLink RX8 88 "RingPagesModel" "value" "I", Cond.methodLink RX8 102 yX8_number, Cond.instanceMethod yX8_number]
def wsX8_fault_r2 : List Cond := [Cond.selects RX8 yX8_number yX8_number, Cond.code yX8_number cX8_number 4 (some .boolean), Cond.methodLink RX8 94 yX8_letterAt, Cond.instanceMethod yX8_letterAt, Cond.selects RX8 yX8_letterAt yX8_letterAt, Cond.code yX8_letterAt cX8_letterAt 2 (some .int), Cond.methodLink RX8 98 yX8_isIn, Cond.static yX8_isIn, Cond.code yX8_isIn cX8_isIn 3 (some .boolean), Cond.methodLink RX8 112 yX8_readsJoin, Cond.instanceMethod yX8_readsJoin, Cond.selects RX8 yX8_readsJoin yX8_readsJoin, Cond.code yX8_readsJoin cX8_readsJoin 5 (some .boolean), Cond.methodLink RX8 105 yX8_more, Cond.instanceMethod yX8_more, Cond.selects RX8 yX8_more yX8_more, Cond.code yX8_more cX8_more 3 (some .boolean), Cond.methodLink RX8 66 yX8_joinOf, Cond.instanceMethod yX8_joinOf, Cond.selects RX8 yX8_joinOf yX8_joinOf, Cond.code yX8_joinOf cX8_joinOf 5 none, Cond.methodLink RX8 116 yX8_readsCell, Cond.instanceMethod yX8_readsCell, Cond.selects RX8 yX8_readsCell yX8_readsCell]
def wsX8_fault_r3 : List Cond := [Cond.code yX8_readsCell cX8_readsCell 5 (some .boolean), Cond.methodLink RX8 119 yX8_readsLaw, Cond.instanceMethod yX8_readsLaw, Cond.selects RX8 yX8_readsLaw yX8_readsLaw, Cond.code yX8_readsLaw cX8_readsLaw 4 (some .boolean), Cond.methodLink RX8 109 yX8_isLaw, Cond.static yX8_isLaw, Cond.code yX8_isLaw cX8_isLaw 2 (some .boolean), Cond.methodLink RX8 122 yX8_readsPrice, Cond.instanceMethod yX8_readsPrice, Cond.selects RX8 yX8_readsPrice yX8_readsPrice, Cond.code yX8_readsPrice cX8_readsPrice 5 (some .boolean)]
def wsX8_fault : List Cond := .code yX8_fault cX8_fault 1 (some .int) :: ((wsX8_fault_r1 ++ (wsX8_fault_r2 ++ wsX8_fault_r3)) ++ wsX80)
def wsX8_lay_r1 : List Cond := [Cond.fieldLink RX8 76 "RingPagesModel" "cells" "I", Cond.methodLink RX8 128 yX8_reads, Cond.instanceMethod yX8_reads, Cond.selects RX8 yX8_reads yX8_reads, Cond.initialized RX8, Cond.code yX8_reads cX8_reads 2 (some .int), Cond.fieldLink RX8 85 "RingPagesModel" "length" "I", Cond.fieldLink RX8 7 "RingPagesModel" "text" "[I", Cond.fieldLink RX8 91 "RingPagesModel" "ends" "I", Cond.methodLink RX8 59 yX8_clears, Cond.instanceMethod yX8_clears, Cond.selects RX8 yX8_clears yX8_clears, Cond.code yX8_clears cX8_clears 2 none, Cond.fieldLink RX8 62 "RingPagesModel" "readCells" "I", Cond.fieldLink RX8 73 "RingPagesModel" "readJoins" "I", Cond.fieldLink RX8 25 "RingPagesModel" "readWeight" "[I", Cond.fieldLink RX8 31 "RingPagesModel" "read" "[I", Cond.fieldLink RX8 28 "RingPagesModel" "readPrice" "[I", Cond.methodLink RX8 125 yX8_readsItem, Cond.instanceMethod yX8_readsItem, Cond.selects RX8 yX8_readsItem yX8_readsItem, Cond.code yX8_readsItem cX8_readsItem 4 (some .boolean), Cond.fieldLink RX8 88 "RingPagesModel" "value" "I", Cond.methodLink RX8 102 yX8_number]
def wsX8_lay_r2 : List Cond := [Cond.instanceMethod yX8_number, Cond.selects RX8 yX8_number yX8_number, Cond.code yX8_number cX8_number 4 (some .boolean), Cond.methodLink RX8 94 yX8_letterAt, Cond.instanceMethod yX8_letterAt, Cond.selects RX8 yX8_letterAt yX8_letterAt, Cond.code yX8_letterAt cX8_letterAt 2 (some .int), Cond.methodLink RX8 98 yX8_isIn, Cond.static yX8_isIn, Cond.code yX8_isIn cX8_isIn 3 (some .boolean), Cond.methodLink RX8 112 yX8_readsJoin, Cond.instanceMethod yX8_readsJoin, Cond.selects RX8 yX8_readsJoin yX8_readsJoin, Cond.code yX8_readsJoin cX8_readsJoin 5 (some .boolean), Cond.methodLink RX8 105 yX8_more, Cond.instanceMethod yX8_more, Cond.selects RX8 yX8_more yX8_more, Cond.code yX8_more cX8_more 3 (some .boolean), Cond.methodLink RX8 66 yX8_joinOf, Cond.instanceMethod yX8_joinOf, Cond.selects RX8 yX8_joinOf yX8_joinOf, Cond.code yX8_joinOf cX8_joinOf 5 none, Cond.methodLink RX8 116 yX8_readsCell, Cond.instanceMethod yX8_readsCell]
def wsX8_lay_r3 : List Cond := [Cond.selects RX8 yX8_readsCell yX8_readsCell, Cond.code yX8_readsCell cX8_readsCell 5 (some .boolean), Cond.methodLink RX8 119 yX8_readsLaw, Cond.instanceMethod yX8_readsLaw, Cond.selects RX8 yX8_readsLaw yX8_readsLaw, Cond.code yX8_readsLaw cX8_readsLaw 4 (some .boolean), Cond.methodLink RX8 109 yX8_isLaw, Cond.static yX8_isLaw, Cond.code yX8_isLaw cX8_isLaw 2 (some .boolean), Cond.methodLink RX8 122 yX8_readsPrice, Cond.instanceMethod yX8_readsPrice, Cond.selects RX8 yX8_readsPrice yX8_readsPrice, Cond.code yX8_readsPrice cX8_readsPrice 5 (some .boolean), Cond.methodLink RX8 132 yX8_hang, Cond.instanceMethod yX8_hang, Cond.selects RX8 yX8_hang yX8_hang, Cond.code yX8_hang cX8_hang 4 (some .boolean), Cond.methodLink RX8 70 yX8_takes, Cond.instanceMethod yX8_takes, Cond.selects RX8 yX8_takes yX8_takes, Cond.code yX8_takes cX8_takes 2 none, Cond.fieldLink RX8 79 "RingPagesModel" "joins" "I", Cond.fieldLink RX8 13 "RingPagesModel" "weight" "[I", Cond.fieldLink RX8 19 "RingPagesModel" "now" "[I"]
def wsX8_lay_r4 : List Cond := [Cond.fieldLink RX8 16 "RingPagesModel" "price" "[I", Cond.fieldLink RX8 82 "RingPagesModel" "changes" "I"]
def wsX8_lay : List Cond := .code yX8_lay cX8_lay 1 (some .int) :: ((wsX8_lay_r1 ++ (wsX8_lay_r2 ++ (wsX8_lay_r3 ++ wsX8_lay_r4))) ++ wsX80)
def wsX8_keeps : List Cond := .code yX8_keeps cX8_keeps 2 none :: ([.fieldLink RX8 82 "RingPagesModel" "changes" "I", .fieldLink RX8 22 "RingPagesModel" "was" "[I", .fieldLink RX8 19 "RingPagesModel" "now" "[I"] ++ wsX80)
def wsX8_undo : List Cond := .code yX8_undo cX8_undo 2 (some .int) :: ([.fieldLink RX8 82 "RingPagesModel" "changes" "I", .fieldLink RX8 19 "RingPagesModel" "now" "[I", .fieldLink RX8 22 "RingPagesModel" "was" "[I"] ++ wsX80)
def wsX8_isCell : List Cond := .code yX8_isCell cX8_isCell 2 (some .boolean) :: ([.fieldLink RX8 76 "RingPagesModel" "cells" "I", .methodLink RX8 98 yX8_isIn, .static yX8_isIn, .initialized RX8, .code yX8_isIn cX8_isIn 3 (some .boolean)] ++ wsX80)
def wsX8_registers : List Cond := .code yX8_registers cX8_registers 1 none :: ([])
def wsX8_set : List Cond := .code yX8_set cX8_set 5 (some .int) :: ([.fieldLink RX8 19 "RingPagesModel" "now" "[I", .methodLink RX8 136 yX8_isCell, .instanceMethod yX8_isCell, .selects RX8 yX8_isCell yX8_isCell, .initialized RX8, .code yX8_isCell cX8_isCell 2 (some .boolean), .fieldLink RX8 76 "RingPagesModel" "cells" "I", .methodLink RX8 98 yX8_isIn, .static yX8_isIn, .code yX8_isIn cX8_isIn 3 (some .boolean), .methodLink RX8 139 yX8_keeps, .instanceMethod yX8_keeps, .selects RX8 yX8_keeps yX8_keeps, .code yX8_keeps cX8_keeps 2 none, .fieldLink RX8 82 "RingPagesModel" "changes" "I", .fieldLink RX8 22 "RingPagesModel" "was" "[I", .methodLink RX8 142 yX8_registers, .static yX8_registers, .code yX8_registers cX8_registers 1 none] ++ wsX80)
def wsX8_law : List Cond := .code yX8_law cX8_law 4 (some .int) :: ([.fieldLink RX8 19 "RingPagesModel" "now" "[I", .methodLink RX8 109 yX8_isLaw, .static yX8_isLaw, .initialized RX8, .code yX8_isLaw cX8_isLaw 2 (some .boolean), .methodLink RX8 98 yX8_isIn, .static yX8_isIn, .code yX8_isIn cX8_isIn 3 (some .boolean), .methodLink RX8 139 yX8_keeps, .instanceMethod yX8_keeps, .selects RX8 yX8_keeps yX8_keeps, .code yX8_keeps cX8_keeps 2 none, .fieldLink RX8 82 "RingPagesModel" "changes" "I", .fieldLink RX8 22 "RingPagesModel" "was" "[I", .methodLink RX8 142 yX8_registers, .static yX8_registers, .code yX8_registers cX8_registers 1 none] ++ wsX80)
def wsX8_out : List Cond := .code yX8_out cX8_out 4 (some .int) :: ([.fieldLink RX8 76 "RingPagesModel" "cells" "I", .fieldLink RX8 13 "RingPagesModel" "weight" "[I"] ++ wsX80)
def wsX8_sum : List Cond := .code yX8_sum cX8_sum 2 (some .int) :: ([.fieldLink RX8 19 "RingPagesModel" "now" "[I", .methodLink RX8 146 yX8_out, .instanceMethod yX8_out, .selects RX8 yX8_out yX8_out, .initialized RX8, .code yX8_out cX8_out 4 (some .int), .fieldLink RX8 76 "RingPagesModel" "cells" "I", .fieldLink RX8 13 "RingPagesModel" "weight" "[I"] ++ wsX80)
def wsX8_joined : List Cond := .code yX8_joined cX8_joined 4 (some .int) :: ([.fieldLink RX8 76 "RingPagesModel" "cells" "I", .fieldLink RX8 13 "RingPagesModel" "weight" "[I"] ++ wsX80)
def wsX8_likeArea : List Cond := .code yX8_likeArea cX8_likeArea 4 (some .int) :: ([.fieldLink RX8 76 "RingPagesModel" "cells" "I", .fieldLink RX8 19 "RingPagesModel" "now" "[I"] ++ wsX80)
def wsX8_cell_r1 : List Cond := [Cond.fieldLink RX8 19 "RingPagesModel" "now" "[I", Cond.methodLink RX8 136 yX8_isCell, Cond.instanceMethod yX8_isCell, Cond.selects RX8 yX8_isCell yX8_isCell, Cond.initialized RX8, Cond.code yX8_isCell cX8_isCell 2 (some .boolean), Cond.fieldLink RX8 76 "RingPagesModel" "cells" "I", Cond.methodLink RX8 98 yX8_isIn, Cond.static yX8_isIn, Cond.code yX8_isIn cX8_isIn 3 (some .boolean), Cond.methodLink RX8 149 yX8_sum, Cond.instanceMethod yX8_sum, Cond.selects RX8 yX8_sum yX8_sum, Cond.code yX8_sum cX8_sum 2 (some .int), Cond.methodLink RX8 146 yX8_out, Cond.instanceMethod yX8_out, Cond.selects RX8 yX8_out yX8_out, Cond.code yX8_out cX8_out 4 (some .int), Cond.fieldLink RX8 13 "RingPagesModel" "weight" "[I", Cond.methodLink RX8 152 yX8_joined, Cond.instanceMethod yX8_joined, Cond.selects RX8 yX8_joined yX8_joined, Cond.code yX8_joined cX8_joined 4 (some .int), Cond.methodLink RX8 155 yX8_likeArea]
def wsX8_cell_r2 : List Cond := [Cond.instanceMethod yX8_likeArea, Cond.selects RX8 yX8_likeArea yX8_likeArea, Cond.code yX8_likeArea cX8_likeArea 4 (some .int)]
def wsX8_cell : List Cond := .code yX8_cell cX8_cell 3 (some .int) :: ((wsX8_cell_r1 ++ wsX8_cell_r2) ++ wsX80)
def wsX8_weight : List Cond := .code yX8_weight cX8_weight 3 (some .int) :: ([.fieldLink RX8 13 "RingPagesModel" "weight" "[I", .methodLink RX8 136 yX8_isCell, .instanceMethod yX8_isCell, .selects RX8 yX8_isCell yX8_isCell, .initialized RX8, .code yX8_isCell cX8_isCell 2 (some .boolean), .fieldLink RX8 76 "RingPagesModel" "cells" "I", .methodLink RX8 98 yX8_isIn, .static yX8_isIn, .code yX8_isIn cX8_isIn 3 (some .boolean)] ++ wsX80)
def wsX8_far : List Cond := .code yX8_far cX8_far 7 (some .int) :: ([.fieldLink RX8 76 "RingPagesModel" "cells" "I", .methodLink RX8 152 yX8_joined, .instanceMethod yX8_joined, .selects RX8 yX8_joined yX8_joined, .initialized RX8, .code yX8_joined cX8_joined 4 (some .int), .fieldLink RX8 13 "RingPagesModel" "weight" "[I"] ++ wsX80)
def wsX8_wide : List Cond := .code yX8_wide cX8_wide 3 (some .int) :: ([.methodLink RX8 136 yX8_isCell, .instanceMethod yX8_isCell, .selects RX8 yX8_isCell yX8_isCell, .initialized RX8, .code yX8_isCell cX8_isCell 2 (some .boolean), .fieldLink RX8 76 "RingPagesModel" "cells" "I", .methodLink RX8 98 yX8_isIn, .static yX8_isIn, .code yX8_isIn cX8_isIn 3 (some .boolean), .methodLink RX8 158 yX8_far, .instanceMethod yX8_far, .selects RX8 yX8_far yX8_far, .code yX8_far cX8_far 7 (some .int), .methodLink RX8 152 yX8_joined, .instanceMethod yX8_joined, .selects RX8 yX8_joined yX8_joined, .code yX8_joined cX8_joined 4 (some .int), .fieldLink RX8 13 "RingPagesModel" "weight" "[I"] ++ wsX80)
def wsX8_isDue : List Cond := .code yX8_isDue cX8_isDue 2 (some .boolean) :: ([.fieldLink RX8 19 "RingPagesModel" "now" "[I", .methodLink RX8 158 yX8_far, .instanceMethod yX8_far, .selects RX8 yX8_far yX8_far, .initialized RX8, .code yX8_far cX8_far 7 (some .int), .fieldLink RX8 76 "RingPagesModel" "cells" "I", .methodLink RX8 152 yX8_joined, .instanceMethod yX8_joined, .selects RX8 yX8_joined yX8_joined, .code yX8_joined cX8_joined 4 (some .int), .fieldLink RX8 13 "RingPagesModel" "weight" "[I"] ++ wsX80)
def wsX8_goes : List Cond := .code yX8_goes cX8_goes 3 (some .int) :: ([.methodLink RX8 162 yX8_isDue, .instanceMethod yX8_isDue, .selects RX8 yX8_isDue yX8_isDue, .initialized RX8, .code yX8_isDue cX8_isDue 2 (some .boolean), .fieldLink RX8 19 "RingPagesModel" "now" "[I", .methodLink RX8 158 yX8_far, .instanceMethod yX8_far, .selects RX8 yX8_far yX8_far, .code yX8_far cX8_far 7 (some .int), .fieldLink RX8 76 "RingPagesModel" "cells" "I", .methodLink RX8 152 yX8_joined, .instanceMethod yX8_joined, .selects RX8 yX8_joined yX8_joined, .code yX8_joined cX8_joined 4 (some .int), .fieldLink RX8 13 "RingPagesModel" "weight" "[I", .methodLink RX8 142 yX8_registers, .static yX8_registers, .code yX8_registers cX8_registers 1 none] ++ wsX80)
def wsX8_tick_r1 : List Cond := [Cond.fieldLink RX8 19 "RingPagesModel" "now" "[I", Cond.fieldLink RX8 13 "RingPagesModel" "weight" "[I", Cond.methodLink RX8 136 yX8_isCell, Cond.instanceMethod yX8_isCell, Cond.selects RX8 yX8_isCell yX8_isCell, Cond.initialized RX8, Cond.code yX8_isCell cX8_isCell 2 (some .boolean), Cond.fieldLink RX8 76 "RingPagesModel" "cells" "I", Cond.methodLink RX8 98 yX8_isIn, Cond.static yX8_isIn, Cond.code yX8_isIn cX8_isIn 3 (some .boolean), Cond.methodLink RX8 139 yX8_keeps, Cond.instanceMethod yX8_keeps, Cond.selects RX8 yX8_keeps yX8_keeps, Cond.code yX8_keeps cX8_keeps 2 none, Cond.fieldLink RX8 82 "RingPagesModel" "changes" "I", Cond.fieldLink RX8 22 "RingPagesModel" "was" "[I", Cond.methodLink RX8 166 yX8_goes, Cond.instanceMethod yX8_goes, Cond.selects RX8 yX8_goes yX8_goes, Cond.code yX8_goes cX8_goes 3 (some .int), Cond.methodLink RX8 162 yX8_isDue, Cond.instanceMethod yX8_isDue, Cond.selects RX8 yX8_isDue yX8_isDue]
def wsX8_tick_r2 : List Cond := [Cond.code yX8_isDue cX8_isDue 2 (some .boolean), Cond.methodLink RX8 158 yX8_far, Cond.instanceMethod yX8_far, Cond.selects RX8 yX8_far yX8_far, Cond.code yX8_far cX8_far 7 (some .int), Cond.methodLink RX8 152 yX8_joined, Cond.instanceMethod yX8_joined, Cond.selects RX8 yX8_joined yX8_joined, Cond.code yX8_joined cX8_joined 4 (some .int), Cond.methodLink RX8 142 yX8_registers, Cond.static yX8_registers, Cond.code yX8_registers cX8_registers 1 none]
def wsX8_tick : List Cond := .code yX8_tick cX8_tick 3 (some .int) :: ((wsX8_tick_r1 ++ wsX8_tick_r2) ++ wsX80)
def wsX8_handset : List Cond := .code yX8_handset cX8_handset 2 (some .int) :: ([.fieldLink RX8 19 "RingPagesModel" "now" "[I", .fieldLink RX8 16 "RingPagesModel" "price" "[I", .methodLink RX8 98 yX8_isIn, .static yX8_isIn, .initialized RX8, .code yX8_isIn cX8_isIn 3 (some .boolean)] ++ wsX80)
def wsX8_allowed : List Cond := .code yX8_allowed cX8_allowed 5 (some .int) :: ([.fieldLink RX8 19 "RingPagesModel" "now" "[I", .fieldLink RX8 76 "RingPagesModel" "cells" "I", .methodLink RX8 158 yX8_far, .instanceMethod yX8_far, .selects RX8 yX8_far yX8_far, .initialized RX8, .code yX8_far cX8_far 7 (some .int), .methodLink RX8 152 yX8_joined, .instanceMethod yX8_joined, .selects RX8 yX8_joined yX8_joined, .code yX8_joined cX8_joined 4 (some .int), .fieldLink RX8 13 "RingPagesModel" "weight" "[I"] ++ wsX80)
def wsX8_whereIs : List Cond := .code yX8_whereIs cX8_whereIs 7 (some .int) :: ([.fieldLink RX8 19 "RingPagesModel" "now" "[I", .fieldLink RX8 34 "RingPagesModel" "can" "[I", .fieldLink RX8 37 "RingPagesModel" "next" "[I", .fieldLink RX8 76 "RingPagesModel" "cells" "I", .methodLink RX8 170 yX8_allowed, .instanceMethod yX8_allowed, .selects RX8 yX8_allowed yX8_allowed, .initialized RX8, .code yX8_allowed cX8_allowed 5 (some .int), .methodLink RX8 158 yX8_far, .instanceMethod yX8_far, .selects RX8 yX8_far yX8_far, .code yX8_far cX8_far 7 (some .int), .methodLink RX8 152 yX8_joined, .instanceMethod yX8_joined, .selects RX8 yX8_joined yX8_joined, .code yX8_joined cX8_joined 4 (some .int), .fieldLink RX8 13 "RingPagesModel" "weight" "[I"] ++ wsX80)
def wsX8_where : List Cond := .code yX8_where cX8_where 1 (some .int) :: ([.methodLink RX8 173 yX8_whereIs, .instanceMethod yX8_whereIs, .selects RX8 yX8_whereIs yX8_whereIs, .initialized RX8, .code yX8_whereIs cX8_whereIs 7 (some .int), .fieldLink RX8 19 "RingPagesModel" "now" "[I", .fieldLink RX8 34 "RingPagesModel" "can" "[I", .fieldLink RX8 37 "RingPagesModel" "next" "[I", .fieldLink RX8 76 "RingPagesModel" "cells" "I", .methodLink RX8 170 yX8_allowed, .instanceMethod yX8_allowed, .selects RX8 yX8_allowed yX8_allowed, .code yX8_allowed cX8_allowed 5 (some .int), .methodLink RX8 158 yX8_far, .instanceMethod yX8_far, .selects RX8 yX8_far yX8_far, .code yX8_far cX8_far 7 (some .int), .methodLink RX8 152 yX8_joined, .instanceMethod yX8_joined, .selects RX8 yX8_joined yX8_joined, .code yX8_joined cX8_joined 4 (some .int), .fieldLink RX8 13 "RingPagesModel" "weight" "[I"] ++ wsX80)
def wsX8_determinant : List Cond := .code yX8_determinant cX8_determinant 7 (some .long) :: ([.fieldLink RX8 44 "RingPagesModel" "table" "[J"] ++ wsX80)
def wsX8_grows : List Cond := .code yX8_grows cX8_grows 6 none :: ([.fieldLink RX8 76 "RingPagesModel" "cells" "I", .fieldLink RX8 44 "RingPagesModel" "table" "[J", .fieldLink RX8 13 "RingPagesModel" "weight" "[I", .fieldLink RX8 40 "RingPagesModel" "trees" "[J", .methodLink RX8 146 yX8_out, .instanceMethod yX8_out, .selects RX8 yX8_out yX8_out, .initialized RX8, .code yX8_out cX8_out 4 (some .int), .methodLink RX8 176 yX8_determinant, .instanceMethod yX8_determinant, .selects RX8 yX8_determinant yX8_determinant, .code yX8_determinant cX8_determinant 7 (some .long)] ++ wsX80)
def wsX8_below : List Cond := .code yX8_below cX8_below 4 (some .long) :: ([.fieldLink RX8 76 "RingPagesModel" "cells" "I", .fieldLink RX8 40 "RingPagesModel" "trees" "[J", .methodLink RX8 149 yX8_sum, .instanceMethod yX8_sum, .selects RX8 yX8_sum yX8_sum, .initialized RX8, .code yX8_sum cX8_sum 2 (some .int), .fieldLink RX8 19 "RingPagesModel" "now" "[I", .methodLink RX8 146 yX8_out, .instanceMethod yX8_out, .selects RX8 yX8_out yX8_out, .code yX8_out cX8_out 4 (some .int), .fieldLink RX8 13 "RingPagesModel" "weight" "[I"] ++ wsX80)
def wsX8_common : List Cond := .code yX8_common cX8_common 10 (some .long) :: ([])
def wsX8_term : List Cond := .code yX8_term cX8_term 7 (some .long) :: ([.methodLink RX8 180 yX8_common, .static yX8_common, .initialized RX8, .code yX8_common cX8_common 10 (some .long)])
def wsX8_chance_r1 : List Cond := [Cond.constantLong RX8 184 (-1), Cond.fieldLink RX8 40 "RingPagesModel" "trees" "[J", Cond.methodLink RX8 136 yX8_isCell, Cond.instanceMethod yX8_isCell, Cond.selects RX8 yX8_isCell yX8_isCell, Cond.initialized RX8, Cond.code yX8_isCell cX8_isCell 2 (some .boolean), Cond.fieldLink RX8 76 "RingPagesModel" "cells" "I", Cond.methodLink RX8 98 yX8_isIn, Cond.static yX8_isIn, Cond.code yX8_isIn cX8_isIn 3 (some .boolean), Cond.methodLink RX8 186 yX8_grows, Cond.instanceMethod yX8_grows, Cond.selects RX8 yX8_grows yX8_grows, Cond.code yX8_grows cX8_grows 6 none, Cond.fieldLink RX8 44 "RingPagesModel" "table" "[J", Cond.fieldLink RX8 13 "RingPagesModel" "weight" "[I", Cond.methodLink RX8 146 yX8_out, Cond.instanceMethod yX8_out, Cond.selects RX8 yX8_out yX8_out, Cond.code yX8_out cX8_out 4 (some .int), Cond.methodLink RX8 176 yX8_determinant, Cond.instanceMethod yX8_determinant, Cond.selects RX8 yX8_determinant yX8_determinant]
def wsX8_chance_r2 : List Cond := [Cond.code yX8_determinant cX8_determinant 7 (some .long), Cond.methodLink RX8 149 yX8_sum, Cond.instanceMethod yX8_sum, Cond.selects RX8 yX8_sum yX8_sum, Cond.code yX8_sum cX8_sum 2 (some .int), Cond.fieldLink RX8 19 "RingPagesModel" "now" "[I", Cond.methodLink RX8 189 yX8_below, Cond.instanceMethod yX8_below, Cond.selects RX8 yX8_below yX8_below, Cond.code yX8_below cX8_below 4 (some .long), Cond.methodLink RX8 193 yX8_term, Cond.static yX8_term, Cond.code yX8_term cX8_term 7 (some .long), Cond.methodLink RX8 180 yX8_common, Cond.static yX8_common, Cond.code yX8_common cX8_common 10 (some .long)]
def wsX8_chance : List Cond := .code yX8_chance cX8_chance 3 (some .long) :: ((wsX8_chance_r1 ++ wsX8_chance_r2) ++ wsX80)
def wsX8_crossing : List Cond := .code yX8_crossing cX8_crossing 8 (some .long) :: ([.fieldLink RX8 76 "RingPagesModel" "cells" "I", .fieldLink RX8 40 "RingPagesModel" "trees" "[J", .fieldLink RX8 13 "RingPagesModel" "weight" "[I"] ++ wsX80)
def wsX8_expense : List Cond := .code yX8_expense cX8_expense 7 (some .long) :: ([.constantLong RX8 197 (100), .fieldLink RX8 16 "RingPagesModel" "price" "[I", .fieldLink RX8 76 "RingPagesModel" "cells" "I", .fieldLink RX8 40 "RingPagesModel" "trees" "[J", .methodLink RX8 199 yX8_crossing, .instanceMethod yX8_crossing, .selects RX8 yX8_crossing yX8_crossing, .initialized RX8, .code yX8_crossing cX8_crossing 8 (some .long), .fieldLink RX8 13 "RingPagesModel" "weight" "[I", .methodLink RX8 149 yX8_sum, .instanceMethod yX8_sum, .selects RX8 yX8_sum yX8_sum, .code yX8_sum cX8_sum 2 (some .int), .fieldLink RX8 19 "RingPagesModel" "now" "[I", .methodLink RX8 146 yX8_out, .instanceMethod yX8_out, .selects RX8 yX8_out yX8_out, .code yX8_out cX8_out 4 (some .int)] ++ wsX80)
def wsX8_mean_r1 : List Cond := [Cond.constantLong RX8 184 (-1), Cond.fieldLink RX8 19 "RingPagesModel" "now" "[I", Cond.constantLong RX8 197 (100), Cond.constantLong RX8 207 (-4), Cond.methodLink RX8 98 yX8_isIn, Cond.static yX8_isIn, Cond.initialized RX8, Cond.code yX8_isIn cX8_isIn 3 (some .boolean), Cond.methodLink RX8 186 yX8_grows, Cond.instanceMethod yX8_grows, Cond.selects RX8 yX8_grows yX8_grows, Cond.code yX8_grows cX8_grows 6 none, Cond.fieldLink RX8 76 "RingPagesModel" "cells" "I", Cond.fieldLink RX8 44 "RingPagesModel" "table" "[J", Cond.fieldLink RX8 13 "RingPagesModel" "weight" "[I", Cond.fieldLink RX8 40 "RingPagesModel" "trees" "[J", Cond.methodLink RX8 146 yX8_out, Cond.instanceMethod yX8_out, Cond.selects RX8 yX8_out yX8_out, Cond.code yX8_out cX8_out 4 (some .int), Cond.methodLink RX8 176 yX8_determinant, Cond.instanceMethod yX8_determinant, Cond.selects RX8 yX8_determinant yX8_determinant, Cond.code yX8_determinant cX8_determinant 7 (some .long)]
def wsX8_mean_r2 : List Cond := [Cond.methodLink RX8 189 yX8_below, Cond.instanceMethod yX8_below, Cond.selects RX8 yX8_below yX8_below, Cond.code yX8_below cX8_below 4 (some .long), Cond.methodLink RX8 149 yX8_sum, Cond.instanceMethod yX8_sum, Cond.selects RX8 yX8_sum yX8_sum, Cond.code yX8_sum cX8_sum 2 (some .int), Cond.methodLink RX8 199 yX8_crossing, Cond.instanceMethod yX8_crossing, Cond.selects RX8 yX8_crossing yX8_crossing, Cond.code yX8_crossing cX8_crossing 8 (some .long), Cond.methodLink RX8 193 yX8_term, Cond.static yX8_term, Cond.code yX8_term cX8_term 7 (some .long), Cond.methodLink RX8 180 yX8_common, Cond.static yX8_common, Cond.code yX8_common cX8_common 10 (some .long), Cond.methodLink RX8 203 yX8_expense, Cond.instanceMethod yX8_expense, Cond.selects RX8 yX8_expense yX8_expense, Cond.code yX8_expense cX8_expense 7 (some .long), Cond.fieldLink RX8 16 "RingPagesModel" "price" "[I"]
def wsX8_mean : List Cond := .code yX8_mean cX8_mean 5 (some .long) :: ((wsX8_mean_r1 ++ wsX8_mean_r2) ++ wsX80)
def wsX8_goesOn : List Cond := .code yX8_goesOn cX8_goesOn 4 (some .boolean) :: ([.fieldLink RX8 76 "RingPagesModel" "cells" "I", .fieldLink RX8 47 "RingPagesModel" "tried" "[I"] ++ wsX80)
def wsX8_finds_r1 : List Cond := [Cond.fieldLink RX8 47 "RingPagesModel" "tried" "[I", Cond.fieldLink RX8 50 "RingPagesModel" "best" "[I", Cond.methodLink RX8 186 yX8_grows, Cond.instanceMethod yX8_grows, Cond.selects RX8 yX8_grows yX8_grows, Cond.initialized RX8, Cond.code yX8_grows cX8_grows 6 none, Cond.fieldLink RX8 76 "RingPagesModel" "cells" "I", Cond.fieldLink RX8 44 "RingPagesModel" "table" "[J", Cond.fieldLink RX8 13 "RingPagesModel" "weight" "[I", Cond.fieldLink RX8 40 "RingPagesModel" "trees" "[J", Cond.methodLink RX8 146 yX8_out, Cond.instanceMethod yX8_out, Cond.selects RX8 yX8_out yX8_out, Cond.code yX8_out cX8_out 4 (some .int), Cond.methodLink RX8 176 yX8_determinant, Cond.instanceMethod yX8_determinant, Cond.selects RX8 yX8_determinant yX8_determinant, Cond.code yX8_determinant cX8_determinant 7 (some .long), Cond.methodLink RX8 203 yX8_expense, Cond.instanceMethod yX8_expense, Cond.selects RX8 yX8_expense yX8_expense, Cond.code yX8_expense cX8_expense 7 (some .long), Cond.constantLong RX8 197 (100)]
def wsX8_finds_r2 : List Cond := [Cond.fieldLink RX8 16 "RingPagesModel" "price" "[I", Cond.methodLink RX8 199 yX8_crossing, Cond.instanceMethod yX8_crossing, Cond.selects RX8 yX8_crossing yX8_crossing, Cond.code yX8_crossing cX8_crossing 8 (some .long), Cond.methodLink RX8 149 yX8_sum, Cond.instanceMethod yX8_sum, Cond.selects RX8 yX8_sum yX8_sum, Cond.code yX8_sum cX8_sum 2 (some .int), Cond.fieldLink RX8 19 "RingPagesModel" "now" "[I", Cond.methodLink RX8 209 yX8_goesOn, Cond.instanceMethod yX8_goesOn, Cond.selects RX8 yX8_goesOn yX8_goesOn, Cond.code yX8_goesOn cX8_goesOn 4 (some .boolean)]
def wsX8_finds : List Cond := .code yX8_finds cX8_finds 6 (some .long) :: ((wsX8_finds_r1 ++ wsX8_finds_r2) ++ wsX80)
def wsX8_best_r1 : List Cond := [Cond.fieldLink RX8 50 "RingPagesModel" "best" "[I", Cond.methodLink RX8 136 yX8_isCell, Cond.instanceMethod yX8_isCell, Cond.selects RX8 yX8_isCell yX8_isCell, Cond.initialized RX8, Cond.code yX8_isCell cX8_isCell 2 (some .boolean), Cond.fieldLink RX8 76 "RingPagesModel" "cells" "I", Cond.methodLink RX8 98 yX8_isIn, Cond.static yX8_isIn, Cond.code yX8_isIn cX8_isIn 3 (some .boolean), Cond.methodLink RX8 212 yX8_finds, Cond.instanceMethod yX8_finds, Cond.selects RX8 yX8_finds yX8_finds, Cond.code yX8_finds cX8_finds 6 (some .long), Cond.fieldLink RX8 47 "RingPagesModel" "tried" "[I", Cond.methodLink RX8 186 yX8_grows, Cond.instanceMethod yX8_grows, Cond.selects RX8 yX8_grows yX8_grows, Cond.code yX8_grows cX8_grows 6 none, Cond.fieldLink RX8 44 "RingPagesModel" "table" "[J", Cond.fieldLink RX8 13 "RingPagesModel" "weight" "[I", Cond.fieldLink RX8 40 "RingPagesModel" "trees" "[J", Cond.methodLink RX8 146 yX8_out, Cond.instanceMethod yX8_out]
def wsX8_best_r2 : List Cond := [Cond.selects RX8 yX8_out yX8_out, Cond.code yX8_out cX8_out 4 (some .int), Cond.methodLink RX8 176 yX8_determinant, Cond.instanceMethod yX8_determinant, Cond.selects RX8 yX8_determinant yX8_determinant, Cond.code yX8_determinant cX8_determinant 7 (some .long), Cond.methodLink RX8 203 yX8_expense, Cond.instanceMethod yX8_expense, Cond.selects RX8 yX8_expense yX8_expense, Cond.code yX8_expense cX8_expense 7 (some .long), Cond.constantLong RX8 197 (100), Cond.fieldLink RX8 16 "RingPagesModel" "price" "[I", Cond.methodLink RX8 199 yX8_crossing, Cond.instanceMethod yX8_crossing, Cond.selects RX8 yX8_crossing yX8_crossing, Cond.code yX8_crossing cX8_crossing 8 (some .long), Cond.methodLink RX8 149 yX8_sum, Cond.instanceMethod yX8_sum, Cond.selects RX8 yX8_sum yX8_sum, Cond.code yX8_sum cX8_sum 2 (some .int), Cond.fieldLink RX8 19 "RingPagesModel" "now" "[I", Cond.methodLink RX8 209 yX8_goesOn, Cond.instanceMethod yX8_goesOn, Cond.selects RX8 yX8_goesOn yX8_goesOn]
def wsX8_best_r3 : List Cond := [Cond.code yX8_goesOn cX8_goesOn 4 (some .boolean)]
def wsX8_best : List Cond := .code yX8_best cX8_best 2 (some .int) :: ((wsX8_best_r1 ++ (wsX8_best_r2 ++ wsX8_best_r3)) ++ wsX80)
def wsX8_least_r1 : List Cond := [Cond.constantLong RX8 184 (-1), Cond.constantLong RX8 197 (100), Cond.methodLink RX8 98 yX8_isIn, Cond.static yX8_isIn, Cond.initialized RX8, Cond.code yX8_isIn cX8_isIn 3 (some .boolean), Cond.methodLink RX8 212 yX8_finds, Cond.instanceMethod yX8_finds, Cond.selects RX8 yX8_finds yX8_finds, Cond.code yX8_finds cX8_finds 6 (some .long), Cond.fieldLink RX8 47 "RingPagesModel" "tried" "[I", Cond.fieldLink RX8 50 "RingPagesModel" "best" "[I", Cond.methodLink RX8 186 yX8_grows, Cond.instanceMethod yX8_grows, Cond.selects RX8 yX8_grows yX8_grows, Cond.code yX8_grows cX8_grows 6 none, Cond.fieldLink RX8 76 "RingPagesModel" "cells" "I", Cond.fieldLink RX8 44 "RingPagesModel" "table" "[J", Cond.fieldLink RX8 13 "RingPagesModel" "weight" "[I", Cond.fieldLink RX8 40 "RingPagesModel" "trees" "[J", Cond.methodLink RX8 146 yX8_out, Cond.instanceMethod yX8_out, Cond.selects RX8 yX8_out yX8_out, Cond.code yX8_out cX8_out 4 (some .int)]
def wsX8_least_r2 : List Cond := [Cond.methodLink RX8 176 yX8_determinant, Cond.instanceMethod yX8_determinant, Cond.selects RX8 yX8_determinant yX8_determinant, Cond.code yX8_determinant cX8_determinant 7 (some .long), Cond.methodLink RX8 203 yX8_expense, Cond.instanceMethod yX8_expense, Cond.selects RX8 yX8_expense yX8_expense, Cond.code yX8_expense cX8_expense 7 (some .long), Cond.fieldLink RX8 16 "RingPagesModel" "price" "[I", Cond.methodLink RX8 199 yX8_crossing, Cond.instanceMethod yX8_crossing, Cond.selects RX8 yX8_crossing yX8_crossing, Cond.code yX8_crossing cX8_crossing 8 (some .long), Cond.methodLink RX8 149 yX8_sum, Cond.instanceMethod yX8_sum, Cond.selects RX8 yX8_sum yX8_sum, Cond.code yX8_sum cX8_sum 2 (some .int), Cond.fieldLink RX8 19 "RingPagesModel" "now" "[I", Cond.methodLink RX8 209 yX8_goesOn, Cond.instanceMethod yX8_goesOn, Cond.selects RX8 yX8_goesOn yX8_goesOn, Cond.code yX8_goesOn cX8_goesOn 4 (some .boolean), Cond.methodLink RX8 189 yX8_below, Cond.instanceMethod yX8_below]
def wsX8_least_r3 : List Cond := [Cond.selects RX8 yX8_below yX8_below, Cond.code yX8_below cX8_below 4 (some .long), Cond.methodLink RX8 193 yX8_term, Cond.static yX8_term, Cond.code yX8_term cX8_term 7 (some .long), Cond.methodLink RX8 180 yX8_common, Cond.static yX8_common, Cond.code yX8_common cX8_common 10 (some .long)]
def wsX8_least : List Cond := .code yX8_least cX8_least 2 (some .long) :: ((wsX8_least_r1 ++ (wsX8_least_r2 ++ wsX8_least_r3)) ++ wsX80)
def wsX8_give_r1 : List Cond := [Cond.fieldLink RX8 76 "RingPagesModel" "cells" "I", Cond.fieldLink RX8 19 "RingPagesModel" "now" "[I", Cond.fieldLink RX8 50 "RingPagesModel" "best" "[I", Cond.methodLink RX8 212 yX8_finds, Cond.instanceMethod yX8_finds, Cond.selects RX8 yX8_finds yX8_finds, Cond.initialized RX8, Cond.code yX8_finds cX8_finds 6 (some .long), Cond.fieldLink RX8 47 "RingPagesModel" "tried" "[I", Cond.methodLink RX8 186 yX8_grows, Cond.instanceMethod yX8_grows, Cond.selects RX8 yX8_grows yX8_grows, Cond.code yX8_grows cX8_grows 6 none, Cond.fieldLink RX8 44 "RingPagesModel" "table" "[J", Cond.fieldLink RX8 13 "RingPagesModel" "weight" "[I", Cond.fieldLink RX8 40 "RingPagesModel" "trees" "[J", Cond.methodLink RX8 146 yX8_out, Cond.instanceMethod yX8_out, Cond.selects RX8 yX8_out yX8_out, Cond.code yX8_out cX8_out 4 (some .int), Cond.methodLink RX8 176 yX8_determinant, Cond.instanceMethod yX8_determinant, Cond.selects RX8 yX8_determinant yX8_determinant, Cond.code yX8_determinant cX8_determinant 7 (some .long)]
def wsX8_give_r2 : List Cond := [Cond.methodLink RX8 203 yX8_expense, Cond.instanceMethod yX8_expense, Cond.selects RX8 yX8_expense yX8_expense, Cond.code yX8_expense cX8_expense 7 (some .long), Cond.constantLong RX8 197 (100), Cond.fieldLink RX8 16 "RingPagesModel" "price" "[I", Cond.methodLink RX8 199 yX8_crossing, Cond.instanceMethod yX8_crossing, Cond.selects RX8 yX8_crossing yX8_crossing, Cond.code yX8_crossing cX8_crossing 8 (some .long), Cond.methodLink RX8 149 yX8_sum, Cond.instanceMethod yX8_sum, Cond.selects RX8 yX8_sum yX8_sum, Cond.code yX8_sum cX8_sum 2 (some .int), Cond.methodLink RX8 209 yX8_goesOn, Cond.instanceMethod yX8_goesOn, Cond.selects RX8 yX8_goesOn yX8_goesOn, Cond.code yX8_goesOn cX8_goesOn 4 (some .boolean), Cond.methodLink RX8 139 yX8_keeps, Cond.instanceMethod yX8_keeps, Cond.selects RX8 yX8_keeps yX8_keeps, Cond.code yX8_keeps cX8_keeps 2 none, Cond.fieldLink RX8 82 "RingPagesModel" "changes" "I", Cond.fieldLink RX8 22 "RingPagesModel" "was" "[I"]
def wsX8_give_r3 : List Cond := [Cond.methodLink RX8 142 yX8_registers, Cond.static yX8_registers, Cond.code yX8_registers cX8_registers 1 none]
def wsX8_give : List Cond := .code yX8_give cX8_give 3 (some .int) :: ((wsX8_give_r1 ++ (wsX8_give_r2 ++ wsX8_give_r3)) ++ wsX80)
def wsX8_ranks_r1 : List Cond := [Cond.fieldLink RX8 215 "RingPagesModel" "rows" "I", Cond.fieldLink RX8 76 "RingPagesModel" "cells" "I", Cond.fieldLink RX8 40 "RingPagesModel" "trees" "[J", Cond.fieldLink RX8 53 "RingPagesModel" "row" "[I", Cond.methodLink RX8 173 yX8_whereIs, Cond.instanceMethod yX8_whereIs, Cond.selects RX8 yX8_whereIs yX8_whereIs, Cond.initialized RX8, Cond.code yX8_whereIs cX8_whereIs 7 (some .int), Cond.fieldLink RX8 19 "RingPagesModel" "now" "[I", Cond.fieldLink RX8 34 "RingPagesModel" "can" "[I", Cond.fieldLink RX8 37 "RingPagesModel" "next" "[I", Cond.methodLink RX8 170 yX8_allowed, Cond.instanceMethod yX8_allowed, Cond.selects RX8 yX8_allowed yX8_allowed, Cond.code yX8_allowed cX8_allowed 5 (some .int), Cond.methodLink RX8 158 yX8_far, Cond.instanceMethod yX8_far, Cond.selects RX8 yX8_far yX8_far, Cond.code yX8_far cX8_far 7 (some .int), Cond.methodLink RX8 152 yX8_joined, Cond.instanceMethod yX8_joined, Cond.selects RX8 yX8_joined yX8_joined, Cond.code yX8_joined cX8_joined 4 (some .int)]
def wsX8_ranks_r2 : List Cond := [Cond.fieldLink RX8 13 "RingPagesModel" "weight" "[I", Cond.methodLink RX8 186 yX8_grows, Cond.instanceMethod yX8_grows, Cond.selects RX8 yX8_grows yX8_grows, Cond.code yX8_grows cX8_grows 6 none, Cond.fieldLink RX8 44 "RingPagesModel" "table" "[J", Cond.methodLink RX8 146 yX8_out, Cond.instanceMethod yX8_out, Cond.selects RX8 yX8_out yX8_out, Cond.code yX8_out cX8_out 4 (some .int), Cond.methodLink RX8 176 yX8_determinant, Cond.instanceMethod yX8_determinant, Cond.selects RX8 yX8_determinant yX8_determinant, Cond.code yX8_determinant cX8_determinant 7 (some .long), Cond.methodLink RX8 149 yX8_sum, Cond.instanceMethod yX8_sum, Cond.selects RX8 yX8_sum yX8_sum, Cond.code yX8_sum cX8_sum 2 (some .int)]
def wsX8_ranks : List Cond := .code yX8_ranks cX8_ranks 4 none :: ((wsX8_ranks_r1 ++ wsX8_ranks_r2) ++ wsX80)
def wsX8_bits : List Cond := .code yX8_bits cX8_bits 3 (some .int) :: ([])
def wsX8_paged : List Cond := .code yX8_paged cX8_paged 6 (some .long) :: ([.fieldLink RX8 215 "RingPagesModel" "rows" "I", .fieldLink RX8 40 "RingPagesModel" "trees" "[J", .fieldLink RX8 53 "RingPagesModel" "row" "[I", .methodLink RX8 149 yX8_sum, .instanceMethod yX8_sum, .selects RX8 yX8_sum yX8_sum, .initialized RX8, .code yX8_sum cX8_sum 2 (some .int), .fieldLink RX8 19 "RingPagesModel" "now" "[I", .methodLink RX8 146 yX8_out, .instanceMethod yX8_out, .selects RX8 yX8_out yX8_out, .code yX8_out cX8_out 4 (some .int), .fieldLink RX8 76 "RingPagesModel" "cells" "I", .fieldLink RX8 13 "RingPagesModel" "weight" "[I"] ++ wsX80)
def wsX8_isFirst : List Cond := .code yX8_isFirst cX8_isFirst 4 (some .boolean) :: ([])
def wsX8_splits_r1 : List Cond := [Cond.fieldLink RX8 215 "RingPagesModel" "rows" "I", Cond.fieldLink RX8 221 "RingPagesModel" "cuts" "I", Cond.fieldLink RX8 16 "RingPagesModel" "price" "[I", Cond.methodLink RX8 218 yX8_ranks, Cond.instanceMethod yX8_ranks, Cond.selects RX8 yX8_ranks yX8_ranks, Cond.initialized RX8, Cond.code yX8_ranks cX8_ranks 4 none, Cond.fieldLink RX8 76 "RingPagesModel" "cells" "I", Cond.fieldLink RX8 40 "RingPagesModel" "trees" "[J", Cond.fieldLink RX8 53 "RingPagesModel" "row" "[I", Cond.methodLink RX8 173 yX8_whereIs, Cond.instanceMethod yX8_whereIs, Cond.selects RX8 yX8_whereIs yX8_whereIs, Cond.code yX8_whereIs cX8_whereIs 7 (some .int), Cond.fieldLink RX8 19 "RingPagesModel" "now" "[I", Cond.fieldLink RX8 34 "RingPagesModel" "can" "[I", Cond.fieldLink RX8 37 "RingPagesModel" "next" "[I", Cond.methodLink RX8 170 yX8_allowed, Cond.instanceMethod yX8_allowed, Cond.selects RX8 yX8_allowed yX8_allowed, Cond.code yX8_allowed cX8_allowed 5 (some .int), Cond.methodLink RX8 158 yX8_far, Cond.instanceMethod yX8_far]
def wsX8_splits_r2 : List Cond := [Cond.selects RX8 yX8_far yX8_far, Cond.code yX8_far cX8_far 7 (some .int), Cond.methodLink RX8 152 yX8_joined, Cond.instanceMethod yX8_joined, Cond.selects RX8 yX8_joined yX8_joined, Cond.code yX8_joined cX8_joined 4 (some .int), Cond.fieldLink RX8 13 "RingPagesModel" "weight" "[I", Cond.methodLink RX8 186 yX8_grows, Cond.instanceMethod yX8_grows, Cond.selects RX8 yX8_grows yX8_grows, Cond.code yX8_grows cX8_grows 6 none, Cond.fieldLink RX8 44 "RingPagesModel" "table" "[J", Cond.methodLink RX8 146 yX8_out, Cond.instanceMethod yX8_out, Cond.selects RX8 yX8_out yX8_out, Cond.code yX8_out cX8_out 4 (some .int), Cond.methodLink RX8 176 yX8_determinant, Cond.instanceMethod yX8_determinant, Cond.selects RX8 yX8_determinant yX8_determinant, Cond.code yX8_determinant cX8_determinant 7 (some .long), Cond.methodLink RX8 149 yX8_sum, Cond.instanceMethod yX8_sum, Cond.selects RX8 yX8_sum yX8_sum, Cond.code yX8_sum cX8_sum 2 (some .int)]
def wsX8_splits_r3 : List Cond := [Cond.methodLink RX8 224 yX8_paged, Cond.instanceMethod yX8_paged, Cond.selects RX8 yX8_paged yX8_paged, Cond.code yX8_paged cX8_paged 6 (some .long), Cond.methodLink RX8 227 yX8_bits, Cond.static yX8_bits, Cond.code yX8_bits cX8_bits 3 (some .int), Cond.methodLink RX8 230 yX8_isFirst, Cond.static yX8_isFirst, Cond.code yX8_isFirst cX8_isFirst 4 (some .boolean)]
def wsX8_splits : List Cond := .code yX8_splits cX8_splits 8 none :: ((wsX8_splits_r1 ++ (wsX8_splits_r2 ++ wsX8_splits_r3)) ++ wsX80)
def wsX8_round_r1 : List Cond := [Cond.fieldLink RX8 221 "RingPagesModel" "cuts" "I", Cond.fieldLink RX8 215 "RingPagesModel" "rows" "I", Cond.fieldLink RX8 53 "RingPagesModel" "row" "[I", Cond.methodLink RX8 233 yX8_splits, Cond.instanceMethod yX8_splits, Cond.selects RX8 yX8_splits yX8_splits, Cond.initialized RX8, Cond.code yX8_splits cX8_splits 8 none, Cond.fieldLink RX8 16 "RingPagesModel" "price" "[I", Cond.methodLink RX8 218 yX8_ranks, Cond.instanceMethod yX8_ranks, Cond.selects RX8 yX8_ranks yX8_ranks, Cond.code yX8_ranks cX8_ranks 4 none, Cond.fieldLink RX8 76 "RingPagesModel" "cells" "I", Cond.fieldLink RX8 40 "RingPagesModel" "trees" "[J", Cond.methodLink RX8 173 yX8_whereIs, Cond.instanceMethod yX8_whereIs, Cond.selects RX8 yX8_whereIs yX8_whereIs, Cond.code yX8_whereIs cX8_whereIs 7 (some .int), Cond.fieldLink RX8 19 "RingPagesModel" "now" "[I", Cond.fieldLink RX8 34 "RingPagesModel" "can" "[I", Cond.fieldLink RX8 37 "RingPagesModel" "next" "[I", Cond.methodLink RX8 170 yX8_allowed, Cond.instanceMethod yX8_allowed]
def wsX8_round_r2 : List Cond := [Cond.selects RX8 yX8_allowed yX8_allowed, Cond.code yX8_allowed cX8_allowed 5 (some .int), Cond.methodLink RX8 158 yX8_far, Cond.instanceMethod yX8_far, Cond.selects RX8 yX8_far yX8_far, Cond.code yX8_far cX8_far 7 (some .int), Cond.methodLink RX8 152 yX8_joined, Cond.instanceMethod yX8_joined, Cond.selects RX8 yX8_joined yX8_joined, Cond.code yX8_joined cX8_joined 4 (some .int), Cond.fieldLink RX8 13 "RingPagesModel" "weight" "[I", Cond.methodLink RX8 186 yX8_grows, Cond.instanceMethod yX8_grows, Cond.selects RX8 yX8_grows yX8_grows, Cond.code yX8_grows cX8_grows 6 none, Cond.fieldLink RX8 44 "RingPagesModel" "table" "[J", Cond.methodLink RX8 146 yX8_out, Cond.instanceMethod yX8_out, Cond.selects RX8 yX8_out yX8_out, Cond.code yX8_out cX8_out 4 (some .int), Cond.methodLink RX8 176 yX8_determinant, Cond.instanceMethod yX8_determinant, Cond.selects RX8 yX8_determinant yX8_determinant, Cond.code yX8_determinant cX8_determinant 7 (some .long)]
def wsX8_round_r3 : List Cond := [Cond.methodLink RX8 149 yX8_sum, Cond.instanceMethod yX8_sum, Cond.selects RX8 yX8_sum yX8_sum, Cond.code yX8_sum cX8_sum 2 (some .int), Cond.methodLink RX8 224 yX8_paged, Cond.instanceMethod yX8_paged, Cond.selects RX8 yX8_paged yX8_paged, Cond.code yX8_paged cX8_paged 6 (some .long), Cond.methodLink RX8 227 yX8_bits, Cond.static yX8_bits, Cond.code yX8_bits cX8_bits 3 (some .int), Cond.methodLink RX8 230 yX8_isFirst, Cond.static yX8_isFirst, Cond.code yX8_isFirst cX8_isFirst 4 (some .boolean)]
end
section
def wsX8_round : List Cond := .code yX8_round cX8_round 5 (some .int) :: ((wsX8_round_r1 ++ (wsX8_round_r2 ++ wsX8_round_r3)) ++ wsX80)
def wsX8_page_r1 : List Cond := [Cond.fieldLink RX8 53 "RingPagesModel" "row" "[I", Cond.fieldLink RX8 19 "RingPagesModel" "now" "[I", Cond.fieldLink RX8 221 "RingPagesModel" "cuts" "I", Cond.methodLink RX8 233 yX8_splits, Cond.instanceMethod yX8_splits, Cond.selects RX8 yX8_splits yX8_splits, Cond.initialized RX8, Cond.code yX8_splits cX8_splits 8 none, Cond.fieldLink RX8 215 "RingPagesModel" "rows" "I", Cond.fieldLink RX8 16 "RingPagesModel" "price" "[I", Cond.methodLink RX8 218 yX8_ranks, Cond.instanceMethod yX8_ranks, Cond.selects RX8 yX8_ranks yX8_ranks, Cond.code yX8_ranks cX8_ranks 4 none, Cond.fieldLink RX8 76 "RingPagesModel" "cells" "I", Cond.fieldLink RX8 40 "RingPagesModel" "trees" "[J", Cond.methodLink RX8 173 yX8_whereIs, Cond.instanceMethod yX8_whereIs, Cond.selects RX8 yX8_whereIs yX8_whereIs, Cond.code yX8_whereIs cX8_whereIs 7 (some .int), Cond.fieldLink RX8 34 "RingPagesModel" "can" "[I", Cond.fieldLink RX8 37 "RingPagesModel" "next" "[I", Cond.methodLink RX8 170 yX8_allowed, Cond.instanceMethod yX8_allowed]
def wsX8_page_r2 : List Cond := [Cond.selects RX8 yX8_allowed yX8_allowed, Cond.code yX8_allowed cX8_allowed 5 (some .int), Cond.methodLink RX8 158 yX8_far, Cond.instanceMethod yX8_far, Cond.selects RX8 yX8_far yX8_far, Cond.code yX8_far cX8_far 7 (some .int), Cond.methodLink RX8 152 yX8_joined, Cond.instanceMethod yX8_joined, Cond.selects RX8 yX8_joined yX8_joined, Cond.code yX8_joined cX8_joined 4 (some .int), Cond.fieldLink RX8 13 "RingPagesModel" "weight" "[I", Cond.methodLink RX8 186 yX8_grows, Cond.instanceMethod yX8_grows, Cond.selects RX8 yX8_grows yX8_grows, Cond.code yX8_grows cX8_grows 6 none, Cond.fieldLink RX8 44 "RingPagesModel" "table" "[J", Cond.methodLink RX8 146 yX8_out, Cond.instanceMethod yX8_out, Cond.selects RX8 yX8_out yX8_out, Cond.code yX8_out cX8_out 4 (some .int), Cond.methodLink RX8 176 yX8_determinant, Cond.instanceMethod yX8_determinant, Cond.selects RX8 yX8_determinant yX8_determinant, Cond.code yX8_determinant cX8_determinant 7 (some .long)]
def wsX8_page_r3 : List Cond := [Cond.methodLink RX8 149 yX8_sum, Cond.instanceMethod yX8_sum, Cond.selects RX8 yX8_sum yX8_sum, Cond.code yX8_sum cX8_sum 2 (some .int), Cond.methodLink RX8 224 yX8_paged, Cond.instanceMethod yX8_paged, Cond.selects RX8 yX8_paged yX8_paged, Cond.code yX8_paged cX8_paged 6 (some .long), Cond.methodLink RX8 227 yX8_bits, Cond.static yX8_bits, Cond.code yX8_bits cX8_bits 3 (some .int), Cond.methodLink RX8 230 yX8_isFirst, Cond.static yX8_isFirst, Cond.code yX8_isFirst cX8_isFirst 4 (some .boolean), Cond.methodLink RX8 139 yX8_keeps, Cond.instanceMethod yX8_keeps, Cond.selects RX8 yX8_keeps yX8_keeps, Cond.code yX8_keeps cX8_keeps 2 none, Cond.fieldLink RX8 82 "RingPagesModel" "changes" "I", Cond.fieldLink RX8 22 "RingPagesModel" "was" "[I", Cond.methodLink RX8 142 yX8_registers, Cond.static yX8_registers, Cond.code yX8_registers cX8_registers 1 none]
def wsX8_page : List Cond := .code yX8_page cX8_page 2 (some .int) :: ((wsX8_page_r1 ++ (wsX8_page_r2 ++ wsX8_page_r3)) ++ wsX80)
def wsX8_walk_r1 : List Cond := [Cond.fieldLink RX8 56 "RingPagesModel" "walker" "[I", Cond.fieldLink RX8 19 "RingPagesModel" "now" "[I", Cond.constantLong RX8 236 (7919), Cond.constantLong RX8 238 (6151), Cond.constantLong RX8 240 (65521), Cond.fieldLink RX8 76 "RingPagesModel" "cells" "I", Cond.fieldLink RX8 13 "RingPagesModel" "weight" "[I", Cond.methodLink RX8 98 yX8_isIn, Cond.static yX8_isIn, Cond.initialized RX8, Cond.code yX8_isIn cX8_isIn 3 (some .boolean), Cond.methodLink RX8 149 yX8_sum, Cond.instanceMethod yX8_sum, Cond.selects RX8 yX8_sum yX8_sum, Cond.code yX8_sum cX8_sum 2 (some .int), Cond.methodLink RX8 146 yX8_out, Cond.instanceMethod yX8_out, Cond.selects RX8 yX8_out yX8_out, Cond.code yX8_out cX8_out 4 (some .int), Cond.methodLink RX8 166 yX8_goes, Cond.instanceMethod yX8_goes, Cond.selects RX8 yX8_goes yX8_goes, Cond.code yX8_goes cX8_goes 3 (some .int), Cond.methodLink RX8 162 yX8_isDue]
def wsX8_walk_r2 : List Cond := [Cond.instanceMethod yX8_isDue, Cond.selects RX8 yX8_isDue yX8_isDue, Cond.code yX8_isDue cX8_isDue 2 (some .boolean), Cond.methodLink RX8 158 yX8_far, Cond.instanceMethod yX8_far, Cond.selects RX8 yX8_far yX8_far, Cond.code yX8_far cX8_far 7 (some .int), Cond.methodLink RX8 152 yX8_joined, Cond.instanceMethod yX8_joined, Cond.selects RX8 yX8_joined yX8_joined, Cond.code yX8_joined cX8_joined 4 (some .int), Cond.methodLink RX8 142 yX8_registers, Cond.static yX8_registers, Cond.code yX8_registers cX8_registers 1 none]
def wsX8_walk : List Cond := .code yX8_walk cX8_walk 13 (some .int) :: ((wsX8_walk_r1 ++ wsX8_walk_r2) ++ wsX80)
def wsX8_count : List Cond := .code yX8_count cX8_count 2 (some .int) :: ([.fieldLink RX8 76 "RingPagesModel" "cells" "I", .fieldLink RX8 79 "RingPagesModel" "joins" "I", .fieldLink RX8 19 "RingPagesModel" "now" "[I", .fieldLink RX8 16 "RingPagesModel" "price" "[I", .fieldLink RX8 82 "RingPagesModel" "changes" "I", .fieldLink RX8 85 "RingPagesModel" "length" "I"] ++ wsX80)
def wsJ9_max_7cf53 : List Cond := .code yJ9_max_7cf53 cJ9_max_7cf53 2 (some .int) :: ([])
def wsJ9_min_7cf53 : List Cond := .code yJ9_min_7cf53 cJ9_min_7cf53 2 (some .int) :: ([])
def wsL_law_r1 : List Cond := [Cond.classLink RL 7 RX7, Cond.instantiable RX7 10, Cond.initialized RX7, Cond.classLink RL 10 RX8, Cond.instantiable RX8 26, Cond.initialized RX8, Cond.methodLink RL 9 yX7_init, Cond.instanceMethod yX7_init, Cond.code yX7_init cX7_init 2 none, Cond.methodLink RX7 1 objectInit, Cond.instanceMethod objectInit, Cond.code objectInit ⟨#[0xb1]⟩ 1 none, Cond.classLink RX7 7 RX5, Cond.instantiable RX5 4, Cond.initialized RX5, Cond.fieldLink RX7 10 "RingPages" "text" "LRingPages$Text;", Cond.classLink RX7 16 RX2, Cond.instantiable RX2 3, Cond.initialized RX2, Cond.fieldLink RX7 19 "RingPages" "past" "LRingPages$Past;", Cond.classLink RX7 23 RX0, Cond.instantiable RX0 6, Cond.initialized RX0, Cond.fieldLink RX7 26 "RingPages" "longRun" "LRingPages$LongRun;"]
def wsL_law_r2 : List Cond := [Cond.classLink RX7 30 RX6, Cond.instantiable RX6 1, Cond.initialized RX6, Cond.fieldLink RX7 33 "RingPages" "whereabouts" "LRingPages$Whereabouts;", Cond.classLink RX7 37 RX3, Cond.instantiable RX3 4, Cond.initialized RX3, Cond.fieldLink RX7 40 "RingPages" "rounds" "LRingPages$Rounds;", Cond.classLink RX7 44 RX4, Cond.instantiable RX4 10, Cond.initialized RX4, Cond.fieldLink RX7 47 "RingPages" "walker" "LRingPages$State;", Cond.classLink RX7 51 RX1, Cond.instantiable RX1 12, Cond.initialized RX1, Cond.fieldLink RX7 54 "RingPages" "net" "LRingPages$Net;", Cond.fieldLink RX7 58 "RingPages" "state" "LRingPages$State;", Cond.fieldLink RX7 61 "RingPages" "draftNet" "LRingPages$Net;", Cond.fieldLink RX7 64 "RingPages" "draftState" "LRingPages$State;", Cond.fieldLink RX7 87 "RingPages$Text" "length" "I", Cond.instanceMethod yX5_init, Cond.code yX5_init cX5_init 1 none, Cond.methodLink RX5 3 objectInit, Cond.arrayClass .int]
def wsL_law_r3 : List Cond := [Cond.fieldLink RX5 9 "RingPages$Text" "letters" "[I", Cond.fieldLink RX5 15 "RingPages$Text" "numbers" "[I", Cond.methodLink RX7 18 yX2_init, Cond.instanceMethod yX2_init, Cond.code yX2_init cX2_init 2 none, Cond.methodLink RX2 3 objectInit, Cond.classLink RX2 9 RX4, Cond.fieldLink RX2 11 "RingPages$Past" "kept" "[LRingPages$State;", Cond.instanceMethod yX4_init, Cond.code yX4_init cX4_init 1 none, Cond.methodLink RX4 3 objectInit, Cond.fieldLink RX4 9 "RingPages$State" "stay" "[I", Cond.fieldLink RX4 15 "RingPages$State" "area" "[I", Cond.instanceMethod yX0_init, Cond.code yX0_init cX0_init 1 none, Cond.methodLink RX0 3 objectInit, Cond.arrayClass .long, Cond.fieldLink RX0 9 "RingPages$LongRun" "above" "[J", Cond.fieldLink RX0 15 "RingPages$LongRun" "best" "[I", Cond.fieldLink RX0 19 "RingPages$LongRun" "tried" "[I", Cond.instanceMethod yX6_init, Cond.code yX6_init cX6_init 1 none, Cond.methodLink RX6 3 objectInit, Cond.fieldLink RX6 9 "RingPages$Whereabouts" "reached" "[I"]
def wsL_law_r4 : List Cond := [Cond.instanceMethod yX3_init, Cond.code yX3_init cX3_init 1 none, Cond.methodLink RX3 3 objectInit, Cond.fieldLink RX3 9 "RingPages$Rounds" "row" "[I", Cond.instanceMethod yX1_init, Cond.code yX1_init cX1_init 1 none, Cond.methodLink RX1 3 objectInit, Cond.classLink RX1 9 "[[I", Cond.fieldLink RX1 11 "RingPages$Net" "weight" "[[I", Cond.fieldLink RX1 16 "RingPages$Net" "wide" "[[I", Cond.fieldLink RX1 19 "RingPages$Net" "near" "[I", Cond.fieldLink RX1 23 "RingPages$Net" "out" "[I", Cond.fieldLink RX1 26 "RingPages$Net" "trees" "[J", Cond.fieldLink RX1 30 "RingPages$Net" "minors" "[J", Cond.methodLink RX7 69 yJ0_length_8abf5, Cond.instanceMethod yJ0_length_8abf5, Cond.selects RJ0 yJ0_length_8abf5 yJ0_length_8abf5, Cond.initialized RJ0, Cond.code yJ0_length_8abf5 cJ0_length_8abf5 1 (some .int), Cond.fieldLink RJ0 9 "java/lang/String" "value" "[B", Cond.methodLink RJ0 335 yJ0_coder_7d493, Cond.instanceMethod yJ0_coder_7d493, Cond.selects RJ0 yJ0_coder_7d493 yJ0_coder_7d493, Cond.code yJ0_coder_7d493 cJ0_coder_7d493 1 (some .byte)]
def wsL_law_r5 : List Cond := [Cond.fieldLink RJ0 38 "java/lang/String" "COMPACT_STRINGS" "Z", Cond.fieldLink RJ0 15 "java/lang/String" "coder" "B", Cond.methodLink RX7 75 yJ0_charAt_5068e, Cond.instanceMethod yJ0_charAt_5068e, Cond.selects RJ0 yJ0_charAt_5068e yJ0_charAt_5068e, Cond.code yJ0_charAt_5068e cJ0_charAt_5068e 2 (some .char), Cond.methodLink RJ0 492 yJ0_isLatin1_aae02, Cond.instanceMethod yJ0_isLatin1_aae02, Cond.selects RJ0 yJ0_isLatin1_aae02 yJ0_isLatin1_aae02, Cond.code yJ0_isLatin1_aae02 cJ0_isLatin1_aae02 1 (some .boolean), Cond.methodLink RJ0 495 yJ1_charAt_3b067, Cond.static yJ1_charAt_3b067, Cond.initialized RJ1, Cond.code yJ1_charAt_3b067 cJ1_charAt_3b067 2 (some .char), Cond.methodLink RJ1 9 yJ0_checkIndex_df160, Cond.static yJ0_checkIndex_df160, Cond.code yJ0_checkIndex_df160 cJ0_checkIndex_df160 2 none, Cond.fieldLink RJ0 1053 "jdk/internal/util/Preconditions" "SIOOBE_FORMATTER" "Ljava/util/function/BiFunction;", Cond.methodLink RJ0 1059 yJ3_checkIndex_8e157, Cond.static yJ3_checkIndex_8e157, Cond.initialized RJ3, Cond.code yJ3_checkIndex_8e157 cJ3_checkIndex_8e157 3 (some .int), Cond.methodLink RJ0 498 yJ2_charAt_3b067, Cond.static yJ2_charAt_3b067]
def wsL_law_r6 : List Cond := [Cond.initialized RJ2, Cond.code yJ2_charAt_3b067 cJ2_charAt_3b067 2 (some .char), Cond.methodLink RJ2 67 yJ2_checkIndex_2214a, Cond.static yJ2_checkIndex_2214a, Cond.code yJ2_checkIndex_2214a cJ2_checkIndex_2214a 2 none, Cond.methodLink RJ2 48 yJ2_length_9d52b, Cond.static yJ2_length_9d52b, Cond.code yJ2_length_9d52b cJ2_length_9d52b 1 (some .int), Cond.methodLink RJ2 414 yJ0_checkIndex_df160, Cond.methodLink RJ2 71 yJ2_getChar_3b067, Cond.static yJ2_getChar_3b067, Cond.code yJ2_getChar_3b067 cJ2_getChar_3b067 2 (some .char), Cond.fieldLink RJ2 44 "java/lang/StringUTF16" "$assertionsDisabled" "Z", Cond.fieldLink RJ2 59 "java/lang/StringUTF16" "HI_BYTE_SHIFT" "I", Cond.fieldLink RJ2 63 "java/lang/StringUTF16" "LO_BYTE_SHIFT" "I", Cond.methodLink RX7 79 yX5_append, Cond.instanceMethod yX5_append, Cond.selects RX5 yX5_append yX5_append, Cond.code yX5_append cX5_append 2 (some .boolean), Cond.fieldLink RX5 18 "RingPages$Text" "length" "I", Cond.methodLink RX7 83 yX7_layText, Cond.instanceMethod yX7_layText, Cond.selects RX7 yX7_layText yX7_layText, Cond.code yX7_layText cX7_layText 3 (some .boolean)]
def wsL_law_r7 : List Cond := [Cond.fieldLink RX7 103 "RingPages$Past" "held" "I", Cond.methodLink RX7 90 yX5_readInto, Cond.instanceMethod yX5_readInto, Cond.selects RX5 yX5_readInto yX5_readInto, Cond.code yX5_readInto cX5_readInto 5 (some .int), Cond.fieldLink RX5 32 "RingPages$Text" "place" "I", Cond.methodLink RX5 22 yX1_begin, Cond.instanceMethod yX1_begin, Cond.selects RX1 yX1_begin yX1_begin, Cond.code yX1_begin cX1_begin 4 none, Cond.fieldLink RX1 33 "RingPages$Net" "cells" "I", Cond.fieldLink RX1 37 "RingPages$Net" "joins" "I", Cond.methodLink RX1 40 yX1_price, Cond.instanceMethod yX1_price, Cond.selects RX1 yX1_price yX1_price, Cond.code yX1_price cX1_price 5 none, Cond.fieldLink RX1 44 "RingPages$Net" "mostRounds" "I", Cond.fieldLink RX1 47 "RingPages$Net" "pageCost" "I", Cond.fieldLink RX1 50 "RingPages$Net" "updateCost" "I", Cond.fieldLink RX1 53 "RingPages$Net" "callChance" "I", Cond.methodLink RX5 28 yX4_begin, Cond.instanceMethod yX4_begin, Cond.selects RX4 yX4_begin yX4_begin, Cond.code yX4_begin cX4_begin 2 none]
def wsL_law_r8 : List Cond := [Cond.fieldLink RX4 18 "RingPages$State" "kind" "I", Cond.fieldLink RX4 22 "RingPages$State" "value" "I", Cond.fieldLink RX4 25 "RingPages$State" "cell" "I", Cond.fieldLink RX4 28 "RingPages$State" "updates" "I", Cond.fieldLink RX4 31 "RingPages$State" "paged" "I", Cond.methodLink RX4 34 yX4_register, Cond.instanceMethod yX4_register, Cond.selects RX4 yX4_register yX4_register, Cond.code yX4_register cX4_register 1 none, Cond.fieldLink RX4 43 "RingPages$State" "home" "I", Cond.fieldLink RX4 46 "RingPages$State" "moves" "I", Cond.fieldLink RX4 49 "RingPages$State" "ticks" "I", Cond.methodLink RX5 35 yX5_readItem, Cond.instanceMethod yX5_readItem, Cond.selects RX5 yX5_readItem yX5_readItem, Cond.code yX5_readItem cX5_readItem 5 (some .boolean), Cond.fieldLink RX5 43 "RingPages$Net" "cells" "I", Cond.fieldLink RX5 61 "RingPages$State" "stay" "[I", Cond.fieldLink RX5 68 "RingPages$State" "area" "[I", Cond.methodLink RX5 39 yX5_letterHere, Cond.instanceMethod yX5_letterHere, Cond.selects RX5 yX5_letterHere yX5_letterHere, Cond.code yX5_letterHere cX5_letterHere 1 (some .int), Cond.methodLink RX5 46 yX5_numbersBehind]
def wsL_law_r9 : List Cond := [Cond.instanceMethod yX5_numbersBehind, Cond.selects RX5 yX5_numbersBehind yX5_numbersBehind, Cond.code yX5_numbersBehind cX5_numbersBehind 2 (some .int), Cond.methodLink RX5 50 yX5_readNumbers, Cond.instanceMethod yX5_readNumbers, Cond.selects RX5 yX5_readNumbers yX5_readNumbers, Cond.code yX5_readNumbers cX5_readNumbers 3 (some .boolean), Cond.methodLink RX5 102 yX5_readNumber, Cond.instanceMethod yX5_readNumber, Cond.selects RX5 yX5_readNumber yX5_readNumber, Cond.code yX5_readNumber cX5_readNumber 3 (some .int), Cond.methodLink RX5 105 yX5_figureHere, Cond.instanceMethod yX5_figureHere, Cond.selects RX5 yX5_figureHere yX5_figureHere, Cond.code yX5_figureHere cX5_figureHere 2 (some .int), Cond.methodLink RX5 54 yX5_takeCells, Cond.instanceMethod yX5_takeCells, Cond.selects RX5 yX5_takeCells yX5_takeCells, Cond.code yX5_takeCells cX5_takeCells 2 (some .boolean), Cond.methodLink RX5 58 yX5_takeJoin, Cond.instanceMethod yX5_takeJoin, Cond.selects RX5 yX5_takeJoin yX5_takeJoin, Cond.code yX5_takeJoin cX5_takeJoin 4 (some .boolean), Cond.fieldLink RX5 78 "RingPages$Net" "weight" "[[I"]
def wsL_law_r10 : List Cond := [Cond.methodLink RX5 82 yX5_isWeight, Cond.instanceMethod yX5_isWeight, Cond.selects RX5 yX5_isWeight yX5_isWeight, Cond.code yX5_isWeight cX5_isWeight 2 (some .boolean), Cond.methodLink RX5 85 yX1_join, Cond.instanceMethod yX1_join, Cond.selects RX1 yX1_join yX1_join, Cond.code yX1_join cX1_join 5 none, Cond.methodLink RX1 56 yX1_lead, Cond.instanceMethod yX1_lead, Cond.selects RX1 yX1_lead yX1_lead, Cond.code yX1_lead cX1_lead 4 none, Cond.methodLink RX5 64 yX5_takeCellNumber, Cond.instanceMethod yX5_takeCellNumber, Cond.selects RX5 yX5_takeCellNumber yX5_takeCellNumber, Cond.code yX5_takeCellNumber cX5_takeCellNumber 4 (some .boolean), Cond.methodLink RX5 71 yX5_takeLaw, Cond.instanceMethod yX5_takeLaw, Cond.selects RX5 yX5_takeLaw yX5_takeLaw, Cond.code yX5_takeLaw cX5_takeLaw 2 (some .boolean), Cond.fieldLink RX5 93 "RingPages$State" "kind" "I", Cond.fieldLink RX5 96 "RingPages$State" "value" "I", Cond.static yX7_isLaw, Cond.code yX7_isLaw cX7_isLaw 2 (some .boolean)]
def wsL_law_r11 : List Cond := [Cond.methodLink RX5 75 yX5_takePrices, Cond.instanceMethod yX5_takePrices, Cond.selects RX5 yX5_takePrices yX5_takePrices, Cond.code yX5_takePrices cX5_takePrices 2 (some .boolean), Cond.methodLink RX5 99 yX1_price, Cond.methodLink RX7 97 yX1_isWhole, Cond.instanceMethod yX1_isWhole, Cond.selects RX1 yX1_isWhole yX1_isWhole, Cond.code yX1_isWhole cX1_isWhole 4 (some .boolean), Cond.methodLink RX1 60 Lib.Math.min.name, Cond.static Lib.Math.min.name, Cond.initialized "java/lang/Math", Cond.code Lib.Math.min.name Lib.Math.min.code 2 (some .int), Cond.methodLink RX7 100 yX1_growTrees, Cond.instanceMethod yX1_growTrees, Cond.selects RX1 yX1_growTrees yX1_growTrees, Cond.code yX1_growTrees cX1_growTrees 2 none, Cond.methodLink RX1 66 yX1_treesTo, Cond.instanceMethod yX1_treesTo, Cond.selects RX1 yX1_treesTo yX1_treesTo, Cond.code yX1_treesTo cX1_treesTo 4 (some .long), Cond.methodLink RX1 70 yJ6_bitCount_0f7a4, Cond.static yJ6_bitCount_0f7a4, Cond.initialized RJ6]
def wsL_law_r12 : List Cond := [Cond.code yJ6_bitCount_0f7a4 cJ6_bitCount_0f7a4 1 (some .int), Cond.constant RJ6 265 (1431655765), Cond.constant RJ6 266 (858993459), Cond.constant RJ6 267 (252645135), Cond.methodLink RX1 76 yX1_rowOf, Cond.instanceMethod yX1_rowOf, Cond.selects RX1 yX1_rowOf yX1_rowOf, Cond.code yX1_rowOf cX1_rowOf 3 (some .int), Cond.methodLink RX1 79 yX1_minorOf, Cond.instanceMethod yX1_minorOf, Cond.selects RX1 yX1_minorOf yX1_minorOf, Cond.code yX1_minorOf cX1_minorOf 9 (some .long), Cond.static yX7_holds, Cond.code yX7_holds cX7_holds 2 (some .boolean), Cond.methodLink RX7 106 yX0_reckon, Cond.instanceMethod yX0_reckon, Cond.selects RX0 yX0_reckon yX0_reckon, Cond.code yX0_reckon cX0_reckon 4 none, Cond.fieldLink RX0 22 "RingPages$LongRun" "below" "J", Cond.fieldLink RX0 26 "RingPages$Net" "cells" "I", Cond.fieldLink RX0 32 "RingPages$State" "stay" "[I", Cond.fieldLink RX0 37 "RingPages$Net" "out" "[I", Cond.fieldLink RX0 40 "RingPages$Net" "trees" "[J", Cond.fieldLink RX0 43 "RingPages$LongRun" "bestKnown" "Z"]
def wsL_law_r13 : List Cond := [Cond.methodLink RL 12 yX8_init, Cond.instanceMethod yX8_init, Cond.code yX8_init cX8_init 1 none, Cond.methodLink RX8 1 objectInit, Cond.fieldLink RX8 7 "RingPagesModel" "text" "[I", Cond.fieldLink RX8 13 "RingPagesModel" "weight" "[I", Cond.fieldLink RX8 16 "RingPagesModel" "price" "[I", Cond.fieldLink RX8 19 "RingPagesModel" "now" "[I", Cond.fieldLink RX8 22 "RingPagesModel" "was" "[I", Cond.fieldLink RX8 25 "RingPagesModel" "readWeight" "[I", Cond.fieldLink RX8 28 "RingPagesModel" "readPrice" "[I", Cond.fieldLink RX8 31 "RingPagesModel" "read" "[I", Cond.fieldLink RX8 34 "RingPagesModel" "can" "[I", Cond.fieldLink RX8 37 "RingPagesModel" "next" "[I", Cond.fieldLink RX8 40 "RingPagesModel" "trees" "[J", Cond.fieldLink RX8 44 "RingPagesModel" "table" "[J", Cond.fieldLink RX8 47 "RingPagesModel" "tried" "[I", Cond.fieldLink RX8 50 "RingPagesModel" "best" "[I", Cond.fieldLink RX8 53 "RingPagesModel" "row" "[I", Cond.fieldLink RX8 56 "RingPagesModel" "walker" "[I", Cond.fieldLink RX8 62 "RingPagesModel" "readCells" "I", Cond.methodLink RX8 59 yX8_clears, Cond.instanceMethod yX8_clears, Cond.selects RX8 yX8_clears yX8_clears]
def wsL_law_r14 : List Cond := [Cond.code yX8_clears cX8_clears 2 none, Cond.fieldLink RX8 73 "RingPagesModel" "readJoins" "I", Cond.methodLink RX8 66 yX8_joinOf, Cond.instanceMethod yX8_joinOf, Cond.selects RX8 yX8_joinOf yX8_joinOf, Cond.code yX8_joinOf cX8_joinOf 5 none, Cond.methodLink RX8 70 yX8_takes, Cond.instanceMethod yX8_takes, Cond.selects RX8 yX8_takes yX8_takes, Cond.code yX8_takes cX8_takes 2 none, Cond.fieldLink RX8 76 "RingPagesModel" "cells" "I", Cond.fieldLink RX8 79 "RingPagesModel" "joins" "I", Cond.fieldLink RX8 82 "RingPagesModel" "changes" "I", Cond.methodLink RL 13 yX7_write, Cond.instanceMethod yX7_write, Cond.selects RX7 yX7_write yX7_write, Cond.code yX7_write cX7_write 2 (some .int), Cond.methodLink RL 17 yX8_write, Cond.instanceMethod yX8_write, Cond.selects RX8 yX8_write yX8_write, Cond.code yX8_write cX8_write 2 (some .int), Cond.fieldLink RX8 85 "RingPagesModel" "length" "I", Cond.methodLink RL 18 yX7_wipe, Cond.instanceMethod yX7_wipe]
def wsL_law_r15 : List Cond := [Cond.selects RX7 yX7_wipe yX7_wipe, Cond.code yX7_wipe cX7_wipe 2 (some .int), Cond.methodLink RL 22 yX8_wipe, Cond.instanceMethod yX8_wipe, Cond.selects RX8 yX8_wipe yX8_wipe, Cond.code yX8_wipe cX8_wipe 2 (some .int), Cond.methodLink RL 23 yX7_fault, Cond.instanceMethod yX7_fault, Cond.selects RX7 yX7_fault yX7_fault, Cond.code yX7_fault cX7_fault 1 (some .int), Cond.methodLink RL 26 yX8_fault, Cond.instanceMethod yX8_fault, Cond.selects RX8 yX8_fault yX8_fault, Cond.code yX8_fault cX8_fault 1 (some .int), Cond.methodLink RX8 128 yX8_reads, Cond.instanceMethod yX8_reads, Cond.selects RX8 yX8_reads yX8_reads, Cond.code yX8_reads cX8_reads 2 (some .int), Cond.fieldLink RX8 91 "RingPagesModel" "ends" "I", Cond.methodLink RX8 125 yX8_readsItem, Cond.instanceMethod yX8_readsItem, Cond.selects RX8 yX8_readsItem yX8_readsItem, Cond.code yX8_readsItem cX8_readsItem 4 (some .boolean), Cond.fieldLink RX8 88 "RingPagesModel" "value" "I"]
def wsL_law_r16 : List Cond := [Cond.methodLink RX8 102 yX8_number, Cond.instanceMethod yX8_number, Cond.selects RX8 yX8_number yX8_number, Cond.code yX8_number cX8_number 4 (some .boolean), Cond.methodLink RX8 94 yX8_letterAt, Cond.instanceMethod yX8_letterAt, Cond.selects RX8 yX8_letterAt yX8_letterAt, Cond.code yX8_letterAt cX8_letterAt 2 (some .int), Cond.methodLink RX8 98 yX8_isIn, Cond.static yX8_isIn, Cond.code yX8_isIn cX8_isIn 3 (some .boolean), Cond.methodLink RX8 112 yX8_readsJoin, Cond.instanceMethod yX8_readsJoin, Cond.selects RX8 yX8_readsJoin yX8_readsJoin, Cond.code yX8_readsJoin cX8_readsJoin 5 (some .boolean), Cond.methodLink RX8 105 yX8_more, Cond.instanceMethod yX8_more, Cond.selects RX8 yX8_more yX8_more, Cond.code yX8_more cX8_more 3 (some .boolean), Cond.methodLink RX8 116 yX8_readsCell, Cond.instanceMethod yX8_readsCell, Cond.selects RX8 yX8_readsCell yX8_readsCell, Cond.code yX8_readsCell cX8_readsCell 5 (some .boolean), Cond.methodLink RX8 119 yX8_readsLaw]
def wsL_law_r17 : List Cond := [Cond.instanceMethod yX8_readsLaw, Cond.selects RX8 yX8_readsLaw yX8_readsLaw, Cond.code yX8_readsLaw cX8_readsLaw 4 (some .boolean), Cond.methodLink RX8 109 yX8_isLaw, Cond.static yX8_isLaw, Cond.code yX8_isLaw cX8_isLaw 2 (some .boolean), Cond.methodLink RX8 122 yX8_readsPrice, Cond.instanceMethod yX8_readsPrice, Cond.selects RX8 yX8_readsPrice yX8_readsPrice, Cond.code yX8_readsPrice cX8_readsPrice 5 (some .boolean), Cond.methodLink RL 27 yX7_lay, Cond.instanceMethod yX7_lay, Cond.selects RX7 yX7_lay yX7_lay, Cond.code yX7_lay cX7_lay 1 (some .int), Cond.fieldLink RX7 94 "RingPages$Net" "cells" "I", Cond.methodLink RL 30 yX8_lay, Cond.instanceMethod yX8_lay, Cond.selects RX8 yX8_lay yX8_lay, Cond.code yX8_lay cX8_lay 1 (some .int), Cond.methodLink RX8 132 yX8_hang, Cond.instanceMethod yX8_hang, Cond.selects RX8 yX8_hang yX8_hang, Cond.code yX8_hang cX8_hang 4 (some .boolean), Cond.methodLink RL 31 yX7_set]
def wsL_law_r18 : List Cond := [Cond.instanceMethod yX7_set, Cond.selects RX7 yX7_set yX7_set, Cond.code yX7_set cX7_set 5 (some .int), Cond.fieldLink RX7 113 "RingPages$State" "stay" "[I", Cond.fieldLink RX7 117 "RingPages$State" "area" "[I", Cond.methodLink RX7 110 yX7_isCell, Cond.instanceMethod yX7_isCell, Cond.selects RX7 yX7_isCell yX7_isCell, Cond.code yX7_isCell cX7_isCell 2 (some .boolean), Cond.methodLink RX7 120 yX2_keep, Cond.instanceMethod yX2_keep, Cond.selects RX2 yX2_keep yX2_keep, Cond.code yX2_keep cX2_keep 2 none, Cond.fieldLink RX2 18 "RingPages$Past" "next" "I", Cond.fieldLink RX2 26 "RingPages$Past" "held" "I", Cond.methodLink RX2 29 Lib.Math.min.name, Cond.methodLink RX2 22 yX4_copyFrom, Cond.instanceMethod yX4_copyFrom, Cond.selects RX4 yX4_copyFrom yX4_copyFrom, Cond.code yX4_copyFrom cX4_copyFrom 2 none, Cond.methodLink RX4 37 arraycopyName, Cond.native arraycopyName, Cond.static arraycopyName, Cond.initialized "java/lang/System"]
def wsL_law_r19 : List Cond := [Cond.methodLink RX7 124 yX4_register, Cond.methodLink RL 35 yX8_set, Cond.instanceMethod yX8_set, Cond.selects RX8 yX8_set yX8_set, Cond.code yX8_set cX8_set 5 (some .int), Cond.methodLink RX8 136 yX8_isCell, Cond.instanceMethod yX8_isCell, Cond.selects RX8 yX8_isCell yX8_isCell, Cond.code yX8_isCell cX8_isCell 2 (some .boolean), Cond.methodLink RX8 139 yX8_keeps, Cond.instanceMethod yX8_keeps, Cond.selects RX8 yX8_keeps yX8_keeps, Cond.code yX8_keeps cX8_keeps 2 none, Cond.methodLink RX8 142 yX8_registers, Cond.static yX8_registers, Cond.code yX8_registers cX8_registers 1 none, Cond.methodLink RL 36 yX7_law, Cond.instanceMethod yX7_law, Cond.selects RX7 yX7_law yX7_law, Cond.code yX7_law cX7_law 4 (some .int), Cond.fieldLink RX7 131 "RingPages$State" "kind" "I", Cond.fieldLink RX7 134 "RingPages$State" "value" "I", Cond.methodLink RX7 127 yX7_isLaw, Cond.methodLink RL 40 yX8_law]
def wsL_law_r20 : List Cond := [Cond.instanceMethod yX8_law, Cond.selects RX8 yX8_law yX8_law, Cond.code yX8_law cX8_law 4 (some .int), Cond.methodLink RL 41 yX7_give, Cond.instanceMethod yX7_give, Cond.selects RX7 yX7_give yX7_give, Cond.code yX7_give cX7_give 3 (some .int), Cond.fieldLink RX7 141 "RingPages$LongRun" "best" "[I", Cond.methodLink RX7 137 yX0_findBest, Cond.instanceMethod yX0_findBest, Cond.selects RX0 yX0_findBest yX0_findBest, Cond.code yX0_findBest cX0_findBest 5 none, Cond.fieldLink RX0 79 "RingPages$LongRun" "leastExpense" "J", Cond.methodLink RX0 68 yX0_expense, Cond.instanceMethod yX0_expense, Cond.selects RX0 yX0_expense yX0_expense, Cond.code yX0_expense cX0_expense 6 (some .long), Cond.fieldLink RX0 55 "RingPages$Net" "updateCost" "I", Cond.fieldLink RX0 62 "RingPages$Net" "pageCost" "I", Cond.fieldLink RX0 65 "RingPages$Net" "callChance" "I", Cond.static yX7_sameArea, Cond.code yX7_sameArea cX7_sameArea 5 (some .int), Cond.methodLink RX0 58 yX0_crosses, Cond.instanceMethod yX0_crosses]
def wsL_law_r21 : List Cond := [Cond.selects RX0 yX0_crosses yX0_crosses, Cond.code yX0_crosses cX0_crosses 7 (some .long), Cond.fieldLink RX0 47 "RingPages$Net" "weight" "[[I", Cond.methodLink RX0 71 yX0_takeTried, Cond.instanceMethod yX0_takeTried, Cond.selects RX0 yX0_takeTried yX0_takeTried, Cond.code yX0_takeTried cX0_takeTried 3 none, Cond.methodLink RX0 82 arraycopyName, Cond.methodLink RX0 75 yX0_nextTried, Cond.instanceMethod yX0_nextTried, Cond.selects RX0 yX0_nextTried yX0_nextTried, Cond.code yX0_nextTried cX0_nextTried 3 (some .boolean), Cond.methodLink RX0 88 yX0_highestAhead, Cond.instanceMethod yX0_highestAhead, Cond.selects RX0 yX0_highestAhead yX0_highestAhead, Cond.code yX0_highestAhead cX0_highestAhead 4 (some .int), Cond.methodLink RX0 92 Lib.Math.max.name, Cond.static Lib.Math.max.name, Cond.code Lib.Math.max.name Lib.Math.max.code 2 (some .int), Cond.methodLink RL 44 yX8_give, Cond.instanceMethod yX8_give, Cond.selects RX8 yX8_give yX8_give, Cond.code yX8_give cX8_give 3 (some .int), Cond.methodLink RX8 212 yX8_finds]
def wsL_law_r22 : List Cond := [Cond.instanceMethod yX8_finds, Cond.selects RX8 yX8_finds yX8_finds, Cond.code yX8_finds cX8_finds 6 (some .long), Cond.methodLink RX8 186 yX8_grows, Cond.instanceMethod yX8_grows, Cond.selects RX8 yX8_grows yX8_grows, Cond.code yX8_grows cX8_grows 6 none, Cond.methodLink RX8 146 yX8_out, Cond.instanceMethod yX8_out, Cond.selects RX8 yX8_out yX8_out, Cond.code yX8_out cX8_out 4 (some .int), Cond.methodLink RX8 176 yX8_determinant, Cond.instanceMethod yX8_determinant, Cond.selects RX8 yX8_determinant yX8_determinant, Cond.code yX8_determinant cX8_determinant 7 (some .long), Cond.methodLink RX8 203 yX8_expense, Cond.instanceMethod yX8_expense, Cond.selects RX8 yX8_expense yX8_expense, Cond.code yX8_expense cX8_expense 7 (some .long), Cond.constantLong RX8 197 (100), Cond.methodLink RX8 199 yX8_crossing, Cond.instanceMethod yX8_crossing, Cond.selects RX8 yX8_crossing yX8_crossing, Cond.code yX8_crossing cX8_crossing 8 (some .long)]
def wsL_law_r23 : List Cond := [Cond.methodLink RX8 149 yX8_sum, Cond.instanceMethod yX8_sum, Cond.selects RX8 yX8_sum yX8_sum, Cond.code yX8_sum cX8_sum 2 (some .int), Cond.methodLink RX8 209 yX8_goesOn, Cond.instanceMethod yX8_goesOn, Cond.selects RX8 yX8_goesOn yX8_goesOn, Cond.code yX8_goesOn cX8_goesOn 4 (some .boolean), Cond.methodLink RL 45 yX7_undo, Cond.instanceMethod yX7_undo, Cond.selects RX7 yX7_undo yX7_undo, Cond.code yX7_undo cX7_undo 1 (some .int), Cond.methodLink RX7 144 yX2_bringBack, Cond.instanceMethod yX2_bringBack, Cond.selects RX2 yX2_bringBack yX2_bringBack, Cond.code yX2_bringBack cX2_bringBack 2 (some .boolean), Cond.methodLink RL 48 yX8_undo, Cond.instanceMethod yX8_undo, Cond.selects RX8 yX8_undo yX8_undo, Cond.code yX8_undo cX8_undo 2 (some .int), Cond.methodLink RL 49 yX7_cell, Cond.instanceMethod yX7_cell, Cond.selects RX7 yX7_cell yX7_cell, Cond.code yX7_cell cX7_cell 3 (some .int)]
def wsL_law_r24 : List Cond := [Cond.fieldLink RX7 148 "RingPages$Net" "out" "[I", Cond.fieldLink RX7 151 "RingPages$Net" "near" "[I", Cond.methodLink RX7 154 yX7_sameArea, Cond.methodLink RL 52 yX8_cell, Cond.instanceMethod yX8_cell, Cond.selects RX8 yX8_cell yX8_cell, Cond.code yX8_cell cX8_cell 3 (some .int), Cond.methodLink RX8 152 yX8_joined, Cond.instanceMethod yX8_joined, Cond.selects RX8 yX8_joined yX8_joined, Cond.code yX8_joined cX8_joined 4 (some .int), Cond.methodLink RX8 155 yX8_likeArea, Cond.instanceMethod yX8_likeArea, Cond.selects RX8 yX8_likeArea yX8_likeArea, Cond.code yX8_likeArea cX8_likeArea 4 (some .int), Cond.methodLink RL 53 yX7_weight, Cond.instanceMethod yX7_weight, Cond.selects RX7 yX7_weight yX7_weight, Cond.code yX7_weight cX7_weight 3 (some .int), Cond.fieldLink RX7 158 "RingPages$Net" "weight" "[[I", Cond.methodLink RL 56 yX8_weight, Cond.instanceMethod yX8_weight, Cond.selects RX8 yX8_weight yX8_weight, Cond.code yX8_weight cX8_weight 3 (some .int)]
def wsL_law_r25 : List Cond := [Cond.methodLink RL 57 yX7_wide, Cond.instanceMethod yX7_wide, Cond.selects RX7 yX7_wide yX7_wide, Cond.code yX7_wide cX7_wide 3 (some .int), Cond.fieldLink RX7 162 "RingPages$Net" "wide" "[[I", Cond.methodLink RL 60 yX8_wide, Cond.instanceMethod yX8_wide, Cond.selects RX8 yX8_wide yX8_wide, Cond.code yX8_wide cX8_wide 3 (some .int), Cond.methodLink RX8 158 yX8_far, Cond.instanceMethod yX8_far, Cond.selects RX8 yX8_far yX8_far, Cond.code yX8_far cX8_far 7 (some .int), Cond.methodLink RL 61 yX7_tick, Cond.instanceMethod yX7_tick, Cond.selects RX7 yX7_tick yX7_tick, Cond.code yX7_tick cX7_tick 2 (some .int), Cond.methodLink RX7 165 yX4_canGo, Cond.instanceMethod yX4_canGo, Cond.selects RX4 yX4_canGo yX4_canGo, Cond.code yX4_canGo cX4_canGo 3 (some .boolean), Cond.fieldLink RX4 52 "RingPages$Net" "near" "[I", Cond.methodLink RX7 169 yX4_go, Cond.instanceMethod yX4_go]
def wsL_law_r26 : List Cond := [Cond.selects RX4 yX4_go yX4_go, Cond.code yX4_go cX4_go 3 (some .boolean), Cond.methodLink RX4 61 yX4_isDue, Cond.instanceMethod yX4_isDue, Cond.selects RX4 yX4_isDue yX4_isDue, Cond.code yX4_isDue cX4_isDue 2 (some .boolean), Cond.methodLink RX4 65 yX4_isOutside, Cond.instanceMethod yX4_isOutside, Cond.selects RX4 yX4_isOutside yX4_isOutside, Cond.code yX4_isOutside cX4_isOutside 3 (some .boolean), Cond.fieldLink RX4 69 "RingPages$Net" "wide" "[[I", Cond.methodLink RL 64 yX8_tick, Cond.instanceMethod yX8_tick, Cond.selects RX8 yX8_tick yX8_tick, Cond.code yX8_tick cX8_tick 3 (some .int), Cond.methodLink RX8 166 yX8_goes, Cond.instanceMethod yX8_goes, Cond.selects RX8 yX8_goes yX8_goes, Cond.code yX8_goes cX8_goes 3 (some .int), Cond.methodLink RX8 162 yX8_isDue, Cond.instanceMethod yX8_isDue, Cond.selects RX8 yX8_isDue yX8_isDue, Cond.code yX8_isDue cX8_isDue 2 (some .boolean), Cond.methodLink RL 65 yX7_page]
def wsL_law_r27 : List Cond := [Cond.instanceMethod yX7_page, Cond.selects RX7 yX7_page yX7_page, Cond.code yX7_page cX7_page 4 (some .int), Cond.fieldLink RX7 175 "RingPages$Rounds" "many" "I", Cond.fieldLink RX7 187 "RingPages$State" "cell" "I", Cond.fieldLink RX7 193 "RingPages$State" "paged" "I", Cond.methodLink RX7 172 yX7_seek, Cond.instanceMethod yX7_seek, Cond.selects RX7 yX7_seek yX7_seek, Cond.code yX7_seek cX7_seek 1 none, Cond.fieldLink RX7 217 "RingPages$LongRun" "above" "[J", Cond.fieldLink RX7 225 "RingPages$Net" "mostRounds" "I", Cond.methodLink RX7 214 yX6_find, Cond.instanceMethod yX6_find, Cond.selects RX6 yX6_find yX6_find, Cond.code yX6_find cX6_find 8 (some .int), Cond.fieldLink RX6 15 "RingPages$State" "kind" "I", Cond.fieldLink RX6 21 "RingPages$State" "value" "I", Cond.methodLink RX6 24 Lib.Math.min.name, Cond.fieldLink RX6 34 "RingPages$State" "home" "I", Cond.fieldLink RX6 37 "RingPages$State" "ticks" "I", Cond.methodLink RX6 30 yX6_insideOf, Cond.instanceMethod yX6_insideOf, Cond.selects RX6 yX6_insideOf yX6_insideOf]
def wsL_law_r28 : List Cond := [Cond.code yX6_insideOf cX6_insideOf 5 (some .int), Cond.fieldLink RX6 44 "RingPages$Net" "cells" "I", Cond.methodLink RX6 49 yX4_isOutside, Cond.methodLink RX6 40 yX6_step, Cond.instanceMethod yX6_step, Cond.selects RX6 yX6_step yX6_step, Cond.code yX6_step cX6_step 9 (some .boolean), Cond.methodLink RX6 53 yX6_movers, Cond.instanceMethod yX6_movers, Cond.selects RX6 yX6_movers yX6_movers, Cond.code yX6_movers cX6_movers 5 (some .int), Cond.fieldLink RX6 68 "RingPages$Net" "near" "[I", Cond.methodLink RX6 57 yX6_stayers, Cond.instanceMethod yX6_stayers, Cond.selects RX6 yX6_stayers yX6_stayers, Cond.code yX6_stayers cX6_stayers 6 (some .int), Cond.fieldLink RX6 65 "RingPages$State" "stay" "[I", Cond.methodLink RX7 221 yX3_lineUp, Cond.instanceMethod yX3_lineUp, Cond.selects RX3 yX3_lineUp yX3_lineUp, Cond.code yX3_lineUp cX3_lineUp 5 none, Cond.fieldLink RX3 15 "RingPages$Rounds" "length" "I", Cond.methodLink RX7 228 yX3_split, Cond.instanceMethod yX3_split]
def wsL_law_r29 : List Cond := [Cond.selects RX3 yX3_split yX3_split, Cond.code yX3_split cX3_split 10 none, Cond.constantLong RX3 23 (-1), Cond.fieldLink RX3 25 "RingPages$Rounds" "many" "I", Cond.fieldLink RX3 28 "RingPages$Rounds" "cuts" "I", Cond.methodLink RX3 31 yJ6_bitCount_0f7a4, Cond.methodLink RX3 37 yX3_meanPaged, Cond.instanceMethod yX3_meanPaged, Cond.selects RX3 yX3_meanPaged yX3_meanPaged, Cond.code yX3_meanPaged cX3_meanPaged 7 (some .long), Cond.methodLink RX3 41 yX3_isCutBehind, Cond.instanceMethod yX3_isCutBehind, Cond.selects RX3 yX3_isCutBehind yX3_isCutBehind, Cond.code yX3_isCutBehind cX3_isCutBehind 3 (some .boolean), Cond.methodLink RX7 178 yX3_cellsOf, Cond.instanceMethod yX3_cellsOf, Cond.selects RX3 yX3_cellsOf yX3_cellsOf, Cond.code yX3_cellsOf cX3_cellsOf 5 (some .int), Cond.methodLink RX7 182 yJ6_bitCount_0f7a4, Cond.methodLink RX7 190 yX7_holds, Cond.methodLink RL 68 yX8_page, Cond.instanceMethod yX8_page, Cond.selects RX8 yX8_page yX8_page, Cond.code yX8_page cX8_page 2 (some .int)]
def wsL_law_r30 : List Cond := [Cond.fieldLink RX8 221 "RingPagesModel" "cuts" "I", Cond.methodLink RX8 233 yX8_splits, Cond.instanceMethod yX8_splits, Cond.selects RX8 yX8_splits yX8_splits, Cond.code yX8_splits cX8_splits 8 none, Cond.fieldLink RX8 215 "RingPagesModel" "rows" "I", Cond.methodLink RX8 218 yX8_ranks, Cond.instanceMethod yX8_ranks, Cond.selects RX8 yX8_ranks yX8_ranks, Cond.code yX8_ranks cX8_ranks 4 none, Cond.methodLink RX8 173 yX8_whereIs, Cond.instanceMethod yX8_whereIs, Cond.selects RX8 yX8_whereIs yX8_whereIs, Cond.code yX8_whereIs cX8_whereIs 7 (some .int), Cond.methodLink RX8 170 yX8_allowed, Cond.instanceMethod yX8_allowed, Cond.selects RX8 yX8_allowed yX8_allowed, Cond.code yX8_allowed cX8_allowed 5 (some .int), Cond.methodLink RX8 224 yX8_paged, Cond.instanceMethod yX8_paged, Cond.selects RX8 yX8_paged yX8_paged, Cond.code yX8_paged cX8_paged 6 (some .long), Cond.methodLink RX8 227 yX8_bits, Cond.static yX8_bits]
def wsL_law_r31 : List Cond := [Cond.code yX8_bits cX8_bits 3 (some .int), Cond.methodLink RX8 230 yX8_isFirst, Cond.static yX8_isFirst, Cond.code yX8_isFirst cX8_isFirst 4 (some .boolean), Cond.methodLink RL 69 yX7_handset, Cond.instanceMethod yX7_handset, Cond.selects RX7 yX7_handset yX7_handset, Cond.code yX7_handset cX7_handset 2 (some .int), Cond.fieldLink RX7 196 "RingPages$State" "home" "I", Cond.fieldLink RX7 199 "RingPages$State" "moves" "I", Cond.fieldLink RX7 202 "RingPages$State" "ticks" "I", Cond.fieldLink RX7 205 "RingPages$State" "updates" "I", Cond.fieldLink RX7 208 "RingPages$Net" "pageCost" "I", Cond.fieldLink RX7 211 "RingPages$Net" "updateCost" "I", Cond.methodLink RL 72 yX8_handset, Cond.instanceMethod yX8_handset, Cond.selects RX8 yX8_handset yX8_handset, Cond.code yX8_handset cX8_handset 2 (some .int), Cond.methodLink RL 73 yX7_where, Cond.instanceMethod yX7_where, Cond.selects RX7 yX7_where yX7_where, Cond.code yX7_where cX7_where 1 (some .int), Cond.methodLink RL 76 yX8_where, Cond.instanceMethod yX8_where]
def wsL_law_r32 : List Cond := [Cond.selects RX8 yX8_where yX8_where, Cond.code yX8_where cX8_where 1 (some .int), Cond.methodLink RL 77 yX7_round, Cond.instanceMethod yX7_round, Cond.selects RX7 yX7_round yX7_round, Cond.code yX7_round cX7_round 2 (some .int), Cond.methodLink RL 80 yX8_round, Cond.instanceMethod yX8_round, Cond.selects RX8 yX8_round yX8_round, Cond.code yX8_round cX8_round 5 (some .int), Cond.methodLink RL 81 yX7_chance, Cond.instanceMethod yX7_chance, Cond.selects RX7 yX7_chance yX7_chance, Cond.code yX7_chance cX7_chance 3 (some .long), Cond.constantLong RX7 234 (-1), Cond.fieldLink RX7 236 "RingPages$LongRun" "below" "J", Cond.methodLink RX7 231 yX7_isPart, Cond.static yX7_isPart, Cond.code yX7_isPart cX7_isPart 1 (some .boolean), Cond.methodLink RX7 240 yX7_lowest, Cond.static yX7_lowest, Cond.code yX7_lowest cX7_lowest 7 (some .long), Cond.methodLink RX7 289 yX7_greatestShared, Cond.static yX7_greatestShared]
def wsL_law_r33 : List Cond := [Cond.code yX7_greatestShared cX7_greatestShared 7 (some .long), Cond.methodLink RL 85 yX8_chance, Cond.instanceMethod yX8_chance, Cond.selects RX8 yX8_chance yX8_chance, Cond.code yX8_chance cX8_chance 3 (some .long), Cond.constantLong RX8 184 (-1), Cond.methodLink RX8 189 yX8_below, Cond.instanceMethod yX8_below, Cond.selects RX8 yX8_below yX8_below, Cond.code yX8_below cX8_below 4 (some .long), Cond.methodLink RX8 193 yX8_term, Cond.static yX8_term, Cond.code yX8_term cX8_term 7 (some .long), Cond.methodLink RX8 180 yX8_common, Cond.static yX8_common, Cond.code yX8_common cX8_common 10 (some .long), Cond.methodLink RL 86 yX7_mean, Cond.instanceMethod yX7_mean, Cond.selects RX7 yX7_mean yX7_mean, Cond.code yX7_mean cX7_mean 3 (some .long), Cond.constantLong RX7 259 (100), Cond.methodLink RX7 244 yX0_crosses, Cond.methodLink RX7 248 yX0_movesOn, Cond.instanceMethod yX0_movesOn]
def wsL_law_r34 : List Cond := [Cond.selects RX0 yX0_movesOn yX0_movesOn, Cond.code yX0_movesOn cX0_movesOn 5 (some .long), Cond.methodLink RX7 252 yX7_rate, Cond.instanceMethod yX7_rate, Cond.selects RX7 yX7_rate yX7_rate, Cond.code yX7_rate cX7_rate 2 (some .long), Cond.constantLong RX7 261 (-4), Cond.methodLink RX7 256 yX0_expense, Cond.methodLink RL 89 yX8_mean, Cond.instanceMethod yX8_mean, Cond.selects RX8 yX8_mean yX8_mean, Cond.code yX8_mean cX8_mean 5 (some .long), Cond.constantLong RX8 207 (-4), Cond.methodLink RL 90 yX7_best, Cond.instanceMethod yX7_best, Cond.selects RX7 yX7_best yX7_best, Cond.code yX7_best cX7_best 2 (some .int), Cond.methodLink RL 93 yX8_best, Cond.instanceMethod yX8_best, Cond.selects RX8 yX8_best yX8_best, Cond.code yX8_best cX8_best 2 (some .int), Cond.methodLink RL 94 yX7_least, Cond.instanceMethod yX7_least, Cond.selects RX7 yX7_least yX7_least]
def wsL_law_r35 : List Cond := [Cond.code yX7_least cX7_least 2 (some .long), Cond.fieldLink RX7 263 "RingPages$LongRun" "leastExpense" "J", Cond.methodLink RL 98 yX8_least, Cond.instanceMethod yX8_least, Cond.selects RX8 yX8_least yX8_least, Cond.code yX8_least cX8_least 2 (some .long), Cond.methodLink RL 99 yX7_walk, Cond.instanceMethod yX7_walk, Cond.selects RX7 yX7_walk yX7_walk, Cond.code yX7_walk cX7_walk 8 (some .int), Cond.methodLink RX7 266 yX4_copyFrom, Cond.methodLink RX7 269 yX7_draw, Cond.static yX7_draw, Cond.code yX7_draw cX7_draw 4 (some .int), Cond.constantLong RX7 283 (7919), Cond.constantLong RX7 285 (6151), Cond.constantLong RX7 287 (65521), Cond.methodLink RX7 273 yX4_drawnCell, Cond.instanceMethod yX4_drawnCell, Cond.selects RX4 yX4_drawnCell yX4_drawnCell, Cond.code yX4_drawnCell cX4_drawnCell 7 (some .int), Cond.fieldLink RX4 73 "RingPages$Net" "out" "[I", Cond.fieldLink RX4 76 "RingPages$Net" "cells" "I", Cond.fieldLink RX4 79 "RingPages$Net" "weight" "[[I"]
def wsL_law_r36 : List Cond := [Cond.methodLink RL 102 yX8_walk, Cond.instanceMethod yX8_walk, Cond.selects RX8 yX8_walk yX8_walk, Cond.code yX8_walk cX8_walk 13 (some .int), Cond.constantLong RX8 236 (7919), Cond.constantLong RX8 238 (6151), Cond.constantLong RX8 240 (65521), Cond.methodLink RL 103 yX7_count, Cond.instanceMethod yX7_count, Cond.selects RX7 yX7_count yX7_count, Cond.code yX7_count cX7_count 2 (some .int), Cond.fieldLink RX7 277 "RingPages$Net" "joins" "I", Cond.fieldLink RX7 280 "RingPages$Net" "callChance" "I", Cond.methodLink RL 106 yX8_count, Cond.instanceMethod yX8_count, Cond.selects RX8 yX8_count yX8_count, Cond.code yX8_count cX8_count 2 (some .int)]
def wsL_law : List Cond := (wsL_law_r1 ++ (wsL_law_r2 ++ (wsL_law_r3 ++ (wsL_law_r4 ++ (wsL_law_r5 ++ (wsL_law_r6 ++ (wsL_law_r7 ++ (wsL_law_r8 ++ (wsL_law_r9 ++ (wsL_law_r10 ++ (wsL_law_r11 ++ (wsL_law_r12 ++ (wsL_law_r13 ++ (wsL_law_r14 ++ (wsL_law_r15 ++ (wsL_law_r16 ++ (wsL_law_r17 ++ (wsL_law_r18 ++ (wsL_law_r19 ++ (wsL_law_r20 ++ (wsL_law_r21 ++ (wsL_law_r22 ++ (wsL_law_r23 ++ (wsL_law_r24 ++ (wsL_law_r25 ++ (wsL_law_r26 ++ (wsL_law_r27 ++ (wsL_law_r28 ++ (wsL_law_r29 ++ (wsL_law_r30 ++ (wsL_law_r31 ++ (wsL_law_r32 ++ (wsL_law_r33 ++ (wsL_law_r34 ++ (wsL_law_r35 ++ wsL_law_r36))))))))))))))))))))))))))))))))))) ++ wsX70 ++ wsX80 ++ wsX50 ++ wsX20 ++ wsX00 ++ wsX60 ++ wsX30 ++ wsX40 ++ wsX10 ++ ([] : List Cond)
theorem dX0_init_0 : decode cX0_init 0 = .ok (.aload_n 0, 1) := by decide +kernel
theorem dX0_init_1 : decode cX0_init 1 = .ok (.invokespecial 3, 3) := by decide +kernel
theorem dX0_init_4 : decode cX0_init 4 = .ok (.aload_n 0, 1) := by decide +kernel
theorem dX0_init_5 : decode cX0_init 5 = .ok (.bipush 6, 2) := by decide +kernel
theorem dX0_init_7 : decode cX0_init 7 = .ok (.newarray .long, 2) := by decide +kernel
theorem dX0_init_9 : decode cX0_init 9 = .ok (.putfield 9, 3) := by decide +kernel
theorem dX0_init_12 : decode cX0_init 12 = .ok (.aload_n 0, 1) := by decide +kernel
theorem dX0_init_13 : decode cX0_init 13 = .ok (.bipush 6, 2) := by decide +kernel
theorem dX0_init_15 : decode cX0_init 15 = .ok (.newarray .int, 2) := by decide +kernel
theorem dX0_init_17 : decode cX0_init 17 = .ok (.putfield 15, 3) := by decide +kernel
theorem dX0_init_20 : decode cX0_init 20 = .ok (.aload_n 0, 1) := by decide +kernel
theorem dX0_init_21 : decode cX0_init 21 = .ok (.bipush 6, 2) := by decide +kernel
theorem dX0_init_23 : decode cX0_init 23 = .ok (.newarray .int, 2) := by decide +kernel
theorem dX0_init_25 : decode cX0_init 25 = .ok (.putfield 19, 3) := by decide +kernel
theorem dX0_init_28 : decode cX0_init 28 = .ok (.return_, 1) := by decide +kernel
theorem dX0_reckon_0 : decode cX0_reckon 0 = .ok (.aload_n 0, 1) := by decide +kernel
theorem dX0_reckon_1 : decode cX0_reckon 1 = .ok (.lconst 0, 1) := by decide +kernel
theorem dX0_reckon_2 : decode cX0_reckon 2 = .ok (.putfield 22, 3) := by decide +kernel
theorem dX0_reckon_5 : decode cX0_reckon 5 = .ok (.iconst 0, 1) := by decide +kernel
theorem dX0_reckon_6 : decode cX0_reckon 6 = .ok (.istore_n 3, 1) := by decide +kernel
theorem dX0_reckon_7 : decode cX0_reckon 7 = .ok (.iload_n 3, 1) := by decide +kernel
theorem dX0_reckon_8 : decode cX0_reckon 8 = .ok (.aload_n 1, 1) := by decide +kernel
theorem dX0_reckon_9 : decode cX0_reckon 9 = .ok (.getfield 26, 3) := by decide +kernel
theorem dX0_reckon_12 : decode cX0_reckon 12 = .ok (.if_icmp .ge 51, 3) := by decide +kernel
theorem dX0_reckon_15 : decode cX0_reckon 15 = .ok (.aload_n 0, 1) := by decide +kernel
theorem dX0_reckon_16 : decode cX0_reckon 16 = .ok (.getfield 9, 3) := by decide +kernel
theorem dX0_reckon_19 : decode cX0_reckon 19 = .ok (.iload_n 3, 1) := by decide +kernel
theorem dX0_reckon_20 : decode cX0_reckon 20 = .ok (.aload_n 2, 1) := by decide +kernel
theorem dX0_reckon_21 : decode cX0_reckon 21 = .ok (.getfield 32, 3) := by decide +kernel
theorem dX0_reckon_24 : decode cX0_reckon 24 = .ok (.iload_n 3, 1) := by decide +kernel
theorem dX0_reckon_25 : decode cX0_reckon 25 = .ok (.iaload, 1) := by decide +kernel
theorem dX0_reckon_26 : decode cX0_reckon 26 = .ok (.aload_n 1, 1) := by decide +kernel
theorem dX0_reckon_27 : decode cX0_reckon 27 = .ok (.getfield 37, 3) := by decide +kernel
theorem dX0_reckon_30 : decode cX0_reckon 30 = .ok (.iload_n 3, 1) := by decide +kernel
theorem dX0_reckon_31 : decode cX0_reckon 31 = .ok (.iaload, 1) := by decide +kernel
theorem dX0_reckon_32 : decode cX0_reckon 32 = .ok (.iadd, 1) := by decide +kernel
theorem dX0_reckon_33 : decode cX0_reckon 33 = .ok (.i2l, 1) := by decide +kernel
theorem dX0_reckon_34 : decode cX0_reckon 34 = .ok (.aload_n 1, 1) := by decide +kernel
theorem dX0_reckon_35 : decode cX0_reckon 35 = .ok (.getfield 40, 3) := by decide +kernel
theorem dX0_reckon_38 : decode cX0_reckon 38 = .ok (.iload_n 3, 1) := by decide +kernel
theorem dX0_reckon_39 : decode cX0_reckon 39 = .ok (.laload, 1) := by decide +kernel
theorem dX0_reckon_40 : decode cX0_reckon 40 = .ok (.lmul, 1) := by decide +kernel
theorem dX0_reckon_41 : decode cX0_reckon 41 = .ok (.lastore, 1) := by decide +kernel
theorem dX0_reckon_42 : decode cX0_reckon 42 = .ok (.aload_n 0, 1) := by decide +kernel
theorem dX0_reckon_43 : decode cX0_reckon 43 = .ok (.dup, 1) := by decide +kernel
theorem dX0_reckon_44 : decode cX0_reckon 44 = .ok (.getfield 22, 3) := by decide +kernel
theorem dX0_reckon_47 : decode cX0_reckon 47 = .ok (.aload_n 0, 1) := by decide +kernel
theorem dX0_reckon_48 : decode cX0_reckon 48 = .ok (.getfield 9, 3) := by decide +kernel
theorem dX0_reckon_51 : decode cX0_reckon 51 = .ok (.iload_n 3, 1) := by decide +kernel
theorem dX0_reckon_52 : decode cX0_reckon 52 = .ok (.laload, 1) := by decide +kernel
theorem dX0_reckon_53 : decode cX0_reckon 53 = .ok (.ladd, 1) := by decide +kernel
theorem dX0_reckon_54 : decode cX0_reckon 54 = .ok (.putfield 22, 3) := by decide +kernel
theorem dX0_reckon_57 : decode cX0_reckon 57 = .ok (.iinc 3 1, 3) := by decide +kernel
theorem dX0_reckon_60 : decode cX0_reckon 60 = .ok (.goto (-53), 3) := by decide +kernel
theorem dX0_reckon_63 : decode cX0_reckon 63 = .ok (.aload_n 0, 1) := by decide +kernel
theorem dX0_reckon_64 : decode cX0_reckon 64 = .ok (.iconst 0, 1) := by decide +kernel
theorem dX0_reckon_65 : decode cX0_reckon 65 = .ok (.putfield 43, 3) := by decide +kernel
theorem dX0_reckon_68 : decode cX0_reckon 68 = .ok (.return_, 1) := by decide +kernel
theorem dX0_crosses_0 : decode cX0_crosses 0 = .ok (.lconst 0, 1) := by decide +kernel
theorem dX0_crosses_1 : decode cX0_crosses 1 = .ok (.lstore_n 3, 1) := by decide +kernel
theorem dX0_crosses_2 : decode cX0_crosses 2 = .ok (.iconst 0, 1) := by decide +kernel
theorem dX0_crosses_3 : decode cX0_crosses 3 = .ok (.istore 5, 2) := by decide +kernel
theorem dX0_crosses_5 : decode cX0_crosses 5 = .ok (.iload 5, 2) := by decide +kernel
theorem dX0_crosses_7 : decode cX0_crosses 7 = .ok (.aload_n 1, 1) := by decide +kernel
theorem dX0_crosses_8 : decode cX0_crosses 8 = .ok (.getfield 26, 3) := by decide +kernel
theorem dX0_crosses_11 : decode cX0_crosses 11 = .ok (.if_icmp .ge 60, 3) := by decide +kernel
theorem dX0_crosses_14 : decode cX0_crosses 14 = .ok (.iconst 0, 1) := by decide +kernel
theorem dX0_crosses_15 : decode cX0_crosses 15 = .ok (.istore 6, 2) := by decide +kernel
theorem dX0_crosses_17 : decode cX0_crosses 17 = .ok (.iload 6, 2) := by decide +kernel
theorem dX0_crosses_19 : decode cX0_crosses 19 = .ok (.aload_n 1, 1) := by decide +kernel
theorem dX0_crosses_20 : decode cX0_crosses 20 = .ok (.getfield 26, 3) := by decide +kernel
theorem dX0_crosses_23 : decode cX0_crosses 23 = .ok (.if_icmp .ge 42, 3) := by decide +kernel
theorem dX0_crosses_26 : decode cX0_crosses 26 = .ok (.aload_n 2, 1) := by decide +kernel
theorem dX0_crosses_27 : decode cX0_crosses 27 = .ok (.iload 5, 2) := by decide +kernel
theorem dX0_crosses_29 : decode cX0_crosses 29 = .ok (.iaload, 1) := by decide +kernel
theorem dX0_crosses_30 : decode cX0_crosses 30 = .ok (.aload_n 2, 1) := by decide +kernel
theorem dX0_crosses_31 : decode cX0_crosses 31 = .ok (.iload 6, 2) := by decide +kernel
theorem dX0_crosses_33 : decode cX0_crosses 33 = .ok (.iaload, 1) := by decide +kernel
theorem dX0_crosses_34 : decode cX0_crosses 34 = .ok (.if_icmp .eq 25, 3) := by decide +kernel
theorem dX0_crosses_37 : decode cX0_crosses 37 = .ok (.lload_n 3, 1) := by decide +kernel
theorem dX0_crosses_38 : decode cX0_crosses 38 = .ok (.aload_n 1, 1) := by decide +kernel
theorem dX0_crosses_39 : decode cX0_crosses 39 = .ok (.getfield 40, 3) := by decide +kernel
theorem dX0_crosses_42 : decode cX0_crosses 42 = .ok (.iload 5, 2) := by decide +kernel
theorem dX0_crosses_44 : decode cX0_crosses 44 = .ok (.laload, 1) := by decide +kernel
theorem dX0_crosses_45 : decode cX0_crosses 45 = .ok (.aload_n 1, 1) := by decide +kernel
theorem dX0_crosses_46 : decode cX0_crosses 46 = .ok (.getfield 47, 3) := by decide +kernel
theorem dX0_crosses_49 : decode cX0_crosses 49 = .ok (.iload 5, 2) := by decide +kernel
theorem dX0_crosses_51 : decode cX0_crosses 51 = .ok (.aaload, 1) := by decide +kernel
theorem dX0_crosses_52 : decode cX0_crosses 52 = .ok (.iload 6, 2) := by decide +kernel
theorem dX0_crosses_54 : decode cX0_crosses 54 = .ok (.iaload, 1) := by decide +kernel
theorem dX0_crosses_55 : decode cX0_crosses 55 = .ok (.i2l, 1) := by decide +kernel
theorem dX0_crosses_56 : decode cX0_crosses 56 = .ok (.lmul, 1) := by decide +kernel
theorem dX0_crosses_57 : decode cX0_crosses 57 = .ok (.ladd, 1) := by decide +kernel
theorem dX0_crosses_58 : decode cX0_crosses 58 = .ok (.lstore_n 3, 1) := by decide +kernel
theorem dX0_crosses_59 : decode cX0_crosses 59 = .ok (.iinc 6 1, 3) := by decide +kernel
theorem dX0_crosses_62 : decode cX0_crosses 62 = .ok (.goto (-45), 3) := by decide +kernel
theorem dX0_crosses_65 : decode cX0_crosses 65 = .ok (.iinc 5 1, 3) := by decide +kernel
theorem dX0_crosses_68 : decode cX0_crosses 68 = .ok (.goto (-63), 3) := by decide +kernel
theorem dX0_crosses_71 : decode cX0_crosses 71 = .ok (.lload_n 3, 1) := by decide +kernel
theorem dX0_crosses_72 : decode cX0_crosses 72 = .ok (.lreturn, 1) := by decide +kernel
theorem dX0_movesOn_0 : decode cX0_movesOn 0 = .ok (.lconst 0, 1) := by decide +kernel
theorem dX0_movesOn_1 : decode cX0_movesOn 1 = .ok (.lstore_n 2, 1) := by decide +kernel
theorem dX0_movesOn_2 : decode cX0_movesOn 2 = .ok (.iconst 0, 1) := by decide +kernel
theorem dX0_movesOn_3 : decode cX0_movesOn 3 = .ok (.istore 4, 2) := by decide +kernel
theorem dX0_movesOn_5 : decode cX0_movesOn 5 = .ok (.iload 4, 2) := by decide +kernel
theorem dX0_movesOn_7 : decode cX0_movesOn 7 = .ok (.aload_n 1, 1) := by decide +kernel
theorem dX0_movesOn_8 : decode cX0_movesOn 8 = .ok (.getfield 26, 3) := by decide +kernel
theorem dX0_movesOn_11 : decode cX0_movesOn 11 = .ok (.if_icmp .ge 28, 3) := by decide +kernel
theorem dX0_movesOn_14 : decode cX0_movesOn 14 = .ok (.lload_n 2, 1) := by decide +kernel
theorem dX0_movesOn_15 : decode cX0_movesOn 15 = .ok (.aload_n 1, 1) := by decide +kernel
theorem dX0_movesOn_16 : decode cX0_movesOn 16 = .ok (.getfield 40, 3) := by decide +kernel
theorem dX0_movesOn_19 : decode cX0_movesOn 19 = .ok (.iload 4, 2) := by decide +kernel
theorem dX0_movesOn_21 : decode cX0_movesOn 21 = .ok (.laload, 1) := by decide +kernel
theorem dX0_movesOn_22 : decode cX0_movesOn 22 = .ok (.aload_n 1, 1) := by decide +kernel
theorem dX0_movesOn_23 : decode cX0_movesOn 23 = .ok (.getfield 37, 3) := by decide +kernel
theorem dX0_movesOn_26 : decode cX0_movesOn 26 = .ok (.iload 4, 2) := by decide +kernel
theorem dX0_movesOn_28 : decode cX0_movesOn 28 = .ok (.iaload, 1) := by decide +kernel
theorem dX0_movesOn_29 : decode cX0_movesOn 29 = .ok (.i2l, 1) := by decide +kernel
theorem dX0_movesOn_30 : decode cX0_movesOn 30 = .ok (.lmul, 1) := by decide +kernel
theorem dX0_movesOn_31 : decode cX0_movesOn 31 = .ok (.ladd, 1) := by decide +kernel
theorem dX0_movesOn_32 : decode cX0_movesOn 32 = .ok (.lstore_n 2, 1) := by decide +kernel
theorem dX0_movesOn_33 : decode cX0_movesOn 33 = .ok (.iinc 4 1, 3) := by decide +kernel
theorem dX0_movesOn_36 : decode cX0_movesOn 36 = .ok (.goto (-31), 3) := by decide +kernel
theorem dX0_movesOn_39 : decode cX0_movesOn 39 = .ok (.lload_n 2, 1) := by decide +kernel
theorem dX0_movesOn_40 : decode cX0_movesOn 40 = .ok (.lreturn, 1) := by decide +kernel
set_option maxRecDepth 20000 in
theorem ggX0_expense_X7_sameArea : GoodIn wsX0_expense wsX7_sameArea := goodIn_r _ [8] (by decide +kernel) (by decide +kernel)
set_option maxRecDepth 20000 in
theorem gX0_expense_X7_sameArea_n51 : GoodIn wsX0_expense (wsX7_sameArea) := ggX0_expense_X7_sameArea
set_option maxRecDepth 20000 in
theorem ggX0_expense_X0_crosses : GoodIn wsX0_expense wsX0_crosses := goodIn_r _ [13, 1, 14, 15, 16, 17, 18, 19, 20, 21, 22, 23, 24, 25, 26, 27] (by decide +kernel) (by decide +kernel)
set_option maxRecDepth 20000 in
theorem gX0_expense_X0_crosses : GoodIn wsX0_expense (wsV RX0 58 RX0 yX0_crosses wsX0_crosses) := goodIn_app (goodIn_of _ (by decide +kernel)) ggX0_expense_X0_crosses
theorem dX0_expense_0 : decode cX0_expense 0 = .ok (.lconst 0, 1) := by decide +kernel
theorem dX0_expense_1 : decode cX0_expense 1 = .ok (.lstore_n 3, 1) := by decide +kernel
theorem dX0_expense_2 : decode cX0_expense 2 = .ok (.iconst 0, 1) := by decide +kernel
theorem dX0_expense_3 : decode cX0_expense 3 = .ok (.istore 5, 2) := by decide +kernel
theorem dX0_expense_5 : decode cX0_expense 5 = .ok (.iload 5, 2) := by decide +kernel
theorem dX0_expense_7 : decode cX0_expense 7 = .ok (.aload_n 1, 1) := by decide +kernel
theorem dX0_expense_8 : decode cX0_expense 8 = .ok (.getfield 26, 3) := by decide +kernel
theorem dX0_expense_11 : decode cX0_expense 11 = .ok (.if_icmp .ge 31, 3) := by decide +kernel
theorem dX0_expense_14 : decode cX0_expense 14 = .ok (.lload_n 3, 1) := by decide +kernel
theorem dX0_expense_15 : decode cX0_expense 15 = .ok (.aload_n 0, 1) := by decide +kernel
theorem dX0_expense_16 : decode cX0_expense 16 = .ok (.getfield 9, 3) := by decide +kernel
theorem dX0_expense_19 : decode cX0_expense 19 = .ok (.iload 5, 2) := by decide +kernel
theorem dX0_expense_21 : decode cX0_expense 21 = .ok (.laload, 1) := by decide +kernel
theorem dX0_expense_22 : decode cX0_expense 22 = .ok (.aload_n 1, 1) := by decide +kernel
theorem dX0_expense_23 : decode cX0_expense 23 = .ok (.getfield 26, 3) := by decide +kernel
theorem dX0_expense_26 : decode cX0_expense 26 = .ok (.aload_n 2, 1) := by decide +kernel
theorem dX0_expense_27 : decode cX0_expense 27 = .ok (.iload 5, 2) := by decide +kernel
theorem dX0_expense_29 : decode cX0_expense 29 = .ok (.invokestatic 51, 3) := by decide +kernel
theorem dX0_expense_32 : decode cX0_expense 32 = .ok (.i2l, 1) := by decide +kernel
theorem dX0_expense_33 : decode cX0_expense 33 = .ok (.lmul, 1) := by decide +kernel
theorem dX0_expense_34 : decode cX0_expense 34 = .ok (.ladd, 1) := by decide +kernel
theorem dX0_expense_35 : decode cX0_expense 35 = .ok (.lstore_n 3, 1) := by decide +kernel
theorem dX0_expense_36 : decode cX0_expense 36 = .ok (.iinc 5 1, 3) := by decide +kernel
theorem dX0_expense_39 : decode cX0_expense 39 = .ok (.goto (-34), 3) := by decide +kernel
theorem dX0_expense_42 : decode cX0_expense 42 = .ok (.bipush 100, 2) := by decide +kernel
theorem dX0_expense_44 : decode cX0_expense 44 = .ok (.aload_n 1, 1) := by decide +kernel
theorem dX0_expense_45 : decode cX0_expense 45 = .ok (.getfield 55, 3) := by decide +kernel
theorem dX0_expense_48 : decode cX0_expense 48 = .ok (.imul, 1) := by decide +kernel
theorem dX0_expense_49 : decode cX0_expense 49 = .ok (.i2l, 1) := by decide +kernel
theorem dX0_expense_50 : decode cX0_expense 50 = .ok (.aload_n 0, 1) := by decide +kernel
theorem dX0_expense_51 : decode cX0_expense 51 = .ok (.aload_n 1, 1) := by decide +kernel
theorem dX0_expense_52 : decode cX0_expense 52 = .ok (.aload_n 2, 1) := by decide +kernel
theorem dX0_expense_53 : decode cX0_expense 53 = .ok (.invokevirtual 58, 3) := by decide +kernel
theorem dX0_expense_56 : decode cX0_expense 56 = .ok (.lmul, 1) := by decide +kernel
theorem dX0_expense_57 : decode cX0_expense 57 = .ok (.aload_n 1, 1) := by decide +kernel
theorem dX0_expense_58 : decode cX0_expense 58 = .ok (.getfield 62, 3) := by decide +kernel
theorem dX0_expense_61 : decode cX0_expense 61 = .ok (.aload_n 1, 1) := by decide +kernel
theorem dX0_expense_62 : decode cX0_expense 62 = .ok (.getfield 65, 3) := by decide +kernel
theorem dX0_expense_65 : decode cX0_expense 65 = .ok (.imul, 1) := by decide +kernel
theorem dX0_expense_66 : decode cX0_expense 66 = .ok (.i2l, 1) := by decide +kernel
theorem dX0_expense_67 : decode cX0_expense 67 = .ok (.lload_n 3, 1) := by decide +kernel
theorem dX0_expense_68 : decode cX0_expense 68 = .ok (.lmul, 1) := by decide +kernel
theorem dX0_expense_69 : decode cX0_expense 69 = .ok (.ladd, 1) := by decide +kernel
theorem dX0_expense_70 : decode cX0_expense 70 = .ok (.lreturn, 1) := by decide +kernel
set_option maxRecDepth 20000 in
theorem ggX0_findBest_X0_expense : GoodIn wsX0_findBest wsX0_expense := goodIn_r _ [9, 3, 10, 11, 12, 13, 14, 15, 16, 17, 18, 19, 8, 20, 21, 22, 50, 51, 52, 53, 54, 55, 56, 57, 58, 59, 60, 61, 44, 45, 46, 47, 48, 49] (by decide +kernel) (by decide +kernel)
set_option maxRecDepth 20000 in
theorem gX0_findBest_X0_expense : GoodIn wsX0_findBest (wsV RX0 68 RX0 yX0_expense wsX0_expense) := goodIn_app (goodIn_of _ (by decide +kernel)) ggX0_findBest_X0_expense
set_option maxRecDepth 20000 in
theorem ggX0_findBest_X0_takeTried : GoodIn wsX0_findBest wsX0_takeTried := goodIn_r _ [26, 4, 2, 27, 28, 29, 30, 31, 44, 45, 46, 47, 48, 49] (by decide +kernel) (by decide +kernel)
set_option maxRecDepth 20000 in
theorem gX0_findBest_X0_takeTried : GoodIn wsX0_findBest (wsV RX0 71 RX0 yX0_takeTried wsX0_takeTried) := goodIn_app (goodIn_of _ (by decide +kernel)) ggX0_findBest_X0_takeTried
set_option maxRecDepth 20000 in
theorem ggX0_findBest_X0_nextTried : GoodIn wsX0_findBest wsX0_nextTried := goodIn_r _ [35, 2, 36, 37, 38, 8, 39, 40, 41, 42, 43, 44, 45, 46, 47, 48, 49] (by decide +kernel) (by decide +kernel)
set_option maxRecDepth 20000 in
theorem gX0_findBest_X0_nextTried : GoodIn wsX0_findBest (wsV RX0 75 RX0 yX0_nextTried wsX0_nextTried) := goodIn_app (goodIn_of _ (by decide +kernel)) ggX0_findBest_X0_nextTried
theorem dX0_findBest_0 : decode cX0_findBest 0 = .ok (.aload_n 0, 1) := by decide +kernel
theorem dX0_findBest_1 : decode cX0_findBest 1 = .ok (.getfield 43, 3) := by decide +kernel
theorem dX0_findBest_4 : decode cX0_findBest 4 = .ok (.ifCond .eq 4, 3) := by decide +kernel
theorem dX0_findBest_7 : decode cX0_findBest 7 = .ok (.return_, 1) := by decide +kernel
theorem dX0_findBest_8 : decode cX0_findBest 8 = .ok (.aload_n 0, 1) := by decide +kernel
theorem dX0_findBest_9 : decode cX0_findBest 9 = .ok (.iconst 1, 1) := by decide +kernel
theorem dX0_findBest_10 : decode cX0_findBest 10 = .ok (.putfield 43, 3) := by decide +kernel
theorem dX0_findBest_13 : decode cX0_findBest 13 = .ok (.iconst 0, 1) := by decide +kernel
theorem dX0_findBest_14 : decode cX0_findBest 14 = .ok (.istore_n 2, 1) := by decide +kernel
theorem dX0_findBest_15 : decode cX0_findBest 15 = .ok (.iload_n 2, 1) := by decide +kernel
theorem dX0_findBest_16 : decode cX0_findBest 16 = .ok (.bipush 6, 2) := by decide +kernel
theorem dX0_findBest_18 : decode cX0_findBest 18 = .ok (.if_icmp .ge 16, 3) := by decide +kernel
theorem dX0_findBest_21 : decode cX0_findBest 21 = .ok (.aload_n 0, 1) := by decide +kernel
theorem dX0_findBest_22 : decode cX0_findBest 22 = .ok (.getfield 19, 3) := by decide +kernel
theorem dX0_findBest_25 : decode cX0_findBest 25 = .ok (.iload_n 2, 1) := by decide +kernel
theorem dX0_findBest_26 : decode cX0_findBest 26 = .ok (.iconst 0, 1) := by decide +kernel
theorem dX0_findBest_27 : decode cX0_findBest 27 = .ok (.iastore, 1) := by decide +kernel
theorem dX0_findBest_28 : decode cX0_findBest 28 = .ok (.iinc 2 1, 3) := by decide +kernel
theorem dX0_findBest_31 : decode cX0_findBest 31 = .ok (.goto (-16), 3) := by decide +kernel
theorem dX0_findBest_34 : decode cX0_findBest 34 = .ok (.aload_n 0, 1) := by decide +kernel
theorem dX0_findBest_35 : decode cX0_findBest 35 = .ok (.aload_n 0, 1) := by decide +kernel
theorem dX0_findBest_36 : decode cX0_findBest 36 = .ok (.aload_n 1, 1) := by decide +kernel
theorem dX0_findBest_37 : decode cX0_findBest 37 = .ok (.aload_n 0, 1) := by decide +kernel
theorem dX0_findBest_38 : decode cX0_findBest 38 = .ok (.getfield 19, 3) := by decide +kernel
theorem dX0_findBest_41 : decode cX0_findBest 41 = .ok (.invokevirtual 68, 3) := by decide +kernel
theorem dX0_findBest_44 : decode cX0_findBest 44 = .ok (.invokevirtual 71, 3) := by decide +kernel
theorem dX0_findBest_47 : decode cX0_findBest 47 = .ok (.iconst 0, 1) := by decide +kernel
theorem dX0_findBest_48 : decode cX0_findBest 48 = .ok (.istore_n 2, 1) := by decide +kernel
theorem dX0_findBest_49 : decode cX0_findBest 49 = .ok (.iload_n 2, 1) := by decide +kernel
theorem dX0_findBest_50 : decode cX0_findBest 50 = .ok (.sipush 1000, 3) := by decide +kernel
theorem dX0_findBest_53 : decode cX0_findBest 53 = .ok (.if_icmp .ge 44, 3) := by decide +kernel
theorem dX0_findBest_56 : decode cX0_findBest 56 = .ok (.aload_n 0, 1) := by decide +kernel
theorem dX0_findBest_57 : decode cX0_findBest 57 = .ok (.aload_n 1, 1) := by decide +kernel
theorem dX0_findBest_58 : decode cX0_findBest 58 = .ok (.getfield 26, 3) := by decide +kernel
theorem dX0_findBest_61 : decode cX0_findBest 61 = .ok (.invokevirtual 75, 3) := by decide +kernel
theorem dX0_findBest_64 : decode cX0_findBest 64 = .ok (.ifCond .eq 33, 3) := by decide +kernel
theorem dX0_findBest_67 : decode cX0_findBest 67 = .ok (.aload_n 0, 1) := by decide +kernel
theorem dX0_findBest_68 : decode cX0_findBest 68 = .ok (.aload_n 1, 1) := by decide +kernel
theorem dX0_findBest_69 : decode cX0_findBest 69 = .ok (.aload_n 0, 1) := by decide +kernel
theorem dX0_findBest_70 : decode cX0_findBest 70 = .ok (.getfield 19, 3) := by decide +kernel
theorem dX0_findBest_73 : decode cX0_findBest 73 = .ok (.invokevirtual 68, 3) := by decide +kernel
theorem dX0_findBest_76 : decode cX0_findBest 76 = .ok (.lstore_n 3, 1) := by decide +kernel
theorem dX0_findBest_77 : decode cX0_findBest 77 = .ok (.lload_n 3, 1) := by decide +kernel
theorem dX0_findBest_78 : decode cX0_findBest 78 = .ok (.aload_n 0, 1) := by decide +kernel
theorem dX0_findBest_79 : decode cX0_findBest 79 = .ok (.getfield 79, 3) := by decide +kernel
theorem dX0_findBest_82 : decode cX0_findBest 82 = .ok (.lcmp, 1) := by decide +kernel
theorem dX0_findBest_83 : decode cX0_findBest 83 = .ok (.ifCond .ge 8, 3) := by decide +kernel
theorem dX0_findBest_86 : decode cX0_findBest 86 = .ok (.aload_n 0, 1) := by decide +kernel
theorem dX0_findBest_87 : decode cX0_findBest 87 = .ok (.lload_n 3, 1) := by decide +kernel
theorem dX0_findBest_88 : decode cX0_findBest 88 = .ok (.invokevirtual 71, 3) := by decide +kernel
theorem dX0_findBest_91 : decode cX0_findBest 91 = .ok (.iinc 2 1, 3) := by decide +kernel
theorem dX0_findBest_94 : decode cX0_findBest 94 = .ok (.goto (-45), 3) := by decide +kernel
theorem dX0_findBest_97 : decode cX0_findBest 97 = .ok (.return_, 1) := by decide +kernel
theorem dX0_takeTried_0 : decode cX0_takeTried 0 = .ok (.aload_n 0, 1) := by decide +kernel
theorem dX0_takeTried_1 : decode cX0_takeTried 1 = .ok (.lload_n 1, 1) := by decide +kernel
theorem dX0_takeTried_2 : decode cX0_takeTried 2 = .ok (.putfield 79, 3) := by decide +kernel
theorem dX0_takeTried_5 : decode cX0_takeTried 5 = .ok (.aload_n 0, 1) := by decide +kernel
theorem dX0_takeTried_6 : decode cX0_takeTried 6 = .ok (.getfield 19, 3) := by decide +kernel
theorem dX0_takeTried_9 : decode cX0_takeTried 9 = .ok (.iconst 0, 1) := by decide +kernel
theorem dX0_takeTried_10 : decode cX0_takeTried 10 = .ok (.aload_n 0, 1) := by decide +kernel
theorem dX0_takeTried_11 : decode cX0_takeTried 11 = .ok (.getfield 15, 3) := by decide +kernel
theorem dX0_takeTried_14 : decode cX0_takeTried 14 = .ok (.iconst 0, 1) := by decide +kernel
theorem dX0_takeTried_15 : decode cX0_takeTried 15 = .ok (.bipush 6, 2) := by decide +kernel
theorem dX0_takeTried_17 : decode cX0_takeTried 17 = .ok (.invokestatic 82, 3) := by decide +kernel
theorem dX0_takeTried_20 : decode cX0_takeTried 20 = .ok (.return_, 1) := by decide +kernel
set_option maxRecDepth 20000 in
theorem ggX0_nextTried_X0_highestAhead : GoodIn wsX0_nextTried wsX0_highestAhead := goodIn_r _ [6, 1, 7, 8, 9, 10, 11, 12, 13, 14, 15, 16] (by decide +kernel) (by decide +kernel)
set_option maxRecDepth 20000 in
theorem gX0_nextTried_X0_highestAhead : GoodIn wsX0_nextTried (wsV RX0 88 RX0 yX0_highestAhead wsX0_highestAhead) := goodIn_app (goodIn_of _ (by decide +kernel)) ggX0_nextTried_X0_highestAhead
theorem dX0_nextTried_0 : decode cX0_nextTried 0 = .ok (.iload_n 1, 1) := by decide +kernel
theorem dX0_nextTried_1 : decode cX0_nextTried 1 = .ok (.iconst 1, 1) := by decide +kernel
theorem dX0_nextTried_2 : decode cX0_nextTried 2 = .ok (.isub, 1) := by decide +kernel
theorem dX0_nextTried_3 : decode cX0_nextTried 3 = .ok (.istore_n 2, 1) := by decide +kernel
theorem dX0_nextTried_4 : decode cX0_nextTried 4 = .ok (.iload_n 2, 1) := by decide +kernel
theorem dX0_nextTried_5 : decode cX0_nextTried 5 = .ok (.ifCond .le 42, 3) := by decide +kernel
theorem dX0_nextTried_8 : decode cX0_nextTried 8 = .ok (.aload_n 0, 1) := by decide +kernel
theorem dX0_nextTried_9 : decode cX0_nextTried 9 = .ok (.getfield 19, 3) := by decide +kernel
theorem dX0_nextTried_12 : decode cX0_nextTried 12 = .ok (.iload_n 2, 1) := by decide +kernel
theorem dX0_nextTried_13 : decode cX0_nextTried 13 = .ok (.iaload, 1) := by decide +kernel
theorem dX0_nextTried_14 : decode cX0_nextTried 14 = .ok (.aload_n 0, 1) := by decide +kernel
theorem dX0_nextTried_15 : decode cX0_nextTried 15 = .ok (.iload_n 2, 1) := by decide +kernel
theorem dX0_nextTried_16 : decode cX0_nextTried 16 = .ok (.invokevirtual 88, 3) := by decide +kernel
theorem dX0_nextTried_19 : decode cX0_nextTried 19 = .ok (.if_icmp .gt 15, 3) := by decide +kernel
theorem dX0_nextTried_22 : decode cX0_nextTried 22 = .ok (.aload_n 0, 1) := by decide +kernel
theorem dX0_nextTried_23 : decode cX0_nextTried 23 = .ok (.getfield 19, 3) := by decide +kernel
theorem dX0_nextTried_26 : decode cX0_nextTried 26 = .ok (.iload_n 2, 1) := by decide +kernel
theorem dX0_nextTried_27 : decode cX0_nextTried 27 = .ok (.dup2, 1) := by decide +kernel
theorem dX0_nextTried_28 : decode cX0_nextTried 28 = .ok (.iaload, 1) := by decide +kernel
theorem dX0_nextTried_29 : decode cX0_nextTried 29 = .ok (.iconst 1, 1) := by decide +kernel
theorem dX0_nextTried_30 : decode cX0_nextTried 30 = .ok (.iadd, 1) := by decide +kernel
theorem dX0_nextTried_31 : decode cX0_nextTried 31 = .ok (.iastore, 1) := by decide +kernel
theorem dX0_nextTried_32 : decode cX0_nextTried 32 = .ok (.iconst 1, 1) := by decide +kernel
theorem dX0_nextTried_33 : decode cX0_nextTried 33 = .ok (.ireturn, 1) := by decide +kernel
theorem dX0_nextTried_34 : decode cX0_nextTried 34 = .ok (.aload_n 0, 1) := by decide +kernel
theorem dX0_nextTried_35 : decode cX0_nextTried 35 = .ok (.getfield 19, 3) := by decide +kernel
theorem dX0_nextTried_38 : decode cX0_nextTried 38 = .ok (.iload_n 2, 1) := by decide +kernel
theorem dX0_nextTried_39 : decode cX0_nextTried 39 = .ok (.iconst 0, 1) := by decide +kernel
theorem dX0_nextTried_40 : decode cX0_nextTried 40 = .ok (.iastore, 1) := by decide +kernel
theorem dX0_nextTried_41 : decode cX0_nextTried 41 = .ok (.iinc 2 (-1), 3) := by decide +kernel
theorem dX0_nextTried_44 : decode cX0_nextTried 44 = .ok (.goto (-40), 3) := by decide +kernel
theorem dX0_nextTried_47 : decode cX0_nextTried 47 = .ok (.iconst 0, 1) := by decide +kernel
theorem dX0_nextTried_48 : decode cX0_nextTried 48 = .ok (.ireturn, 1) := by decide +kernel
theorem dX0_highestAhead_0 : decode cX0_highestAhead 0 = .ok (.iconst 0, 1) := by decide +kernel
theorem dX0_highestAhead_1 : decode cX0_highestAhead 1 = .ok (.istore_n 2, 1) := by decide +kernel
theorem dX0_highestAhead_2 : decode cX0_highestAhead 2 = .ok (.iconst 0, 1) := by decide +kernel
theorem dX0_highestAhead_3 : decode cX0_highestAhead 3 = .ok (.istore_n 3, 1) := by decide +kernel
theorem dX0_highestAhead_4 : decode cX0_highestAhead 4 = .ok (.iload_n 3, 1) := by decide +kernel
theorem dX0_highestAhead_5 : decode cX0_highestAhead 5 = .ok (.iload_n 1, 1) := by decide +kernel
theorem dX0_highestAhead_6 : decode cX0_highestAhead 6 = .ok (.if_icmp .ge 20, 3) := by decide +kernel
theorem dX0_highestAhead_9 : decode cX0_highestAhead 9 = .ok (.iload_n 2, 1) := by decide +kernel
theorem dX0_highestAhead_10 : decode cX0_highestAhead 10 = .ok (.aload_n 0, 1) := by decide +kernel
theorem dX0_highestAhead_11 : decode cX0_highestAhead 11 = .ok (.getfield 19, 3) := by decide +kernel
theorem dX0_highestAhead_14 : decode cX0_highestAhead 14 = .ok (.iload_n 3, 1) := by decide +kernel
theorem dX0_highestAhead_15 : decode cX0_highestAhead 15 = .ok (.iaload, 1) := by decide +kernel
theorem dX0_highestAhead_16 : decode cX0_highestAhead 16 = .ok (.invokestatic 92, 3) := by decide +kernel
theorem dX0_highestAhead_19 : decode cX0_highestAhead 19 = .ok (.istore_n 2, 1) := by decide +kernel
theorem dX0_highestAhead_20 : decode cX0_highestAhead 20 = .ok (.iinc 3 1, 3) := by decide +kernel
theorem dX0_highestAhead_23 : decode cX0_highestAhead 23 = .ok (.goto (-19), 3) := by decide +kernel
theorem dX0_highestAhead_26 : decode cX0_highestAhead 26 = .ok (.iload_n 2, 1) := by decide +kernel
theorem dX0_highestAhead_27 : decode cX0_highestAhead 27 = .ok (.ireturn, 1) := by decide +kernel
theorem dX1_init_0 : decode cX1_init 0 = .ok (.aload_n 0, 1) := by decide +kernel
theorem dX1_init_1 : decode cX1_init 1 = .ok (.invokespecial 3, 3) := by decide +kernel
theorem dX1_init_4 : decode cX1_init 4 = .ok (.aload_n 0, 1) := by decide +kernel
theorem dX1_init_5 : decode cX1_init 5 = .ok (.bipush 6, 2) := by decide +kernel
theorem dX1_init_7 : decode cX1_init 7 = .ok (.bipush 6, 2) := by decide +kernel
theorem dX1_init_9 : decode cX1_init 9 = .ok (.multianewarray 9 2, 4) := by decide +kernel
theorem dX1_init_13 : decode cX1_init 13 = .ok (.putfield 11, 3) := by decide +kernel
theorem dX1_init_16 : decode cX1_init 16 = .ok (.aload_n 0, 1) := by decide +kernel
end
section
theorem dX1_init_17 : decode cX1_init 17 = .ok (.bipush 6, 2) := by decide +kernel
theorem dX1_init_19 : decode cX1_init 19 = .ok (.bipush 6, 2) := by decide +kernel
theorem dX1_init_21 : decode cX1_init 21 = .ok (.multianewarray 9 2, 4) := by decide +kernel
theorem dX1_init_25 : decode cX1_init 25 = .ok (.putfield 16, 3) := by decide +kernel
theorem dX1_init_28 : decode cX1_init 28 = .ok (.aload_n 0, 1) := by decide +kernel
theorem dX1_init_29 : decode cX1_init 29 = .ok (.bipush 6, 2) := by decide +kernel
theorem dX1_init_31 : decode cX1_init 31 = .ok (.newarray .int, 2) := by decide +kernel
theorem dX1_init_33 : decode cX1_init 33 = .ok (.putfield 19, 3) := by decide +kernel
theorem dX1_init_36 : decode cX1_init 36 = .ok (.aload_n 0, 1) := by decide +kernel
theorem dX1_init_37 : decode cX1_init 37 = .ok (.bipush 6, 2) := by decide +kernel
theorem dX1_init_39 : decode cX1_init 39 = .ok (.newarray .int, 2) := by decide +kernel
theorem dX1_init_41 : decode cX1_init 41 = .ok (.putfield 23, 3) := by decide +kernel
theorem dX1_init_44 : decode cX1_init 44 = .ok (.aload_n 0, 1) := by decide +kernel
theorem dX1_init_45 : decode cX1_init 45 = .ok (.bipush 6, 2) := by decide +kernel
theorem dX1_init_47 : decode cX1_init 47 = .ok (.newarray .long, 2) := by decide +kernel
theorem dX1_init_49 : decode cX1_init 49 = .ok (.putfield 26, 3) := by decide +kernel
theorem dX1_init_52 : decode cX1_init 52 = .ok (.aload_n 0, 1) := by decide +kernel
theorem dX1_init_53 : decode cX1_init 53 = .ok (.bipush 64, 2) := by decide +kernel
theorem dX1_init_55 : decode cX1_init 55 = .ok (.newarray .long, 2) := by decide +kernel
theorem dX1_init_57 : decode cX1_init 57 = .ok (.putfield 30, 3) := by decide +kernel
theorem dX1_init_60 : decode cX1_init 60 = .ok (.return_, 1) := by decide +kernel
set_option maxRecDepth 20000 in
theorem ggX1_begin_X1_price : GoodIn wsX1_begin wsX1_price := goodIn_r _ [11, 12, 13, 14, 15, 16, 17, 18, 19, 20, 21, 22, 23, 24, 25, 26, 27] (by decide +kernel) (by decide +kernel)
set_option maxRecDepth 20000 in
theorem gX1_begin_X1_price : GoodIn wsX1_begin (wsV RX1 40 RX1 yX1_price wsX1_price) := goodIn_app (goodIn_of _ (by decide +kernel)) ggX1_begin_X1_price
theorem dX1_begin_0 : decode cX1_begin 0 = .ok (.aload_n 0, 1) := by decide +kernel
theorem dX1_begin_1 : decode cX1_begin 1 = .ok (.iload_n 1, 1) := by decide +kernel
theorem dX1_begin_2 : decode cX1_begin 2 = .ok (.putfield 33, 3) := by decide +kernel
theorem dX1_begin_5 : decode cX1_begin 5 = .ok (.aload_n 0, 1) := by decide +kernel
theorem dX1_begin_6 : decode cX1_begin 6 = .ok (.iconst 0, 1) := by decide +kernel
theorem dX1_begin_7 : decode cX1_begin 7 = .ok (.putfield 37, 3) := by decide +kernel
theorem dX1_begin_10 : decode cX1_begin 10 = .ok (.iconst 0, 1) := by decide +kernel
theorem dX1_begin_11 : decode cX1_begin 11 = .ok (.istore_n 2, 1) := by decide +kernel
theorem dX1_begin_12 : decode cX1_begin 12 = .ok (.iload_n 2, 1) := by decide +kernel
theorem dX1_begin_13 : decode cX1_begin 13 = .ok (.bipush 6, 2) := by decide +kernel
theorem dX1_begin_15 : decode cX1_begin 15 = .ok (.if_icmp .ge 65, 3) := by decide +kernel
theorem dX1_begin_18 : decode cX1_begin 18 = .ok (.aload_n 0, 1) := by decide +kernel
theorem dX1_begin_19 : decode cX1_begin 19 = .ok (.getfield 19, 3) := by decide +kernel
theorem dX1_begin_22 : decode cX1_begin 22 = .ok (.iload_n 2, 1) := by decide +kernel
theorem dX1_begin_23 : decode cX1_begin 23 = .ok (.iconst 0, 1) := by decide +kernel
theorem dX1_begin_24 : decode cX1_begin 24 = .ok (.iastore, 1) := by decide +kernel
theorem dX1_begin_25 : decode cX1_begin 25 = .ok (.aload_n 0, 1) := by decide +kernel
theorem dX1_begin_26 : decode cX1_begin 26 = .ok (.getfield 23, 3) := by decide +kernel
theorem dX1_begin_29 : decode cX1_begin 29 = .ok (.iload_n 2, 1) := by decide +kernel
theorem dX1_begin_30 : decode cX1_begin 30 = .ok (.iconst 0, 1) := by decide +kernel
theorem dX1_begin_31 : decode cX1_begin 31 = .ok (.iastore, 1) := by decide +kernel
theorem dX1_begin_32 : decode cX1_begin 32 = .ok (.iconst 0, 1) := by decide +kernel
theorem dX1_begin_33 : decode cX1_begin 33 = .ok (.istore_n 3, 1) := by decide +kernel
theorem dX1_begin_34 : decode cX1_begin 34 = .ok (.iload_n 3, 1) := by decide +kernel
theorem dX1_begin_35 : decode cX1_begin 35 = .ok (.bipush 6, 2) := by decide +kernel
theorem dX1_begin_37 : decode cX1_begin 37 = .ok (.if_icmp .ge 37, 3) := by decide +kernel
theorem dX1_begin_40 : decode cX1_begin 40 = .ok (.aload_n 0, 1) := by decide +kernel
theorem dX1_begin_41 : decode cX1_begin 41 = .ok (.getfield 11, 3) := by decide +kernel
theorem dX1_begin_44 : decode cX1_begin 44 = .ok (.iload_n 2, 1) := by decide +kernel
theorem dX1_begin_45 : decode cX1_begin 45 = .ok (.aaload, 1) := by decide +kernel
theorem dX1_begin_46 : decode cX1_begin 46 = .ok (.iload_n 3, 1) := by decide +kernel
theorem dX1_begin_47 : decode cX1_begin 47 = .ok (.iconst 0, 1) := by decide +kernel
theorem dX1_begin_48 : decode cX1_begin 48 = .ok (.iastore, 1) := by decide +kernel
theorem dX1_begin_49 : decode cX1_begin 49 = .ok (.aload_n 0, 1) := by decide +kernel
theorem dX1_begin_50 : decode cX1_begin 50 = .ok (.getfield 16, 3) := by decide +kernel
theorem dX1_begin_53 : decode cX1_begin 53 = .ok (.iload_n 2, 1) := by decide +kernel
theorem dX1_begin_54 : decode cX1_begin 54 = .ok (.aaload, 1) := by decide +kernel
theorem dX1_begin_55 : decode cX1_begin 55 = .ok (.iload_n 3, 1) := by decide +kernel
theorem dX1_begin_56 : decode cX1_begin 56 = .ok (.iload_n 2, 1) := by decide +kernel
theorem dX1_begin_57 : decode cX1_begin 57 = .ok (.iload_n 3, 1) := by decide +kernel
theorem dX1_begin_58 : decode cX1_begin 58 = .ok (.if_icmp .ne 7, 3) := by decide +kernel
theorem dX1_begin_61 : decode cX1_begin 61 = .ok (.iconst 0, 1) := by decide +kernel
theorem dX1_begin_62 : decode cX1_begin 62 = .ok (.goto 5, 3) := by decide +kernel
theorem dX1_begin_65 : decode cX1_begin 65 = .ok (.bipush 99, 2) := by decide +kernel
theorem dX1_begin_67 : decode cX1_begin 67 = .ok (.iastore, 1) := by decide +kernel
theorem dX1_begin_68 : decode cX1_begin 68 = .ok (.iinc 3 1, 3) := by decide +kernel
theorem dX1_begin_71 : decode cX1_begin 71 = .ok (.goto (-37), 3) := by decide +kernel
theorem dX1_begin_74 : decode cX1_begin 74 = .ok (.iinc 2 1, 3) := by decide +kernel
theorem dX1_begin_77 : decode cX1_begin 77 = .ok (.goto (-65), 3) := by decide +kernel
theorem dX1_begin_80 : decode cX1_begin 80 = .ok (.aload_n 0, 1) := by decide +kernel
theorem dX1_begin_81 : decode cX1_begin 81 = .ok (.iconst 2, 1) := by decide +kernel
theorem dX1_begin_82 : decode cX1_begin 82 = .ok (.iconst 1, 1) := by decide +kernel
theorem dX1_begin_83 : decode cX1_begin 83 = .ok (.iconst 5, 1) := by decide +kernel
theorem dX1_begin_84 : decode cX1_begin 84 = .ok (.bipush 10, 2) := by decide +kernel
theorem dX1_begin_86 : decode cX1_begin 86 = .ok (.invokevirtual 40, 3) := by decide +kernel
theorem dX1_begin_89 : decode cX1_begin 89 = .ok (.return_, 1) := by decide +kernel
theorem dX1_price_0 : decode cX1_price 0 = .ok (.aload_n 0, 1) := by decide +kernel
theorem dX1_price_1 : decode cX1_price 1 = .ok (.iload_n 1, 1) := by decide +kernel
theorem dX1_price_2 : decode cX1_price 2 = .ok (.putfield 44, 3) := by decide +kernel
theorem dX1_price_5 : decode cX1_price 5 = .ok (.aload_n 0, 1) := by decide +kernel
theorem dX1_price_6 : decode cX1_price 6 = .ok (.iload_n 2, 1) := by decide +kernel
theorem dX1_price_7 : decode cX1_price 7 = .ok (.putfield 47, 3) := by decide +kernel
theorem dX1_price_10 : decode cX1_price 10 = .ok (.aload_n 0, 1) := by decide +kernel
theorem dX1_price_11 : decode cX1_price 11 = .ok (.iload_n 3, 1) := by decide +kernel
theorem dX1_price_12 : decode cX1_price 12 = .ok (.putfield 50, 3) := by decide +kernel
theorem dX1_price_15 : decode cX1_price 15 = .ok (.aload_n 0, 1) := by decide +kernel
theorem dX1_price_16 : decode cX1_price 16 = .ok (.iload 4, 2) := by decide +kernel
theorem dX1_price_18 : decode cX1_price 18 = .ok (.putfield 53, 3) := by decide +kernel
theorem dX1_price_21 : decode cX1_price 21 = .ok (.return_, 1) := by decide +kernel
set_option maxRecDepth 20000 in
theorem ggX1_join_X1_lead : GoodIn wsX1_join wsX1_lead := goodIn_r _ [6, 7, 8, 9, 10, 11, 12, 13, 14, 15, 16, 17, 18, 19, 20, 21, 22] (by decide +kernel) (by decide +kernel)
set_option maxRecDepth 20000 in
theorem gX1_join_X1_lead : GoodIn wsX1_join (wsV RX1 56 RX1 yX1_lead wsX1_lead) := goodIn_app (goodIn_of _ (by decide +kernel)) ggX1_join_X1_lead
theorem dX1_join_0 : decode cX1_join 0 = .ok (.aload_n 0, 1) := by decide +kernel
theorem dX1_join_1 : decode cX1_join 1 = .ok (.dup, 1) := by decide +kernel
theorem dX1_join_2 : decode cX1_join 2 = .ok (.getfield 37, 3) := by decide +kernel
theorem dX1_join_5 : decode cX1_join 5 = .ok (.iconst 1, 1) := by decide +kernel
theorem dX1_join_6 : decode cX1_join 6 = .ok (.iadd, 1) := by decide +kernel
theorem dX1_join_7 : decode cX1_join 7 = .ok (.putfield 37, 3) := by decide +kernel
theorem dX1_join_10 : decode cX1_join 10 = .ok (.aload_n 0, 1) := by decide +kernel
theorem dX1_join_11 : decode cX1_join 11 = .ok (.iload_n 1, 1) := by decide +kernel
theorem dX1_join_12 : decode cX1_join 12 = .ok (.iload_n 2, 1) := by decide +kernel
theorem dX1_join_13 : decode cX1_join 13 = .ok (.iload_n 3, 1) := by decide +kernel
theorem dX1_join_14 : decode cX1_join 14 = .ok (.invokevirtual 56, 3) := by decide +kernel
theorem dX1_join_17 : decode cX1_join 17 = .ok (.aload_n 0, 1) := by decide +kernel
theorem dX1_join_18 : decode cX1_join 18 = .ok (.iload_n 2, 1) := by decide +kernel
theorem dX1_join_19 : decode cX1_join 19 = .ok (.iload_n 1, 1) := by decide +kernel
theorem dX1_join_20 : decode cX1_join 20 = .ok (.iload 4, 2) := by decide +kernel
theorem dX1_join_22 : decode cX1_join 22 = .ok (.invokevirtual 56, 3) := by decide +kernel
theorem dX1_join_25 : decode cX1_join 25 = .ok (.return_, 1) := by decide +kernel
theorem dX1_lead_0 : decode cX1_lead 0 = .ok (.aload_n 0, 1) := by decide +kernel
theorem dX1_lead_1 : decode cX1_lead 1 = .ok (.getfield 11, 3) := by decide +kernel
theorem dX1_lead_4 : decode cX1_lead 4 = .ok (.iload_n 1, 1) := by decide +kernel
theorem dX1_lead_5 : decode cX1_lead 5 = .ok (.aaload, 1) := by decide +kernel
theorem dX1_lead_6 : decode cX1_lead 6 = .ok (.iload_n 2, 1) := by decide +kernel
theorem dX1_lead_7 : decode cX1_lead 7 = .ok (.iload_n 3, 1) := by decide +kernel
theorem dX1_lead_8 : decode cX1_lead 8 = .ok (.iastore, 1) := by decide +kernel
theorem dX1_lead_9 : decode cX1_lead 9 = .ok (.aload_n 0, 1) := by decide +kernel
theorem dX1_lead_10 : decode cX1_lead 10 = .ok (.getfield 16, 3) := by decide +kernel
theorem dX1_lead_13 : decode cX1_lead 13 = .ok (.iload_n 1, 1) := by decide +kernel
theorem dX1_lead_14 : decode cX1_lead 14 = .ok (.aaload, 1) := by decide +kernel
theorem dX1_lead_15 : decode cX1_lead 15 = .ok (.iload_n 2, 1) := by decide +kernel
theorem dX1_lead_16 : decode cX1_lead 16 = .ok (.iconst 1, 1) := by decide +kernel
theorem dX1_lead_17 : decode cX1_lead 17 = .ok (.iastore, 1) := by decide +kernel
theorem dX1_lead_18 : decode cX1_lead 18 = .ok (.aload_n 0, 1) := by decide +kernel
theorem dX1_lead_19 : decode cX1_lead 19 = .ok (.getfield 19, 3) := by decide +kernel
theorem dX1_lead_22 : decode cX1_lead 22 = .ok (.iload_n 1, 1) := by decide +kernel
theorem dX1_lead_23 : decode cX1_lead 23 = .ok (.dup2, 1) := by decide +kernel
theorem dX1_lead_24 : decode cX1_lead 24 = .ok (.iaload, 1) := by decide +kernel
theorem dX1_lead_25 : decode cX1_lead 25 = .ok (.iconst 1, 1) := by decide +kernel
theorem dX1_lead_26 : decode cX1_lead 26 = .ok (.iload_n 2, 1) := by decide +kernel
theorem dX1_lead_27 : decode cX1_lead 27 = .ok (.ishl, 1) := by decide +kernel
theorem dX1_lead_28 : decode cX1_lead 28 = .ok (.ior, 1) := by decide +kernel
theorem dX1_lead_29 : decode cX1_lead 29 = .ok (.iastore, 1) := by decide +kernel
theorem dX1_lead_30 : decode cX1_lead 30 = .ok (.aload_n 0, 1) := by decide +kernel
theorem dX1_lead_31 : decode cX1_lead 31 = .ok (.getfield 23, 3) := by decide +kernel
theorem dX1_lead_34 : decode cX1_lead 34 = .ok (.iload_n 1, 1) := by decide +kernel
theorem dX1_lead_35 : decode cX1_lead 35 = .ok (.dup2, 1) := by decide +kernel
theorem dX1_lead_36 : decode cX1_lead 36 = .ok (.iaload, 1) := by decide +kernel
theorem dX1_lead_37 : decode cX1_lead 37 = .ok (.iload_n 3, 1) := by decide +kernel
theorem dX1_lead_38 : decode cX1_lead 38 = .ok (.iadd, 1) := by decide +kernel
theorem dX1_lead_39 : decode cX1_lead 39 = .ok (.iastore, 1) := by decide +kernel
theorem dX1_lead_40 : decode cX1_lead 40 = .ok (.return_, 1) := by decide +kernel
theorem dX1_isWhole_0 : decode cX1_isWhole 0 = .ok (.iconst 0, 1) := by decide +kernel
theorem dX1_isWhole_1 : decode cX1_isWhole 1 = .ok (.istore_n 1, 1) := by decide +kernel
theorem dX1_isWhole_2 : decode cX1_isWhole 2 = .ok (.iload_n 1, 1) := by decide +kernel
theorem dX1_isWhole_3 : decode cX1_isWhole 3 = .ok (.aload_n 0, 1) := by decide +kernel
theorem dX1_isWhole_4 : decode cX1_isWhole 4 = .ok (.getfield 33, 3) := by decide +kernel
theorem dX1_isWhole_7 : decode cX1_isWhole 7 = .ok (.if_icmp .ge 77, 3) := by decide +kernel
theorem dX1_isWhole_10 : decode cX1_isWhole 10 = .ok (.iconst 0, 1) := by decide +kernel
theorem dX1_isWhole_11 : decode cX1_isWhole 11 = .ok (.istore_n 2, 1) := by decide +kernel
theorem dX1_isWhole_12 : decode cX1_isWhole 12 = .ok (.iload_n 2, 1) := by decide +kernel
theorem dX1_isWhole_13 : decode cX1_isWhole 13 = .ok (.aload_n 0, 1) := by decide +kernel
theorem dX1_isWhole_14 : decode cX1_isWhole 14 = .ok (.getfield 33, 3) := by decide +kernel
theorem dX1_isWhole_17 : decode cX1_isWhole 17 = .ok (.if_icmp .ge 61, 3) := by decide +kernel
theorem dX1_isWhole_20 : decode cX1_isWhole 20 = .ok (.iconst 0, 1) := by decide +kernel
theorem dX1_isWhole_21 : decode cX1_isWhole 21 = .ok (.istore_n 3, 1) := by decide +kernel
theorem dX1_isWhole_22 : decode cX1_isWhole 22 = .ok (.iload_n 3, 1) := by decide +kernel
theorem dX1_isWhole_23 : decode cX1_isWhole 23 = .ok (.aload_n 0, 1) := by decide +kernel
theorem dX1_isWhole_24 : decode cX1_isWhole 24 = .ok (.getfield 33, 3) := by decide +kernel
theorem dX1_isWhole_27 : decode cX1_isWhole 27 = .ok (.if_icmp .ge 45, 3) := by decide +kernel
theorem dX1_isWhole_30 : decode cX1_isWhole 30 = .ok (.aload_n 0, 1) := by decide +kernel
theorem dX1_isWhole_31 : decode cX1_isWhole 31 = .ok (.getfield 16, 3) := by decide +kernel
theorem dX1_isWhole_34 : decode cX1_isWhole 34 = .ok (.iload_n 2, 1) := by decide +kernel
theorem dX1_isWhole_35 : decode cX1_isWhole 35 = .ok (.aaload, 1) := by decide +kernel
theorem dX1_isWhole_36 : decode cX1_isWhole 36 = .ok (.iload_n 3, 1) := by decide +kernel
theorem dX1_isWhole_37 : decode cX1_isWhole 37 = .ok (.aload_n 0, 1) := by decide +kernel
theorem dX1_isWhole_38 : decode cX1_isWhole 38 = .ok (.getfield 16, 3) := by decide +kernel
theorem dX1_isWhole_41 : decode cX1_isWhole 41 = .ok (.iload_n 2, 1) := by decide +kernel
theorem dX1_isWhole_42 : decode cX1_isWhole 42 = .ok (.aaload, 1) := by decide +kernel
theorem dX1_isWhole_43 : decode cX1_isWhole 43 = .ok (.iload_n 3, 1) := by decide +kernel
theorem dX1_isWhole_44 : decode cX1_isWhole 44 = .ok (.iaload, 1) := by decide +kernel
theorem dX1_isWhole_45 : decode cX1_isWhole 45 = .ok (.aload_n 0, 1) := by decide +kernel
theorem dX1_isWhole_46 : decode cX1_isWhole 46 = .ok (.getfield 16, 3) := by decide +kernel
theorem dX1_isWhole_49 : decode cX1_isWhole 49 = .ok (.iload_n 2, 1) := by decide +kernel
theorem dX1_isWhole_50 : decode cX1_isWhole 50 = .ok (.aaload, 1) := by decide +kernel
theorem dX1_isWhole_51 : decode cX1_isWhole 51 = .ok (.iload_n 1, 1) := by decide +kernel
theorem dX1_isWhole_52 : decode cX1_isWhole 52 = .ok (.iaload, 1) := by decide +kernel
theorem dX1_isWhole_53 : decode cX1_isWhole 53 = .ok (.aload_n 0, 1) := by decide +kernel
theorem dX1_isWhole_54 : decode cX1_isWhole 54 = .ok (.getfield 16, 3) := by decide +kernel
theorem dX1_isWhole_57 : decode cX1_isWhole 57 = .ok (.iload_n 1, 1) := by decide +kernel
theorem dX1_isWhole_58 : decode cX1_isWhole 58 = .ok (.aaload, 1) := by decide +kernel
theorem dX1_isWhole_59 : decode cX1_isWhole 59 = .ok (.iload_n 3, 1) := by decide +kernel
theorem dX1_isWhole_60 : decode cX1_isWhole 60 = .ok (.iaload, 1) := by decide +kernel
theorem dX1_isWhole_61 : decode cX1_isWhole 61 = .ok (.iadd, 1) := by decide +kernel
theorem dX1_isWhole_62 : decode cX1_isWhole 62 = .ok (.invokestatic 60, 3) := by decide +kernel
theorem dX1_isWhole_65 : decode cX1_isWhole 65 = .ok (.iastore, 1) := by decide +kernel
theorem dX1_isWhole_66 : decode cX1_isWhole 66 = .ok (.iinc 3 1, 3) := by decide +kernel
theorem dX1_isWhole_69 : decode cX1_isWhole 69 = .ok (.goto (-47), 3) := by decide +kernel
theorem dX1_isWhole_72 : decode cX1_isWhole 72 = .ok (.iinc 2 1, 3) := by decide +kernel
theorem dX1_isWhole_75 : decode cX1_isWhole 75 = .ok (.goto (-63), 3) := by decide +kernel
theorem dX1_isWhole_78 : decode cX1_isWhole 78 = .ok (.iinc 1 1, 3) := by decide +kernel
theorem dX1_isWhole_81 : decode cX1_isWhole 81 = .ok (.goto (-79), 3) := by decide +kernel
theorem dX1_isWhole_84 : decode cX1_isWhole 84 = .ok (.iconst 1, 1) := by decide +kernel
theorem dX1_isWhole_85 : decode cX1_isWhole 85 = .ok (.istore_n 1, 1) := by decide +kernel
theorem dX1_isWhole_86 : decode cX1_isWhole 86 = .ok (.iload_n 1, 1) := by decide +kernel
theorem dX1_isWhole_87 : decode cX1_isWhole 87 = .ok (.aload_n 0, 1) := by decide +kernel
theorem dX1_isWhole_88 : decode cX1_isWhole 88 = .ok (.getfield 33, 3) := by decide +kernel
theorem dX1_isWhole_91 : decode cX1_isWhole 91 = .ok (.if_icmp .ge 24, 3) := by decide +kernel
theorem dX1_isWhole_94 : decode cX1_isWhole 94 = .ok (.aload_n 0, 1) := by decide +kernel
theorem dX1_isWhole_95 : decode cX1_isWhole 95 = .ok (.getfield 16, 3) := by decide +kernel
theorem dX1_isWhole_98 : decode cX1_isWhole 98 = .ok (.iconst 0, 1) := by decide +kernel
theorem dX1_isWhole_99 : decode cX1_isWhole 99 = .ok (.aaload, 1) := by decide +kernel
theorem dX1_isWhole_100 : decode cX1_isWhole 100 = .ok (.iload_n 1, 1) := by decide +kernel
theorem dX1_isWhole_101 : decode cX1_isWhole 101 = .ok (.iaload, 1) := by decide +kernel
theorem dX1_isWhole_102 : decode cX1_isWhole 102 = .ok (.bipush 99, 2) := by decide +kernel
theorem dX1_isWhole_104 : decode cX1_isWhole 104 = .ok (.if_icmp .lt 5, 3) := by decide +kernel
theorem dX1_isWhole_107 : decode cX1_isWhole 107 = .ok (.iconst 0, 1) := by decide +kernel
theorem dX1_isWhole_108 : decode cX1_isWhole 108 = .ok (.ireturn, 1) := by decide +kernel
theorem dX1_isWhole_109 : decode cX1_isWhole 109 = .ok (.iinc 1 1, 3) := by decide +kernel
theorem dX1_isWhole_112 : decode cX1_isWhole 112 = .ok (.goto (-26), 3) := by decide +kernel
theorem dX1_isWhole_115 : decode cX1_isWhole 115 = .ok (.aload_n 0, 1) := by decide +kernel
theorem dX1_isWhole_116 : decode cX1_isWhole 116 = .ok (.getfield 33, 3) := by decide +kernel
theorem dX1_isWhole_119 : decode cX1_isWhole 119 = .ok (.iconst 2, 1) := by decide +kernel
theorem dX1_isWhole_120 : decode cX1_isWhole 120 = .ok (.if_icmp .lt 7, 3) := by decide +kernel
theorem dX1_isWhole_123 : decode cX1_isWhole 123 = .ok (.iconst 1, 1) := by decide +kernel
theorem dX1_isWhole_124 : decode cX1_isWhole 124 = .ok (.goto 4, 3) := by decide +kernel
theorem dX1_isWhole_127 : decode cX1_isWhole 127 = .ok (.iconst 0, 1) := by decide +kernel
theorem dX1_isWhole_128 : decode cX1_isWhole 128 = .ok (.ireturn, 1) := by decide +kernel
set_option maxRecDepth 20000 in
theorem ggX1_growTrees_X1_treesTo : GoodIn wsX1_growTrees wsX1_treesTo := goodIn_r _ [7, 1, 8, 9, 10, 11, 12, 13, 14, 15, 16, 17, 18, 6, 19, 20, 21, 22, 23, 24, 25, 26, 27, 28, 29, 30, 31, 32, 33, 34, 35, 36, 37, 38, 39, 40] (by decide +kernel) (by decide +kernel)
set_option maxRecDepth 20000 in
theorem gX1_growTrees_X1_treesTo : GoodIn wsX1_growTrees (wsV RX1 66 RX1 yX1_treesTo wsX1_treesTo) := goodIn_app (goodIn_of _ (by decide +kernel)) ggX1_growTrees_X1_treesTo
theorem dX1_growTrees_0 : decode cX1_growTrees 0 = .ok (.iconst 0, 1) := by decide +kernel
theorem dX1_growTrees_1 : decode cX1_growTrees 1 = .ok (.istore_n 1, 1) := by decide +kernel
theorem dX1_growTrees_2 : decode cX1_growTrees 2 = .ok (.iload_n 1, 1) := by decide +kernel
theorem dX1_growTrees_3 : decode cX1_growTrees 3 = .ok (.aload_n 0, 1) := by decide +kernel
theorem dX1_growTrees_4 : decode cX1_growTrees 4 = .ok (.getfield 33, 3) := by decide +kernel
theorem dX1_growTrees_7 : decode cX1_growTrees 7 = .ok (.if_icmp .ge 20, 3) := by decide +kernel
theorem dX1_growTrees_10 : decode cX1_growTrees 10 = .ok (.aload_n 0, 1) := by decide +kernel
theorem dX1_growTrees_11 : decode cX1_growTrees 11 = .ok (.getfield 26, 3) := by decide +kernel
theorem dX1_growTrees_14 : decode cX1_growTrees 14 = .ok (.iload_n 1, 1) := by decide +kernel
theorem dX1_growTrees_15 : decode cX1_growTrees 15 = .ok (.aload_n 0, 1) := by decide +kernel
theorem dX1_growTrees_16 : decode cX1_growTrees 16 = .ok (.iload_n 1, 1) := by decide +kernel
theorem dX1_growTrees_17 : decode cX1_growTrees 17 = .ok (.invokevirtual 66, 3) := by decide +kernel
theorem dX1_growTrees_20 : decode cX1_growTrees 20 = .ok (.lastore, 1) := by decide +kernel
theorem dX1_growTrees_21 : decode cX1_growTrees 21 = .ok (.iinc 1 1, 3) := by decide +kernel
theorem dX1_growTrees_24 : decode cX1_growTrees 24 = .ok (.goto (-22), 3) := by decide +kernel
theorem dX1_growTrees_27 : decode cX1_growTrees 27 = .ok (.return_, 1) := by decide +kernel
set_option maxRecDepth 20000 in
theorem ggX1_treesTo_J6_bitCount_0f7a4 : GoodIn wsX1_treesTo wsJ6_bitCount_0f7a4 := goodIn_r _ [6, 7, 8, 9] (by decide +kernel) (by decide +kernel)
set_option maxRecDepth 20000 in
theorem gX1_treesTo_J6_bitCount_0f7a4 : GoodIn wsX1_treesTo (va_wsS RX1 70 yJ6_bitCount_0f7a4 wsJ6_bitCount_0f7a4) := goodIn_app (goodIn_of _ (by decide +kernel)) ggX1_treesTo_J6_bitCount_0f7a4
set_option maxRecDepth 20000 in
theorem ggX1_treesTo_X1_rowOf : GoodIn wsX1_treesTo wsX1_rowOf := goodIn_r _ [14] (by decide +kernel) (by decide +kernel)
set_option maxRecDepth 20000 in
theorem gX1_treesTo_X1_rowOf : GoodIn wsX1_treesTo (wsV RX1 76 RX1 yX1_rowOf wsX1_rowOf) := goodIn_app (goodIn_of _ (by decide +kernel)) ggX1_treesTo_X1_rowOf
set_option maxRecDepth 20000 in
theorem ggX1_treesTo_X1_minorOf : GoodIn wsX1_treesTo wsX1_minorOf := goodIn_r _ [18, 1, 19, 20, 2, 21, 22, 23, 3, 4, 5, 6, 7, 8, 9, 24, 25, 26, 27, 28, 29, 30, 31, 32, 33, 34, 35] (by decide +kernel) (by decide +kernel)
set_option maxRecDepth 20000 in
theorem gX1_treesTo_X1_minorOf : GoodIn wsX1_treesTo (wsV RX1 79 RX1 yX1_minorOf wsX1_minorOf) := goodIn_app (goodIn_of _ (by decide +kernel)) ggX1_treesTo_X1_minorOf
theorem dX1_treesTo_0 : decode cX1_treesTo 0 = .ok (.iconst 1, 1) := by decide +kernel
theorem dX1_treesTo_1 : decode cX1_treesTo 1 = .ok (.aload_n 0, 1) := by decide +kernel
theorem dX1_treesTo_2 : decode cX1_treesTo 2 = .ok (.getfield 33, 3) := by decide +kernel
theorem dX1_treesTo_5 : decode cX1_treesTo 5 = .ok (.ishl, 1) := by decide +kernel
theorem dX1_treesTo_6 : decode cX1_treesTo 6 = .ok (.iconst 1, 1) := by decide +kernel
theorem dX1_treesTo_7 : decode cX1_treesTo 7 = .ok (.isub, 1) := by decide +kernel
theorem dX1_treesTo_8 : decode cX1_treesTo 8 = .ok (.iconst 1, 1) := by decide +kernel
theorem dX1_treesTo_9 : decode cX1_treesTo 9 = .ok (.iload_n 1, 1) := by decide +kernel
theorem dX1_treesTo_10 : decode cX1_treesTo 10 = .ok (.ishl, 1) := by decide +kernel
theorem dX1_treesTo_11 : decode cX1_treesTo 11 = .ok (.iconst (-1), 1) := by decide +kernel
theorem dX1_treesTo_12 : decode cX1_treesTo 12 = .ok (.ixor, 1) := by decide +kernel
theorem dX1_treesTo_13 : decode cX1_treesTo 13 = .ok (.iand, 1) := by decide +kernel
theorem dX1_treesTo_14 : decode cX1_treesTo 14 = .ok (.istore_n 2, 1) := by decide +kernel
theorem dX1_treesTo_15 : decode cX1_treesTo 15 = .ok (.aload_n 0, 1) := by decide +kernel
theorem dX1_treesTo_16 : decode cX1_treesTo 16 = .ok (.getfield 30, 3) := by decide +kernel
theorem dX1_treesTo_19 : decode cX1_treesTo 19 = .ok (.iconst 0, 1) := by decide +kernel
theorem dX1_treesTo_20 : decode cX1_treesTo 20 = .ok (.lconst 1, 1) := by decide +kernel
theorem dX1_treesTo_21 : decode cX1_treesTo 21 = .ok (.lastore, 1) := by decide +kernel
theorem dX1_treesTo_22 : decode cX1_treesTo 22 = .ok (.iconst 1, 1) := by decide +kernel
theorem dX1_treesTo_23 : decode cX1_treesTo 23 = .ok (.istore_n 3, 1) := by decide +kernel
theorem dX1_treesTo_24 : decode cX1_treesTo 24 = .ok (.iload_n 3, 1) := by decide +kernel
theorem dX1_treesTo_25 : decode cX1_treesTo 25 = .ok (.iload_n 2, 1) := by decide +kernel
theorem dX1_treesTo_26 : decode cX1_treesTo 26 = .ok (.if_icmp .gt 39, 3) := by decide +kernel
theorem dX1_treesTo_29 : decode cX1_treesTo 29 = .ok (.iload_n 3, 1) := by decide +kernel
theorem dX1_treesTo_30 : decode cX1_treesTo 30 = .ok (.iload_n 2, 1) := by decide +kernel
theorem dX1_treesTo_31 : decode cX1_treesTo 31 = .ok (.iconst (-1), 1) := by decide +kernel
theorem dX1_treesTo_32 : decode cX1_treesTo 32 = .ok (.ixor, 1) := by decide +kernel
theorem dX1_treesTo_33 : decode cX1_treesTo 33 = .ok (.iand, 1) := by decide +kernel
theorem dX1_treesTo_34 : decode cX1_treesTo 34 = .ok (.ifCond .ne 25, 3) := by decide +kernel
theorem dX1_treesTo_37 : decode cX1_treesTo 37 = .ok (.aload_n 0, 1) := by decide +kernel
theorem dX1_treesTo_38 : decode cX1_treesTo 38 = .ok (.getfield 30, 3) := by decide +kernel
theorem dX1_treesTo_41 : decode cX1_treesTo 41 = .ok (.iload_n 3, 1) := by decide +kernel
theorem dX1_treesTo_42 : decode cX1_treesTo 42 = .ok (.aload_n 0, 1) := by decide +kernel
theorem dX1_treesTo_43 : decode cX1_treesTo 43 = .ok (.iload_n 3, 1) := by decide +kernel
theorem dX1_treesTo_44 : decode cX1_treesTo 44 = .ok (.aload_n 0, 1) := by decide +kernel
theorem dX1_treesTo_45 : decode cX1_treesTo 45 = .ok (.iload_n 3, 1) := by decide +kernel
theorem dX1_treesTo_46 : decode cX1_treesTo 46 = .ok (.invokestatic 70, 3) := by decide +kernel
theorem dX1_treesTo_49 : decode cX1_treesTo 49 = .ok (.iconst 1, 1) := by decide +kernel
theorem dX1_treesTo_50 : decode cX1_treesTo 50 = .ok (.isub, 1) := by decide +kernel
theorem dX1_treesTo_51 : decode cX1_treesTo 51 = .ok (.iload_n 1, 1) := by decide +kernel
theorem dX1_treesTo_52 : decode cX1_treesTo 52 = .ok (.invokevirtual 76, 3) := by decide +kernel
theorem dX1_treesTo_55 : decode cX1_treesTo 55 = .ok (.invokevirtual 79, 3) := by decide +kernel
theorem dX1_treesTo_58 : decode cX1_treesTo 58 = .ok (.lastore, 1) := by decide +kernel
theorem dX1_treesTo_59 : decode cX1_treesTo 59 = .ok (.iinc 3 1, 3) := by decide +kernel
theorem dX1_treesTo_62 : decode cX1_treesTo 62 = .ok (.goto (-38), 3) := by decide +kernel
theorem dX1_treesTo_65 : decode cX1_treesTo 65 = .ok (.aload_n 0, 1) := by decide +kernel
theorem dX1_treesTo_66 : decode cX1_treesTo 66 = .ok (.getfield 30, 3) := by decide +kernel
theorem dX1_treesTo_69 : decode cX1_treesTo 69 = .ok (.iload_n 2, 1) := by decide +kernel
theorem dX1_treesTo_70 : decode cX1_treesTo 70 = .ok (.laload, 1) := by decide +kernel
theorem dX1_treesTo_71 : decode cX1_treesTo 71 = .ok (.lreturn, 1) := by decide +kernel
theorem dX1_rowOf_0 : decode cX1_rowOf 0 = .ok (.iload_n 1, 1) := by decide +kernel
theorem dX1_rowOf_1 : decode cX1_rowOf 1 = .ok (.iload_n 2, 1) := by decide +kernel
theorem dX1_rowOf_2 : decode cX1_rowOf 2 = .ok (.if_icmp .ge 7, 3) := by decide +kernel
theorem dX1_rowOf_5 : decode cX1_rowOf 5 = .ok (.iload_n 1, 1) := by decide +kernel
theorem dX1_rowOf_6 : decode cX1_rowOf 6 = .ok (.goto 6, 3) := by decide +kernel
theorem dX1_rowOf_9 : decode cX1_rowOf 9 = .ok (.iload_n 1, 1) := by decide +kernel
theorem dX1_rowOf_10 : decode cX1_rowOf 10 = .ok (.iconst 1, 1) := by decide +kernel
theorem dX1_rowOf_11 : decode cX1_rowOf 11 = .ok (.iadd, 1) := by decide +kernel
theorem dX1_rowOf_12 : decode cX1_rowOf 12 = .ok (.ireturn, 1) := by decide +kernel
set_option maxRecDepth 20000 in
theorem ggX1_minorOf_X7_holds : GoodIn wsX1_minorOf wsX7_holds := goodIn_r _ [7] (by decide +kernel) (by decide +kernel)
set_option maxRecDepth 20000 in
theorem gX1_minorOf_X7_holds_n83 : GoodIn wsX1_minorOf (wsX7_holds) := ggX1_minorOf_X7_holds
set_option maxRecDepth 20000 in
theorem ggX1_minorOf_J6_bitCount_0f7a4 : GoodIn wsX1_minorOf wsJ6_bitCount_0f7a4 := goodIn_r _ [11, 12, 13, 14] (by decide +kernel) (by decide +kernel)
set_option maxRecDepth 20000 in
theorem gX1_minorOf_J6_bitCount_0f7a4 : GoodIn wsX1_minorOf (va_wsS RX1 70 yJ6_bitCount_0f7a4 wsJ6_bitCount_0f7a4) := goodIn_app (goodIn_of _ (by decide +kernel)) ggX1_minorOf_J6_bitCount_0f7a4
theorem dX1_minorOf_0 : decode cX1_minorOf 0 = .ok (.lconst 0, 1) := by decide +kernel
theorem dX1_minorOf_1 : decode cX1_minorOf 1 = .ok (.lstore_n 3, 1) := by decide +kernel
theorem dX1_minorOf_2 : decode cX1_minorOf 2 = .ok (.iconst 0, 1) := by decide +kernel
theorem dX1_minorOf_3 : decode cX1_minorOf 3 = .ok (.istore 5, 2) := by decide +kernel
theorem dX1_minorOf_5 : decode cX1_minorOf 5 = .ok (.iload 5, 2) := by decide +kernel
theorem dX1_minorOf_7 : decode cX1_minorOf 7 = .ok (.aload_n 0, 1) := by decide +kernel
theorem dX1_minorOf_8 : decode cX1_minorOf 8 = .ok (.getfield 33, 3) := by decide +kernel
theorem dX1_minorOf_11 : decode cX1_minorOf 11 = .ok (.if_icmp .ge 99, 3) := by decide +kernel
theorem dX1_minorOf_14 : decode cX1_minorOf 14 = .ok (.iload_n 1, 1) := by decide +kernel
theorem dX1_minorOf_15 : decode cX1_minorOf 15 = .ok (.iload 5, 2) := by decide +kernel
theorem dX1_minorOf_17 : decode cX1_minorOf 17 = .ok (.invokestatic 83, 3) := by decide +kernel
theorem dX1_minorOf_20 : decode cX1_minorOf 20 = .ok (.ifCond .eq 84, 3) := by decide +kernel
theorem dX1_minorOf_23 : decode cX1_minorOf 23 = .ok (.iload_n 2, 1) := by decide +kernel
theorem dX1_minorOf_24 : decode cX1_minorOf 24 = .ok (.iload 5, 2) := by decide +kernel
theorem dX1_minorOf_26 : decode cX1_minorOf 26 = .ok (.if_icmp .ne 13, 3) := by decide +kernel
theorem dX1_minorOf_29 : decode cX1_minorOf 29 = .ok (.aload_n 0, 1) := by decide +kernel
theorem dX1_minorOf_30 : decode cX1_minorOf 30 = .ok (.getfield 23, 3) := by decide +kernel
theorem dX1_minorOf_33 : decode cX1_minorOf 33 = .ok (.iload_n 2, 1) := by decide +kernel
theorem dX1_minorOf_34 : decode cX1_minorOf 34 = .ok (.iaload, 1) := by decide +kernel
theorem dX1_minorOf_35 : decode cX1_minorOf 35 = .ok (.i2l, 1) := by decide +kernel
theorem dX1_minorOf_36 : decode cX1_minorOf 36 = .ok (.goto 14, 3) := by decide +kernel
theorem dX1_minorOf_39 : decode cX1_minorOf 39 = .ok (.aload_n 0, 1) := by decide +kernel
theorem dX1_minorOf_40 : decode cX1_minorOf 40 = .ok (.getfield 11, 3) := by decide +kernel
theorem dX1_minorOf_43 : decode cX1_minorOf 43 = .ok (.iload_n 2, 1) := by decide +kernel
theorem dX1_minorOf_44 : decode cX1_minorOf 44 = .ok (.aaload, 1) := by decide +kernel
theorem dX1_minorOf_45 : decode cX1_minorOf 45 = .ok (.iload 5, 2) := by decide +kernel
theorem dX1_minorOf_47 : decode cX1_minorOf 47 = .ok (.iaload, 1) := by decide +kernel
theorem dX1_minorOf_48 : decode cX1_minorOf 48 = .ok (.ineg, 1) := by decide +kernel
theorem dX1_minorOf_49 : decode cX1_minorOf 49 = .ok (.i2l, 1) := by decide +kernel
theorem dX1_minorOf_50 : decode cX1_minorOf 50 = .ok (.lstore 6, 2) := by decide +kernel
theorem dX1_minorOf_52 : decode cX1_minorOf 52 = .ok (.iload_n 1, 1) := by decide +kernel
theorem dX1_minorOf_53 : decode cX1_minorOf 53 = .ok (.iload 5, 2) := by decide +kernel
theorem dX1_minorOf_55 : decode cX1_minorOf 55 = .ok (.iconst 1, 1) := by decide +kernel
theorem dX1_minorOf_56 : decode cX1_minorOf 56 = .ok (.iadd, 1) := by decide +kernel
theorem dX1_minorOf_57 : decode cX1_minorOf 57 = .ok (.ishr, 1) := by decide +kernel
theorem dX1_minorOf_58 : decode cX1_minorOf 58 = .ok (.invokestatic 70, 3) := by decide +kernel
theorem dX1_minorOf_61 : decode cX1_minorOf 61 = .ok (.iconst 1, 1) := by decide +kernel
theorem dX1_minorOf_62 : decode cX1_minorOf 62 = .ok (.iand, 1) := by decide +kernel
theorem dX1_minorOf_63 : decode cX1_minorOf 63 = .ok (.iconst 1, 1) := by decide +kernel
theorem dX1_minorOf_64 : decode cX1_minorOf 64 = .ok (.if_icmp .ne 7, 3) := by decide +kernel
theorem dX1_minorOf_67 : decode cX1_minorOf 67 = .ok (.iconst 1, 1) := by decide +kernel
theorem dX1_minorOf_68 : decode cX1_minorOf 68 = .ok (.goto 4, 3) := by decide +kernel
theorem dX1_minorOf_71 : decode cX1_minorOf 71 = .ok (.iconst 0, 1) := by decide +kernel
theorem dX1_minorOf_72 : decode cX1_minorOf 72 = .ok (.istore 8, 2) := by decide +kernel
theorem dX1_minorOf_74 : decode cX1_minorOf 74 = .ok (.lload_n 3, 1) := by decide +kernel
theorem dX1_minorOf_75 : decode cX1_minorOf 75 = .ok (.iload 8, 2) := by decide +kernel
theorem dX1_minorOf_77 : decode cX1_minorOf 77 = .ok (.ifCond .eq 9, 3) := by decide +kernel
theorem dX1_minorOf_80 : decode cX1_minorOf 80 = .ok (.lload 6, 2) := by decide +kernel
theorem dX1_minorOf_82 : decode cX1_minorOf 82 = .ok (.lneg, 1) := by decide +kernel
theorem dX1_minorOf_83 : decode cX1_minorOf 83 = .ok (.goto 5, 3) := by decide +kernel
theorem dX1_minorOf_86 : decode cX1_minorOf 86 = .ok (.lload 6, 2) := by decide +kernel
theorem dX1_minorOf_88 : decode cX1_minorOf 88 = .ok (.aload_n 0, 1) := by decide +kernel
theorem dX1_minorOf_89 : decode cX1_minorOf 89 = .ok (.getfield 30, 3) := by decide +kernel
theorem dX1_minorOf_92 : decode cX1_minorOf 92 = .ok (.iload_n 1, 1) := by decide +kernel
theorem dX1_minorOf_93 : decode cX1_minorOf 93 = .ok (.iconst 1, 1) := by decide +kernel
theorem dX1_minorOf_94 : decode cX1_minorOf 94 = .ok (.iload 5, 2) := by decide +kernel
theorem dX1_minorOf_96 : decode cX1_minorOf 96 = .ok (.ishl, 1) := by decide +kernel
theorem dX1_minorOf_97 : decode cX1_minorOf 97 = .ok (.iconst (-1), 1) := by decide +kernel
theorem dX1_minorOf_98 : decode cX1_minorOf 98 = .ok (.ixor, 1) := by decide +kernel
theorem dX1_minorOf_99 : decode cX1_minorOf 99 = .ok (.iand, 1) := by decide +kernel
theorem dX1_minorOf_100 : decode cX1_minorOf 100 = .ok (.laload, 1) := by decide +kernel
theorem dX1_minorOf_101 : decode cX1_minorOf 101 = .ok (.lmul, 1) := by decide +kernel
theorem dX1_minorOf_102 : decode cX1_minorOf 102 = .ok (.ladd, 1) := by decide +kernel
theorem dX1_minorOf_103 : decode cX1_minorOf 103 = .ok (.lstore_n 3, 1) := by decide +kernel
theorem dX1_minorOf_104 : decode cX1_minorOf 104 = .ok (.iinc 5 1, 3) := by decide +kernel
theorem dX1_minorOf_107 : decode cX1_minorOf 107 = .ok (.goto (-102), 3) := by decide +kernel
theorem dX1_minorOf_110 : decode cX1_minorOf 110 = .ok (.lload_n 3, 1) := by decide +kernel
theorem dX1_minorOf_111 : decode cX1_minorOf 111 = .ok (.lreturn, 1) := by decide +kernel
set_option maxRecDepth 20000 in
theorem ggX2_init_X4_init : GoodIn wsX2_init wsX4_init := goodIn_r _ [9, 10, 2, 3, 11, 12, 13, 17, 18, 19, 20, 21, 22, 23, 24, 25, 26] (by decide +kernel) (by decide +kernel)
set_option maxRecDepth 20000 in
theorem gX2_init_X4_init_n17 : GoodIn wsX2_init (wsX4_init) := ggX2_init_X4_init
theorem dX2_init_0 : decode cX2_init 0 = .ok (.aload_n 0, 1) := by decide +kernel
theorem dX2_init_1 : decode cX2_init 1 = .ok (.invokespecial 3, 3) := by decide +kernel
theorem dX2_init_4 : decode cX2_init 4 = .ok (.aload_n 0, 1) := by decide +kernel
theorem dX2_init_5 : decode cX2_init 5 = .ok (.bipush 6, 2) := by decide +kernel
theorem dX2_init_7 : decode cX2_init 7 = .ok (.anewarray 9, 3) := by decide +kernel
theorem dX2_init_10 : decode cX2_init 10 = .ok (.putfield 11, 3) := by decide +kernel
theorem dX2_init_13 : decode cX2_init 13 = .ok (.iconst 0, 1) := by decide +kernel
theorem dX2_init_14 : decode cX2_init 14 = .ok (.istore_n 1, 1) := by decide +kernel
theorem dX2_init_15 : decode cX2_init 15 = .ok (.iload_n 1, 1) := by decide +kernel
theorem dX2_init_16 : decode cX2_init 16 = .ok (.bipush 6, 2) := by decide +kernel
theorem dX2_init_18 : decode cX2_init 18 = .ok (.if_icmp .ge 22, 3) := by decide +kernel
theorem dX2_init_21 : decode cX2_init 21 = .ok (.aload_n 0, 1) := by decide +kernel
theorem dX2_init_22 : decode cX2_init 22 = .ok (.getfield 11, 3) := by decide +kernel
theorem dX2_init_25 : decode cX2_init 25 = .ok (.iload_n 1, 1) := by decide +kernel
theorem dX2_init_26 : decode cX2_init 26 = .ok (.new 9, 3) := by decide +kernel
theorem dX2_init_29 : decode cX2_init 29 = .ok (.dup, 1) := by decide +kernel
theorem dX2_init_30 : decode cX2_init 30 = .ok (.invokespecial 17, 3) := by decide +kernel
theorem dX2_init_33 : decode cX2_init 33 = .ok (.aastore, 1) := by decide +kernel
theorem dX2_init_34 : decode cX2_init 34 = .ok (.iinc 1 1, 3) := by decide +kernel
theorem dX2_init_37 : decode cX2_init 37 = .ok (.goto (-22), 3) := by decide +kernel
theorem dX2_init_40 : decode cX2_init 40 = .ok (.return_, 1) := by decide +kernel
set_option maxRecDepth 20000 in
theorem ggX2_keep_X4_copyFrom : GoodIn wsX2_keep wsX4_copyFrom := goodIn_r _ [12, 13, 14, 15, 16, 17, 18, 19, 20, 21, 22, 23, 24, 25, 26, 30, 31, 32, 33, 34, 35, 36, 37, 38, 39] (by decide +kernel) (by decide +kernel)
set_option maxRecDepth 20000 in
theorem gX2_keep_X4_copyFrom : GoodIn wsX2_keep (wsV RX2 22 RX4 yX4_copyFrom wsX4_copyFrom) := goodIn_app (goodIn_of _ (by decide +kernel)) ggX2_keep_X4_copyFrom
theorem dX2_keep_0 : decode cX2_keep 0 = .ok (.aload_n 0, 1) := by decide +kernel
theorem dX2_keep_1 : decode cX2_keep 1 = .ok (.getfield 11, 3) := by decide +kernel
theorem dX2_keep_4 : decode cX2_keep 4 = .ok (.aload_n 0, 1) := by decide +kernel
theorem dX2_keep_5 : decode cX2_keep 5 = .ok (.getfield 18, 3) := by decide +kernel
theorem dX2_keep_8 : decode cX2_keep 8 = .ok (.aaload, 1) := by decide +kernel
theorem dX2_keep_9 : decode cX2_keep 9 = .ok (.aload_n 1, 1) := by decide +kernel
theorem dX2_keep_10 : decode cX2_keep 10 = .ok (.invokevirtual 22, 3) := by decide +kernel
theorem dX2_keep_13 : decode cX2_keep 13 = .ok (.aload_n 0, 1) := by decide +kernel
theorem dX2_keep_14 : decode cX2_keep 14 = .ok (.aload_n 0, 1) := by decide +kernel
theorem dX2_keep_15 : decode cX2_keep 15 = .ok (.getfield 18, 3) := by decide +kernel
theorem dX2_keep_18 : decode cX2_keep 18 = .ok (.iconst 1, 1) := by decide +kernel
theorem dX2_keep_19 : decode cX2_keep 19 = .ok (.iadd, 1) := by decide +kernel
theorem dX2_keep_20 : decode cX2_keep 20 = .ok (.bipush 6, 2) := by decide +kernel
theorem dX2_keep_22 : decode cX2_keep 22 = .ok (.if_icmp .ge 12, 3) := by decide +kernel
theorem dX2_keep_25 : decode cX2_keep 25 = .ok (.aload_n 0, 1) := by decide +kernel
theorem dX2_keep_26 : decode cX2_keep 26 = .ok (.getfield 18, 3) := by decide +kernel
theorem dX2_keep_29 : decode cX2_keep 29 = .ok (.iconst 1, 1) := by decide +kernel
theorem dX2_keep_30 : decode cX2_keep 30 = .ok (.iadd, 1) := by decide +kernel
theorem dX2_keep_31 : decode cX2_keep 31 = .ok (.goto 4, 3) := by decide +kernel
theorem dX2_keep_34 : decode cX2_keep 34 = .ok (.iconst 0, 1) := by decide +kernel
theorem dX2_keep_35 : decode cX2_keep 35 = .ok (.putfield 18, 3) := by decide +kernel
theorem dX2_keep_38 : decode cX2_keep 38 = .ok (.aload_n 0, 1) := by decide +kernel
theorem dX2_keep_39 : decode cX2_keep 39 = .ok (.aload_n 0, 1) := by decide +kernel
theorem dX2_keep_40 : decode cX2_keep 40 = .ok (.getfield 26, 3) := by decide +kernel
theorem dX2_keep_43 : decode cX2_keep 43 = .ok (.iconst 1, 1) := by decide +kernel
theorem dX2_keep_44 : decode cX2_keep 44 = .ok (.iadd, 1) := by decide +kernel
theorem dX2_keep_45 : decode cX2_keep 45 = .ok (.bipush 6, 2) := by decide +kernel
theorem dX2_keep_47 : decode cX2_keep 47 = .ok (.invokestatic 29, 3) := by decide +kernel
theorem dX2_keep_50 : decode cX2_keep 50 = .ok (.putfield 26, 3) := by decide +kernel
theorem dX2_keep_53 : decode cX2_keep 53 = .ok (.return_, 1) := by decide +kernel
set_option maxRecDepth 20000 in
theorem ggX2_bringBack_X4_copyFrom : GoodIn wsX2_bringBack wsX4_copyFrom := goodIn_r _ [8, 9, 10, 11, 12, 13, 14, 15, 16, 17, 18, 19, 20, 21, 22, 26, 27, 28, 29, 30, 31, 32, 33, 34, 35] (by decide +kernel) (by decide +kernel)
set_option maxRecDepth 20000 in
theorem gX2_bringBack_X4_copyFrom : GoodIn wsX2_bringBack (wsV RX2 22 RX4 yX4_copyFrom wsX4_copyFrom) := goodIn_app (goodIn_of _ (by decide +kernel)) ggX2_bringBack_X4_copyFrom
theorem dX2_bringBack_0 : decode cX2_bringBack 0 = .ok (.aload_n 0, 1) := by decide +kernel
theorem dX2_bringBack_1 : decode cX2_bringBack 1 = .ok (.getfield 26, 3) := by decide +kernel
theorem dX2_bringBack_4 : decode cX2_bringBack 4 = .ok (.ifCond .ne 5, 3) := by decide +kernel
theorem dX2_bringBack_7 : decode cX2_bringBack 7 = .ok (.iconst 0, 1) := by decide +kernel
theorem dX2_bringBack_8 : decode cX2_bringBack 8 = .ok (.ireturn, 1) := by decide +kernel
theorem dX2_bringBack_9 : decode cX2_bringBack 9 = .ok (.aload_n 0, 1) := by decide +kernel
theorem dX2_bringBack_10 : decode cX2_bringBack 10 = .ok (.aload_n 0, 1) := by decide +kernel
theorem dX2_bringBack_11 : decode cX2_bringBack 11 = .ok (.getfield 18, 3) := by decide +kernel
theorem dX2_bringBack_14 : decode cX2_bringBack 14 = .ok (.ifCond .le 12, 3) := by decide +kernel
theorem dX2_bringBack_17 : decode cX2_bringBack 17 = .ok (.aload_n 0, 1) := by decide +kernel
theorem dX2_bringBack_18 : decode cX2_bringBack 18 = .ok (.getfield 18, 3) := by decide +kernel
theorem dX2_bringBack_21 : decode cX2_bringBack 21 = .ok (.iconst 1, 1) := by decide +kernel
theorem dX2_bringBack_22 : decode cX2_bringBack 22 = .ok (.isub, 1) := by decide +kernel
theorem dX2_bringBack_23 : decode cX2_bringBack 23 = .ok (.goto 4, 3) := by decide +kernel
theorem dX2_bringBack_26 : decode cX2_bringBack 26 = .ok (.iconst 5, 1) := by decide +kernel
theorem dX2_bringBack_27 : decode cX2_bringBack 27 = .ok (.putfield 18, 3) := by decide +kernel
theorem dX2_bringBack_30 : decode cX2_bringBack 30 = .ok (.aload_n 0, 1) := by decide +kernel
theorem dX2_bringBack_31 : decode cX2_bringBack 31 = .ok (.dup, 1) := by decide +kernel
theorem dX2_bringBack_32 : decode cX2_bringBack 32 = .ok (.getfield 26, 3) := by decide +kernel
theorem dX2_bringBack_35 : decode cX2_bringBack 35 = .ok (.iconst 1, 1) := by decide +kernel
theorem dX2_bringBack_36 : decode cX2_bringBack 36 = .ok (.isub, 1) := by decide +kernel
theorem dX2_bringBack_37 : decode cX2_bringBack 37 = .ok (.putfield 26, 3) := by decide +kernel
theorem dX2_bringBack_40 : decode cX2_bringBack 40 = .ok (.aload_n 1, 1) := by decide +kernel
theorem dX2_bringBack_41 : decode cX2_bringBack 41 = .ok (.aload_n 0, 1) := by decide +kernel
theorem dX2_bringBack_42 : decode cX2_bringBack 42 = .ok (.getfield 11, 3) := by decide +kernel
theorem dX2_bringBack_45 : decode cX2_bringBack 45 = .ok (.aload_n 0, 1) := by decide +kernel
theorem dX2_bringBack_46 : decode cX2_bringBack 46 = .ok (.getfield 18, 3) := by decide +kernel
theorem dX2_bringBack_49 : decode cX2_bringBack 49 = .ok (.aaload, 1) := by decide +kernel
theorem dX2_bringBack_50 : decode cX2_bringBack 50 = .ok (.invokevirtual 22, 3) := by decide +kernel
theorem dX2_bringBack_53 : decode cX2_bringBack 53 = .ok (.iconst 1, 1) := by decide +kernel
theorem dX2_bringBack_54 : decode cX2_bringBack 54 = .ok (.ireturn, 1) := by decide +kernel
theorem dX3_init_0 : decode cX3_init 0 = .ok (.aload_n 0, 1) := by decide +kernel
theorem dX3_init_1 : decode cX3_init 1 = .ok (.invokespecial 3, 3) := by decide +kernel
theorem dX3_init_4 : decode cX3_init 4 = .ok (.aload_n 0, 1) := by decide +kernel
theorem dX3_init_5 : decode cX3_init 5 = .ok (.bipush 6, 2) := by decide +kernel
theorem dX3_init_7 : decode cX3_init 7 = .ok (.newarray .int, 2) := by decide +kernel
theorem dX3_init_9 : decode cX3_init 9 = .ok (.putfield 9, 3) := by decide +kernel
theorem dX3_init_12 : decode cX3_init 12 = .ok (.return_, 1) := by decide +kernel
set_option maxRecDepth 20000 in
theorem ggX3_lineUp_X7_holds : GoodIn wsX3_lineUp wsX7_holds := goodIn_r _ [5] (by decide +kernel) (by decide +kernel)
set_option maxRecDepth 20000 in
theorem gX3_lineUp_X7_holds_n19 : GoodIn wsX3_lineUp (wsX7_holds) := ggX3_lineUp_X7_holds
theorem dX3_lineUp_0 : decode cX3_lineUp 0 = .ok (.aload_n 0, 1) := by decide +kernel
theorem dX3_lineUp_1 : decode cX3_lineUp 1 = .ok (.iconst 0, 1) := by decide +kernel
theorem dX3_lineUp_2 : decode cX3_lineUp 2 = .ok (.putfield 15, 3) := by decide +kernel
theorem dX3_lineUp_5 : decode cX3_lineUp 5 = .ok (.iconst 0, 1) := by decide +kernel
theorem dX3_lineUp_6 : decode cX3_lineUp 6 = .ok (.istore_n 3, 1) := by decide +kernel
theorem dX3_lineUp_7 : decode cX3_lineUp 7 = .ok (.iload_n 3, 1) := by decide +kernel
theorem dX3_lineUp_8 : decode cX3_lineUp 8 = .ok (.bipush 6, 2) := by decide +kernel
theorem dX3_lineUp_10 : decode cX3_lineUp 10 = .ok (.if_icmp .ge 86, 3) := by decide +kernel
theorem dX3_lineUp_13 : decode cX3_lineUp 13 = .ok (.iload_n 1, 1) := by decide +kernel
theorem dX3_lineUp_14 : decode cX3_lineUp 14 = .ok (.iload_n 3, 1) := by decide +kernel
theorem dX3_lineUp_15 : decode cX3_lineUp 15 = .ok (.invokestatic 19, 3) := by decide +kernel
theorem dX3_lineUp_18 : decode cX3_lineUp 18 = .ok (.ifCond .eq 72, 3) := by decide +kernel
theorem dX3_lineUp_21 : decode cX3_lineUp 21 = .ok (.aload_n 0, 1) := by decide +kernel
theorem dX3_lineUp_22 : decode cX3_lineUp 22 = .ok (.getfield 15, 3) := by decide +kernel
theorem dX3_lineUp_25 : decode cX3_lineUp 25 = .ok (.istore 4, 2) := by decide +kernel
theorem dX3_lineUp_27 : decode cX3_lineUp 27 = .ok (.iload 4, 2) := by decide +kernel
theorem dX3_lineUp_29 : decode cX3_lineUp 29 = .ok (.ifCond .le 43, 3) := by decide +kernel
theorem dX3_lineUp_32 : decode cX3_lineUp 32 = .ok (.aload_n 2, 1) := by decide +kernel
theorem dX3_lineUp_33 : decode cX3_lineUp 33 = .ok (.aload_n 0, 1) := by decide +kernel
theorem dX3_lineUp_34 : decode cX3_lineUp 34 = .ok (.getfield 9, 3) := by decide +kernel
theorem dX3_lineUp_37 : decode cX3_lineUp 37 = .ok (.iload 4, 2) := by decide +kernel
theorem dX3_lineUp_39 : decode cX3_lineUp 39 = .ok (.iconst 1, 1) := by decide +kernel
theorem dX3_lineUp_40 : decode cX3_lineUp 40 = .ok (.isub, 1) := by decide +kernel
theorem dX3_lineUp_41 : decode cX3_lineUp 41 = .ok (.iaload, 1) := by decide +kernel
theorem dX3_lineUp_42 : decode cX3_lineUp 42 = .ok (.laload, 1) := by decide +kernel
theorem dX3_lineUp_43 : decode cX3_lineUp 43 = .ok (.aload_n 2, 1) := by decide +kernel
theorem dX3_lineUp_44 : decode cX3_lineUp 44 = .ok (.iload_n 3, 1) := by decide +kernel
theorem dX3_lineUp_45 : decode cX3_lineUp 45 = .ok (.laload, 1) := by decide +kernel
theorem dX3_lineUp_46 : decode cX3_lineUp 46 = .ok (.lcmp, 1) := by decide +kernel
theorem dX3_lineUp_47 : decode cX3_lineUp 47 = .ok (.ifCond .ge 25, 3) := by decide +kernel
theorem dX3_lineUp_50 : decode cX3_lineUp 50 = .ok (.aload_n 0, 1) := by decide +kernel
theorem dX3_lineUp_51 : decode cX3_lineUp 51 = .ok (.getfield 9, 3) := by decide +kernel
theorem dX3_lineUp_54 : decode cX3_lineUp 54 = .ok (.iload 4, 2) := by decide +kernel
theorem dX3_lineUp_56 : decode cX3_lineUp 56 = .ok (.aload_n 0, 1) := by decide +kernel
theorem dX3_lineUp_57 : decode cX3_lineUp 57 = .ok (.getfield 9, 3) := by decide +kernel
theorem dX3_lineUp_60 : decode cX3_lineUp 60 = .ok (.iload 4, 2) := by decide +kernel
theorem dX3_lineUp_62 : decode cX3_lineUp 62 = .ok (.iconst 1, 1) := by decide +kernel
theorem dX3_lineUp_63 : decode cX3_lineUp 63 = .ok (.isub, 1) := by decide +kernel
theorem dX3_lineUp_64 : decode cX3_lineUp 64 = .ok (.iaload, 1) := by decide +kernel
theorem dX3_lineUp_65 : decode cX3_lineUp 65 = .ok (.iastore, 1) := by decide +kernel
theorem dX3_lineUp_66 : decode cX3_lineUp 66 = .ok (.iinc 4 (-1), 3) := by decide +kernel
theorem dX3_lineUp_69 : decode cX3_lineUp 69 = .ok (.goto (-42), 3) := by decide +kernel
theorem dX3_lineUp_72 : decode cX3_lineUp 72 = .ok (.aload_n 0, 1) := by decide +kernel
theorem dX3_lineUp_73 : decode cX3_lineUp 73 = .ok (.getfield 9, 3) := by decide +kernel
theorem dX3_lineUp_76 : decode cX3_lineUp 76 = .ok (.iload 4, 2) := by decide +kernel
theorem dX3_lineUp_78 : decode cX3_lineUp 78 = .ok (.iload_n 3, 1) := by decide +kernel
theorem dX3_lineUp_79 : decode cX3_lineUp 79 = .ok (.iastore, 1) := by decide +kernel
theorem dX3_lineUp_80 : decode cX3_lineUp 80 = .ok (.aload_n 0, 1) := by decide +kernel
theorem dX3_lineUp_81 : decode cX3_lineUp 81 = .ok (.dup, 1) := by decide +kernel
theorem dX3_lineUp_82 : decode cX3_lineUp 82 = .ok (.getfield 15, 3) := by decide +kernel
theorem dX3_lineUp_85 : decode cX3_lineUp 85 = .ok (.iconst 1, 1) := by decide +kernel
theorem dX3_lineUp_86 : decode cX3_lineUp 86 = .ok (.iadd, 1) := by decide +kernel
theorem dX3_lineUp_87 : decode cX3_lineUp 87 = .ok (.putfield 15, 3) := by decide +kernel
theorem dX3_lineUp_90 : decode cX3_lineUp 90 = .ok (.iinc 3 1, 3) := by decide +kernel
theorem dX3_lineUp_93 : decode cX3_lineUp 93 = .ok (.goto (-86), 3) := by decide +kernel
theorem dX3_lineUp_96 : decode cX3_lineUp 96 = .ok (.return_, 1) := by decide +kernel
set_option maxRecDepth 20000 in
theorem ggX3_split_J6_bitCount_0f7a4 : GoodIn wsX3_split wsJ6_bitCount_0f7a4 := goodIn_r _ [8, 9, 10, 11] (by decide +kernel) (by decide +kernel)
set_option maxRecDepth 20000 in
theorem gX3_split_J6_bitCount_0f7a4 : GoodIn wsX3_split (va_wsS RX3 31 yJ6_bitCount_0f7a4 wsJ6_bitCount_0f7a4) := goodIn_app (goodIn_of _ (by decide +kernel)) ggX3_split_J6_bitCount_0f7a4
set_option maxRecDepth 20000 in
theorem ggX3_split_X3_meanPaged : GoodIn wsX3_split wsX3_meanPaged := goodIn_r _ [16, 4, 17, 18, 19, 20, 15, 21, 22, 23, 24, 25, 26, 27, 28] (by decide +kernel) (by decide +kernel)
set_option maxRecDepth 20000 in
theorem gX3_split_X3_meanPaged : GoodIn wsX3_split (wsV RX3 37 RX3 yX3_meanPaged wsX3_meanPaged) := goodIn_app (goodIn_of _ (by decide +kernel)) ggX3_split_X3_meanPaged
theorem dX3_split_0 : decode cX3_split 0 = .ok (.ldc2_w 23, 3) := by decide +kernel
theorem dX3_split_3 : decode cX3_split 3 = .ok (.lstore_n 3, 1) := by decide +kernel
theorem dX3_split_4 : decode cX3_split 4 = .ok (.aload_n 0, 1) := by decide +kernel
theorem dX3_split_5 : decode cX3_split 5 = .ok (.iconst 0, 1) := by decide +kernel
theorem dX3_split_6 : decode cX3_split 6 = .ok (.putfield 25, 3) := by decide +kernel
theorem dX3_split_9 : decode cX3_split 9 = .ok (.aload_n 0, 1) := by decide +kernel
theorem dX3_split_10 : decode cX3_split 10 = .ok (.iconst 0, 1) := by decide +kernel
theorem dX3_split_11 : decode cX3_split 11 = .ok (.putfield 28, 3) := by decide +kernel
theorem dX3_split_14 : decode cX3_split 14 = .ok (.aload_n 0, 1) := by decide +kernel
theorem dX3_split_15 : decode cX3_split 15 = .ok (.getfield 15, 3) := by decide +kernel
theorem dX3_split_18 : decode cX3_split 18 = .ok (.ifCond .le 16, 3) := by decide +kernel
theorem dX3_split_21 : decode cX3_split 21 = .ok (.iconst 1, 1) := by decide +kernel
theorem dX3_split_22 : decode cX3_split 22 = .ok (.aload_n 0, 1) := by decide +kernel
theorem dX3_split_23 : decode cX3_split 23 = .ok (.getfield 15, 3) := by decide +kernel
theorem dX3_split_26 : decode cX3_split 26 = .ok (.iconst 1, 1) := by decide +kernel
theorem dX3_split_27 : decode cX3_split 27 = .ok (.isub, 1) := by decide +kernel
theorem dX3_split_28 : decode cX3_split 28 = .ok (.ishl, 1) := by decide +kernel
theorem dX3_split_29 : decode cX3_split 29 = .ok (.iconst 1, 1) := by decide +kernel
theorem dX3_split_30 : decode cX3_split 30 = .ok (.isub, 1) := by decide +kernel
theorem dX3_split_31 : decode cX3_split 31 = .ok (.goto 4, 3) := by decide +kernel
theorem dX3_split_34 : decode cX3_split 34 = .ok (.iconst (-1), 1) := by decide +kernel
theorem dX3_split_35 : decode cX3_split 35 = .ok (.istore 5, 2) := by decide +kernel
theorem dX3_split_37 : decode cX3_split 37 = .ok (.iload 5, 2) := by decide +kernel
theorem dX3_split_39 : decode cX3_split 39 = .ok (.istore 6, 2) := by decide +kernel
theorem dX3_split_41 : decode cX3_split 41 = .ok (.iload 6, 2) := by decide +kernel
theorem dX3_split_43 : decode cX3_split 43 = .ok (.ifCond .lt 90, 3) := by decide +kernel
theorem dX3_split_46 : decode cX3_split 46 = .ok (.iload 6, 2) := by decide +kernel
theorem dX3_split_48 : decode cX3_split 48 = .ok (.invokestatic 31, 3) := by decide +kernel
theorem dX3_split_51 : decode cX3_split 51 = .ok (.iconst 1, 1) := by decide +kernel
theorem dX3_split_52 : decode cX3_split 52 = .ok (.iadd, 1) := by decide +kernel
theorem dX3_split_53 : decode cX3_split 53 = .ok (.istore 7, 2) := by decide +kernel
theorem dX3_split_55 : decode cX3_split 55 = .ok (.iload 7, 2) := by decide +kernel
theorem dX3_split_57 : decode cX3_split 57 = .ok (.iload_n 1, 1) := by decide +kernel
theorem dX3_split_58 : decode cX3_split 58 = .ok (.if_icmp .gt 13, 3) := by decide +kernel
theorem dX3_split_61 : decode cX3_split 61 = .ok (.aload_n 0, 1) := by decide +kernel
theorem dX3_split_62 : decode cX3_split 62 = .ok (.iload 6, 2) := by decide +kernel
theorem dX3_split_64 : decode cX3_split 64 = .ok (.aload_n 2, 1) := by decide +kernel
theorem dX3_split_65 : decode cX3_split 65 = .ok (.invokevirtual 37, 3) := by decide +kernel
theorem dX3_split_68 : decode cX3_split 68 = .ok (.goto 6, 3) := by decide +kernel
theorem dX3_split_71 : decode cX3_split 71 = .ok (.ldc2_w 23, 3) := by decide +kernel
theorem dX3_split_74 : decode cX3_split 74 = .ok (.lstore 8, 2) := by decide +kernel
theorem dX3_split_76 : decode cX3_split 76 = .ok (.lload 8, 2) := by decide +kernel
theorem dX3_split_78 : decode cX3_split 78 = .ok (.lconst 0, 1) := by decide +kernel
theorem dX3_split_79 : decode cX3_split 79 = .ok (.lcmp, 1) := by decide +kernel
theorem dX3_split_80 : decode cX3_split 80 = .ok (.ifCond .lt 47, 3) := by decide +kernel
theorem dX3_split_83 : decode cX3_split 83 = .ok (.lload_n 3, 1) := by decide +kernel
theorem dX3_split_84 : decode cX3_split 84 = .ok (.lconst 0, 1) := by decide +kernel
theorem dX3_split_85 : decode cX3_split 85 = .ok (.lcmp, 1) := by decide +kernel
theorem dX3_split_86 : decode cX3_split 86 = .ok (.ifCond .lt 26, 3) := by decide +kernel
theorem dX3_split_89 : decode cX3_split 89 = .ok (.lload 8, 2) := by decide +kernel
theorem dX3_split_91 : decode cX3_split 91 = .ok (.lload_n 3, 1) := by decide +kernel
theorem dX3_split_92 : decode cX3_split 92 = .ok (.lcmp, 1) := by decide +kernel
theorem dX3_split_93 : decode cX3_split 93 = .ok (.ifCond .lt 19, 3) := by decide +kernel
theorem dX3_split_96 : decode cX3_split 96 = .ok (.lload 8, 2) := by decide +kernel
theorem dX3_split_98 : decode cX3_split 98 = .ok (.lload_n 3, 1) := by decide +kernel
theorem dX3_split_99 : decode cX3_split 99 = .ok (.lcmp, 1) := by decide +kernel
theorem dX3_split_100 : decode cX3_split 100 = .ok (.ifCond .ne 27, 3) := by decide +kernel
theorem dX3_split_103 : decode cX3_split 103 = .ok (.iload 7, 2) := by decide +kernel
theorem dX3_split_105 : decode cX3_split 105 = .ok (.aload_n 0, 1) := by decide +kernel
theorem dX3_split_106 : decode cX3_split 106 = .ok (.getfield 25, 3) := by decide +kernel
theorem dX3_split_109 : decode cX3_split 109 = .ok (.if_icmp .ge 18, 3) := by decide +kernel
theorem dX3_split_112 : decode cX3_split 112 = .ok (.lload 8, 2) := by decide +kernel
theorem dX3_split_114 : decode cX3_split 114 = .ok (.lstore_n 3, 1) := by decide +kernel
theorem dX3_split_115 : decode cX3_split 115 = .ok (.aload_n 0, 1) := by decide +kernel
theorem dX3_split_116 : decode cX3_split 116 = .ok (.iload 6, 2) := by decide +kernel
theorem dX3_split_118 : decode cX3_split 118 = .ok (.putfield 28, 3) := by decide +kernel
theorem dX3_split_121 : decode cX3_split 121 = .ok (.aload_n 0, 1) := by decide +kernel
theorem dX3_split_122 : decode cX3_split 122 = .ok (.iload 7, 2) := by decide +kernel
theorem dX3_split_124 : decode cX3_split 124 = .ok (.putfield 25, 3) := by decide +kernel
theorem dX3_split_127 : decode cX3_split 127 = .ok (.iinc 6 (-1), 3) := by decide +kernel
theorem dX3_split_130 : decode cX3_split 130 = .ok (.goto (-89), 3) := by decide +kernel
theorem dX3_split_133 : decode cX3_split 133 = .ok (.return_, 1) := by decide +kernel
set_option maxRecDepth 20000 in
theorem ggX3_isCutBehind_X7_holds : GoodIn wsX3_isCutBehind wsX7_holds := goodIn_r _ [4] (by decide +kernel) (by decide +kernel)
set_option maxRecDepth 20000 in
theorem gX3_isCutBehind_X7_holds_n19 : GoodIn wsX3_isCutBehind (wsX7_holds) := ggX3_isCutBehind_X7_holds
theorem dX3_isCutBehind_0 : decode cX3_isCutBehind 0 = .ok (.iload_n 2, 1) := by decide +kernel
theorem dX3_isCutBehind_1 : decode cX3_isCutBehind 1 = .ok (.aload_n 0, 1) := by decide +kernel
theorem dX3_isCutBehind_2 : decode cX3_isCutBehind 2 = .ok (.getfield 15, 3) := by decide +kernel
theorem dX3_isCutBehind_5 : decode cX3_isCutBehind 5 = .ok (.iconst 1, 1) := by decide +kernel
theorem dX3_isCutBehind_6 : decode cX3_isCutBehind 6 = .ok (.isub, 1) := by decide +kernel
theorem dX3_isCutBehind_7 : decode cX3_isCutBehind 7 = .ok (.if_icmp .ge 22, 3) := by decide +kernel
theorem dX3_isCutBehind_10 : decode cX3_isCutBehind 10 = .ok (.iload_n 1, 1) := by decide +kernel
theorem dX3_isCutBehind_11 : decode cX3_isCutBehind 11 = .ok (.aload_n 0, 1) := by decide +kernel
theorem dX3_isCutBehind_12 : decode cX3_isCutBehind 12 = .ok (.getfield 15, 3) := by decide +kernel
theorem dX3_isCutBehind_15 : decode cX3_isCutBehind 15 = .ok (.iconst 2, 1) := by decide +kernel
theorem dX3_isCutBehind_16 : decode cX3_isCutBehind 16 = .ok (.isub, 1) := by decide +kernel
theorem dX3_isCutBehind_17 : decode cX3_isCutBehind 17 = .ok (.iload_n 2, 1) := by decide +kernel
theorem dX3_isCutBehind_18 : decode cX3_isCutBehind 18 = .ok (.isub, 1) := by decide +kernel
theorem dX3_isCutBehind_19 : decode cX3_isCutBehind 19 = .ok (.invokestatic 19, 3) := by decide +kernel
theorem dX3_isCutBehind_22 : decode cX3_isCutBehind 22 = .ok (.ifCond .eq 7, 3) := by decide +kernel
theorem dX3_isCutBehind_25 : decode cX3_isCutBehind 25 = .ok (.iconst 1, 1) := by decide +kernel
theorem dX3_isCutBehind_26 : decode cX3_isCutBehind 26 = .ok (.goto 4, 3) := by decide +kernel
theorem dX3_isCutBehind_29 : decode cX3_isCutBehind 29 = .ok (.iconst 0, 1) := by decide +kernel
theorem dX3_isCutBehind_30 : decode cX3_isCutBehind 30 = .ok (.ireturn, 1) := by decide +kernel
set_option maxRecDepth 20000 in
theorem ggX3_meanPaged_X3_isCutBehind : GoodIn wsX3_meanPaged wsX3_isCutBehind := goodIn_r _ [7, 1, 8, 9, 10, 11, 12, 13, 14] (by decide +kernel) (by decide +kernel)
set_option maxRecDepth 20000 in
theorem gX3_meanPaged_X3_isCutBehind : GoodIn wsX3_meanPaged (wsV RX3 41 RX3 yX3_isCutBehind wsX3_isCutBehind) := goodIn_app (goodIn_of _ (by decide +kernel)) ggX3_meanPaged_X3_isCutBehind
theorem dX3_meanPaged_0 : decode cX3_meanPaged 0 = .ok (.lconst 0, 1) := by decide +kernel
theorem dX3_meanPaged_1 : decode cX3_meanPaged 1 = .ok (.lstore_n 3, 1) := by decide +kernel
theorem dX3_meanPaged_2 : decode cX3_meanPaged 2 = .ok (.aload_n 0, 1) := by decide +kernel
theorem dX3_meanPaged_3 : decode cX3_meanPaged 3 = .ok (.getfield 15, 3) := by decide +kernel
theorem dX3_meanPaged_6 : decode cX3_meanPaged 6 = .ok (.istore 5, 2) := by decide +kernel
theorem dX3_meanPaged_8 : decode cX3_meanPaged 8 = .ok (.aload_n 0, 1) := by decide +kernel
theorem dX3_meanPaged_9 : decode cX3_meanPaged 9 = .ok (.getfield 15, 3) := by decide +kernel
theorem dX3_meanPaged_12 : decode cX3_meanPaged 12 = .ok (.iconst 1, 1) := by decide +kernel
theorem dX3_meanPaged_13 : decode cX3_meanPaged 13 = .ok (.isub, 1) := by decide +kernel
theorem dX3_meanPaged_14 : decode cX3_meanPaged 14 = .ok (.istore 6, 2) := by decide +kernel
theorem dX3_meanPaged_16 : decode cX3_meanPaged 16 = .ok (.iload 6, 2) := by decide +kernel
theorem dX3_meanPaged_18 : decode cX3_meanPaged 18 = .ok (.ifCond .lt 41, 3) := by decide +kernel
theorem dX3_meanPaged_21 : decode cX3_meanPaged 21 = .ok (.aload_n 0, 1) := by decide +kernel
theorem dX3_meanPaged_22 : decode cX3_meanPaged 22 = .ok (.iload_n 1, 1) := by decide +kernel
theorem dX3_meanPaged_23 : decode cX3_meanPaged 23 = .ok (.iload 6, 2) := by decide +kernel
theorem dX3_meanPaged_25 : decode cX3_meanPaged 25 = .ok (.invokevirtual 41, 3) := by decide +kernel
theorem dX3_meanPaged_28 : decode cX3_meanPaged 28 = .ok (.ifCond .eq 9, 3) := by decide +kernel
theorem dX3_meanPaged_31 : decode cX3_meanPaged 31 = .ok (.iload 6, 2) := by decide +kernel
theorem dX3_meanPaged_33 : decode cX3_meanPaged 33 = .ok (.iconst 1, 1) := by decide +kernel
theorem dX3_meanPaged_34 : decode cX3_meanPaged 34 = .ok (.iadd, 1) := by decide +kernel
theorem dX3_meanPaged_35 : decode cX3_meanPaged 35 = .ok (.istore 5, 2) := by decide +kernel
theorem dX3_meanPaged_37 : decode cX3_meanPaged 37 = .ok (.lload_n 3, 1) := by decide +kernel
theorem dX3_meanPaged_38 : decode cX3_meanPaged 38 = .ok (.iload 5, 2) := by decide +kernel
theorem dX3_meanPaged_40 : decode cX3_meanPaged 40 = .ok (.i2l, 1) := by decide +kernel
theorem dX3_meanPaged_41 : decode cX3_meanPaged 41 = .ok (.aload_n 2, 1) := by decide +kernel
theorem dX3_meanPaged_42 : decode cX3_meanPaged 42 = .ok (.aload_n 0, 1) := by decide +kernel
theorem dX3_meanPaged_43 : decode cX3_meanPaged 43 = .ok (.getfield 9, 3) := by decide +kernel
theorem dX3_meanPaged_46 : decode cX3_meanPaged 46 = .ok (.iload 6, 2) := by decide +kernel
theorem dX3_meanPaged_48 : decode cX3_meanPaged 48 = .ok (.iaload, 1) := by decide +kernel
theorem dX3_meanPaged_49 : decode cX3_meanPaged 49 = .ok (.laload, 1) := by decide +kernel
theorem dX3_meanPaged_50 : decode cX3_meanPaged 50 = .ok (.lmul, 1) := by decide +kernel
theorem dX3_meanPaged_51 : decode cX3_meanPaged 51 = .ok (.ladd, 1) := by decide +kernel
theorem dX3_meanPaged_52 : decode cX3_meanPaged 52 = .ok (.lstore_n 3, 1) := by decide +kernel
theorem dX3_meanPaged_53 : decode cX3_meanPaged 53 = .ok (.iinc 6 (-1), 3) := by decide +kernel
theorem dX3_meanPaged_56 : decode cX3_meanPaged 56 = .ok (.goto (-40), 3) := by decide +kernel
theorem dX3_meanPaged_59 : decode cX3_meanPaged 59 = .ok (.lload_n 3, 1) := by decide +kernel
theorem dX3_meanPaged_60 : decode cX3_meanPaged 60 = .ok (.lreturn, 1) := by decide +kernel
set_option maxRecDepth 20000 in
theorem ggX3_cellsOf_X3_isCutBehind : GoodIn wsX3_cellsOf wsX3_isCutBehind := goodIn_r _ [8, 1, 9, 10, 11, 12, 13, 14, 15] (by decide +kernel) (by decide +kernel)
set_option maxRecDepth 20000 in
theorem gX3_cellsOf_X3_isCutBehind : GoodIn wsX3_cellsOf (wsV RX3 41 RX3 yX3_isCutBehind wsX3_isCutBehind) := goodIn_app (goodIn_of _ (by decide +kernel)) ggX3_cellsOf_X3_isCutBehind
theorem dX3_cellsOf_0 : decode cX3_cellsOf 0 = .ok (.iconst 0, 1) := by decide +kernel
theorem dX3_cellsOf_1 : decode cX3_cellsOf 1 = .ok (.istore_n 2, 1) := by decide +kernel
theorem dX3_cellsOf_2 : decode cX3_cellsOf 2 = .ok (.iconst 0, 1) := by decide +kernel
theorem dX3_cellsOf_3 : decode cX3_cellsOf 3 = .ok (.istore_n 3, 1) := by decide +kernel
theorem dX3_cellsOf_4 : decode cX3_cellsOf 4 = .ok (.iconst 0, 1) := by decide +kernel
theorem dX3_cellsOf_5 : decode cX3_cellsOf 5 = .ok (.istore 4, 2) := by decide +kernel
theorem dX3_cellsOf_7 : decode cX3_cellsOf 7 = .ok (.iload 4, 2) := by decide +kernel
theorem dX3_cellsOf_9 : decode cX3_cellsOf 9 = .ok (.aload_n 0, 1) := by decide +kernel
theorem dX3_cellsOf_10 : decode cX3_cellsOf 10 = .ok (.getfield 15, 3) := by decide +kernel
theorem dX3_cellsOf_13 : decode cX3_cellsOf 13 = .ok (.if_icmp .ge 42, 3) := by decide +kernel
theorem dX3_cellsOf_16 : decode cX3_cellsOf 16 = .ok (.iload_n 3, 1) := by decide +kernel
theorem dX3_cellsOf_17 : decode cX3_cellsOf 17 = .ok (.iload_n 1, 1) := by decide +kernel
theorem dX3_cellsOf_18 : decode cX3_cellsOf 18 = .ok (.if_icmp .ne 15, 3) := by decide +kernel
theorem dX3_cellsOf_21 : decode cX3_cellsOf 21 = .ok (.iload_n 2, 1) := by decide +kernel
theorem dX3_cellsOf_22 : decode cX3_cellsOf 22 = .ok (.iconst 1, 1) := by decide +kernel
theorem dX3_cellsOf_23 : decode cX3_cellsOf 23 = .ok (.aload_n 0, 1) := by decide +kernel
theorem dX3_cellsOf_24 : decode cX3_cellsOf 24 = .ok (.getfield 9, 3) := by decide +kernel
theorem dX3_cellsOf_27 : decode cX3_cellsOf 27 = .ok (.iload 4, 2) := by decide +kernel
theorem dX3_cellsOf_29 : decode cX3_cellsOf 29 = .ok (.iaload, 1) := by decide +kernel
theorem dX3_cellsOf_30 : decode cX3_cellsOf 30 = .ok (.ishl, 1) := by decide +kernel
theorem dX3_cellsOf_31 : decode cX3_cellsOf 31 = .ok (.ior, 1) := by decide +kernel
theorem dX3_cellsOf_32 : decode cX3_cellsOf 32 = .ok (.istore_n 2, 1) := by decide +kernel
theorem dX3_cellsOf_33 : decode cX3_cellsOf 33 = .ok (.aload_n 0, 1) := by decide +kernel
theorem dX3_cellsOf_34 : decode cX3_cellsOf 34 = .ok (.aload_n 0, 1) := by decide +kernel
theorem dX3_cellsOf_35 : decode cX3_cellsOf 35 = .ok (.getfield 28, 3) := by decide +kernel
theorem dX3_cellsOf_38 : decode cX3_cellsOf 38 = .ok (.iload 4, 2) := by decide +kernel
theorem dX3_cellsOf_40 : decode cX3_cellsOf 40 = .ok (.invokevirtual 41, 3) := by decide +kernel
theorem dX3_cellsOf_43 : decode cX3_cellsOf 43 = .ok (.ifCond .eq 6, 3) := by decide +kernel
theorem dX3_cellsOf_46 : decode cX3_cellsOf 46 = .ok (.iinc 3 1, 3) := by decide +kernel
theorem dX3_cellsOf_49 : decode cX3_cellsOf 49 = .ok (.iinc 4 1, 3) := by decide +kernel
theorem dX3_cellsOf_52 : decode cX3_cellsOf 52 = .ok (.goto (-45), 3) := by decide +kernel
theorem dX3_cellsOf_55 : decode cX3_cellsOf 55 = .ok (.iload_n 2, 1) := by decide +kernel
theorem dX3_cellsOf_56 : decode cX3_cellsOf 56 = .ok (.ireturn, 1) := by decide +kernel
theorem dX4_init_0 : decode cX4_init 0 = .ok (.aload_n 0, 1) := by decide +kernel
theorem dX4_init_1 : decode cX4_init 1 = .ok (.invokespecial 3, 3) := by decide +kernel
theorem dX4_init_4 : decode cX4_init 4 = .ok (.aload_n 0, 1) := by decide +kernel
theorem dX4_init_5 : decode cX4_init 5 = .ok (.bipush 6, 2) := by decide +kernel
theorem dX4_init_7 : decode cX4_init 7 = .ok (.newarray .int, 2) := by decide +kernel
theorem dX4_init_9 : decode cX4_init 9 = .ok (.putfield 9, 3) := by decide +kernel
theorem dX4_init_12 : decode cX4_init 12 = .ok (.aload_n 0, 1) := by decide +kernel
theorem dX4_init_13 : decode cX4_init 13 = .ok (.bipush 6, 2) := by decide +kernel
theorem dX4_init_15 : decode cX4_init 15 = .ok (.newarray .int, 2) := by decide +kernel
theorem dX4_init_17 : decode cX4_init 17 = .ok (.putfield 15, 3) := by decide +kernel
theorem dX4_init_20 : decode cX4_init 20 = .ok (.return_, 1) := by decide +kernel
set_option maxRecDepth 20000 in
theorem ggX4_begin_X4_register : GoodIn wsX4_begin wsX4_register := goodIn_r _ [12, 5, 13, 14, 15, 16, 17, 18, 19, 20, 21, 22, 23, 24, 25] (by decide +kernel) (by decide +kernel)
set_option maxRecDepth 20000 in
theorem gX4_begin_X4_register : GoodIn wsX4_begin (wsV RX4 34 RX4 yX4_register wsX4_register) := goodIn_app (goodIn_of _ (by decide +kernel)) ggX4_begin_X4_register
theorem dX4_begin_0 : decode cX4_begin 0 = .ok (.iconst 0, 1) := by decide +kernel
theorem dX4_begin_1 : decode cX4_begin 1 = .ok (.istore_n 1, 1) := by decide +kernel
theorem dX4_begin_2 : decode cX4_begin 2 = .ok (.iload_n 1, 1) := by decide +kernel
theorem dX4_begin_3 : decode cX4_begin 3 = .ok (.bipush 6, 2) := by decide +kernel
theorem dX4_begin_5 : decode cX4_begin 5 = .ok (.if_icmp .ge 23, 3) := by decide +kernel
theorem dX4_begin_8 : decode cX4_begin 8 = .ok (.aload_n 0, 1) := by decide +kernel
theorem dX4_begin_9 : decode cX4_begin 9 = .ok (.getfield 9, 3) := by decide +kernel
theorem dX4_begin_12 : decode cX4_begin 12 = .ok (.iload_n 1, 1) := by decide +kernel
theorem dX4_begin_13 : decode cX4_begin 13 = .ok (.iconst 1, 1) := by decide +kernel
theorem dX4_begin_14 : decode cX4_begin 14 = .ok (.iastore, 1) := by decide +kernel
theorem dX4_begin_15 : decode cX4_begin 15 = .ok (.aload_n 0, 1) := by decide +kernel
theorem dX4_begin_16 : decode cX4_begin 16 = .ok (.getfield 15, 3) := by decide +kernel
theorem dX4_begin_19 : decode cX4_begin 19 = .ok (.iload_n 1, 1) := by decide +kernel
theorem dX4_begin_20 : decode cX4_begin 20 = .ok (.iconst 0, 1) := by decide +kernel
theorem dX4_begin_21 : decode cX4_begin 21 = .ok (.iastore, 1) := by decide +kernel
theorem dX4_begin_22 : decode cX4_begin 22 = .ok (.iinc 1 1, 3) := by decide +kernel
theorem dX4_begin_25 : decode cX4_begin 25 = .ok (.goto (-23), 3) := by decide +kernel
theorem dX4_begin_28 : decode cX4_begin 28 = .ok (.aload_n 0, 1) := by decide +kernel
theorem dX4_begin_29 : decode cX4_begin 29 = .ok (.iconst 0, 1) := by decide +kernel
theorem dX4_begin_30 : decode cX4_begin 30 = .ok (.putfield 18, 3) := by decide +kernel
theorem dX4_begin_33 : decode cX4_begin 33 = .ok (.aload_n 0, 1) := by decide +kernel
theorem dX4_begin_34 : decode cX4_begin 34 = .ok (.iconst 0, 1) := by decide +kernel
theorem dX4_begin_35 : decode cX4_begin 35 = .ok (.putfield 22, 3) := by decide +kernel
theorem dX4_begin_38 : decode cX4_begin 38 = .ok (.aload_n 0, 1) := by decide +kernel
theorem dX4_begin_39 : decode cX4_begin 39 = .ok (.iconst 0, 1) := by decide +kernel
theorem dX4_begin_40 : decode cX4_begin 40 = .ok (.putfield 25, 3) := by decide +kernel
theorem dX4_begin_43 : decode cX4_begin 43 = .ok (.aload_n 0, 1) := by decide +kernel
theorem dX4_begin_44 : decode cX4_begin 44 = .ok (.iconst 0, 1) := by decide +kernel
theorem dX4_begin_45 : decode cX4_begin 45 = .ok (.putfield 28, 3) := by decide +kernel
theorem dX4_begin_48 : decode cX4_begin 48 = .ok (.aload_n 0, 1) := by decide +kernel
theorem dX4_begin_49 : decode cX4_begin 49 = .ok (.iconst 0, 1) := by decide +kernel
theorem dX4_begin_50 : decode cX4_begin 50 = .ok (.putfield 31, 3) := by decide +kernel
theorem dX4_begin_53 : decode cX4_begin 53 = .ok (.aload_n 0, 1) := by decide +kernel
theorem dX4_begin_54 : decode cX4_begin 54 = .ok (.invokevirtual 34, 3) := by decide +kernel
theorem dX4_begin_57 : decode cX4_begin 57 = .ok (.return_, 1) := by decide +kernel
theorem dX4_copyFrom_0 : decode cX4_copyFrom 0 = .ok (.aload_n 1, 1) := by decide +kernel
theorem dX4_copyFrom_1 : decode cX4_copyFrom 1 = .ok (.getfield 9, 3) := by decide +kernel
theorem dX4_copyFrom_4 : decode cX4_copyFrom 4 = .ok (.iconst 0, 1) := by decide +kernel
theorem dX4_copyFrom_5 : decode cX4_copyFrom 5 = .ok (.aload_n 0, 1) := by decide +kernel
theorem dX4_copyFrom_6 : decode cX4_copyFrom 6 = .ok (.getfield 9, 3) := by decide +kernel
theorem dX4_copyFrom_9 : decode cX4_copyFrom 9 = .ok (.iconst 0, 1) := by decide +kernel
theorem dX4_copyFrom_10 : decode cX4_copyFrom 10 = .ok (.bipush 6, 2) := by decide +kernel
theorem dX4_copyFrom_12 : decode cX4_copyFrom 12 = .ok (.invokestatic 37, 3) := by decide +kernel
theorem dX4_copyFrom_15 : decode cX4_copyFrom 15 = .ok (.aload_n 1, 1) := by decide +kernel
theorem dX4_copyFrom_16 : decode cX4_copyFrom 16 = .ok (.getfield 15, 3) := by decide +kernel
theorem dX4_copyFrom_19 : decode cX4_copyFrom 19 = .ok (.iconst 0, 1) := by decide +kernel
theorem dX4_copyFrom_20 : decode cX4_copyFrom 20 = .ok (.aload_n 0, 1) := by decide +kernel
theorem dX4_copyFrom_21 : decode cX4_copyFrom 21 = .ok (.getfield 15, 3) := by decide +kernel
theorem dX4_copyFrom_24 : decode cX4_copyFrom 24 = .ok (.iconst 0, 1) := by decide +kernel
theorem dX4_copyFrom_25 : decode cX4_copyFrom 25 = .ok (.bipush 6, 2) := by decide +kernel
theorem dX4_copyFrom_27 : decode cX4_copyFrom 27 = .ok (.invokestatic 37, 3) := by decide +kernel
theorem dX4_copyFrom_30 : decode cX4_copyFrom 30 = .ok (.aload_n 0, 1) := by decide +kernel
theorem dX4_copyFrom_31 : decode cX4_copyFrom 31 = .ok (.aload_n 1, 1) := by decide +kernel
theorem dX4_copyFrom_32 : decode cX4_copyFrom 32 = .ok (.getfield 18, 3) := by decide +kernel
theorem dX4_copyFrom_35 : decode cX4_copyFrom 35 = .ok (.putfield 18, 3) := by decide +kernel
theorem dX4_copyFrom_38 : decode cX4_copyFrom 38 = .ok (.aload_n 0, 1) := by decide +kernel
theorem dX4_copyFrom_39 : decode cX4_copyFrom 39 = .ok (.aload_n 1, 1) := by decide +kernel
theorem dX4_copyFrom_40 : decode cX4_copyFrom 40 = .ok (.getfield 22, 3) := by decide +kernel
theorem dX4_copyFrom_43 : decode cX4_copyFrom 43 = .ok (.putfield 22, 3) := by decide +kernel
theorem dX4_copyFrom_46 : decode cX4_copyFrom 46 = .ok (.aload_n 0, 1) := by decide +kernel
theorem dX4_copyFrom_47 : decode cX4_copyFrom 47 = .ok (.aload_n 1, 1) := by decide +kernel
theorem dX4_copyFrom_48 : decode cX4_copyFrom 48 = .ok (.getfield 25, 3) := by decide +kernel
theorem dX4_copyFrom_51 : decode cX4_copyFrom 51 = .ok (.putfield 25, 3) := by decide +kernel
theorem dX4_copyFrom_54 : decode cX4_copyFrom 54 = .ok (.aload_n 0, 1) := by decide +kernel
theorem dX4_copyFrom_55 : decode cX4_copyFrom 55 = .ok (.aload_n 1, 1) := by decide +kernel
theorem dX4_copyFrom_56 : decode cX4_copyFrom 56 = .ok (.getfield 43, 3) := by decide +kernel
theorem dX4_copyFrom_59 : decode cX4_copyFrom 59 = .ok (.putfield 43, 3) := by decide +kernel
theorem dX4_copyFrom_62 : decode cX4_copyFrom 62 = .ok (.aload_n 0, 1) := by decide +kernel
theorem dX4_copyFrom_63 : decode cX4_copyFrom 63 = .ok (.aload_n 1, 1) := by decide +kernel
theorem dX4_copyFrom_64 : decode cX4_copyFrom 64 = .ok (.getfield 46, 3) := by decide +kernel
theorem dX4_copyFrom_67 : decode cX4_copyFrom 67 = .ok (.putfield 46, 3) := by decide +kernel
theorem dX4_copyFrom_70 : decode cX4_copyFrom 70 = .ok (.aload_n 0, 1) := by decide +kernel
theorem dX4_copyFrom_71 : decode cX4_copyFrom 71 = .ok (.aload_n 1, 1) := by decide +kernel
theorem dX4_copyFrom_72 : decode cX4_copyFrom 72 = .ok (.getfield 49, 3) := by decide +kernel
theorem dX4_copyFrom_75 : decode cX4_copyFrom 75 = .ok (.putfield 49, 3) := by decide +kernel
theorem dX4_copyFrom_78 : decode cX4_copyFrom 78 = .ok (.aload_n 0, 1) := by decide +kernel
theorem dX4_copyFrom_79 : decode cX4_copyFrom 79 = .ok (.aload_n 1, 1) := by decide +kernel
theorem dX4_copyFrom_80 : decode cX4_copyFrom 80 = .ok (.getfield 28, 3) := by decide +kernel
theorem dX4_copyFrom_83 : decode cX4_copyFrom 83 = .ok (.putfield 28, 3) := by decide +kernel
theorem dX4_copyFrom_86 : decode cX4_copyFrom 86 = .ok (.aload_n 0, 1) := by decide +kernel
theorem dX4_copyFrom_87 : decode cX4_copyFrom 87 = .ok (.aload_n 1, 1) := by decide +kernel
theorem dX4_copyFrom_88 : decode cX4_copyFrom 88 = .ok (.getfield 31, 3) := by decide +kernel
theorem dX4_copyFrom_91 : decode cX4_copyFrom 91 = .ok (.putfield 31, 3) := by decide +kernel
theorem dX4_copyFrom_94 : decode cX4_copyFrom 94 = .ok (.return_, 1) := by decide +kernel
theorem dX4_register_0 : decode cX4_register 0 = .ok (.aload_n 0, 1) := by decide +kernel
theorem dX4_register_1 : decode cX4_register 1 = .ok (.aload_n 0, 1) := by decide +kernel
theorem dX4_register_2 : decode cX4_register 2 = .ok (.getfield 25, 3) := by decide +kernel
theorem dX4_register_5 : decode cX4_register 5 = .ok (.putfield 43, 3) := by decide +kernel
theorem dX4_register_8 : decode cX4_register 8 = .ok (.aload_n 0, 1) := by decide +kernel
theorem dX4_register_9 : decode cX4_register 9 = .ok (.iconst 0, 1) := by decide +kernel
theorem dX4_register_10 : decode cX4_register 10 = .ok (.putfield 46, 3) := by decide +kernel
theorem dX4_register_13 : decode cX4_register 13 = .ok (.aload_n 0, 1) := by decide +kernel
theorem dX4_register_14 : decode cX4_register 14 = .ok (.iconst 0, 1) := by decide +kernel
theorem dX4_register_15 : decode cX4_register 15 = .ok (.putfield 49, 3) := by decide +kernel
theorem dX4_register_18 : decode cX4_register 18 = .ok (.return_, 1) := by decide +kernel
end
section
set_option maxRecDepth 20000 in
theorem ggX4_canGo_X7_holds : GoodIn wsX4_canGo wsX7_holds := goodIn_r _ [6] (by decide +kernel) (by decide +kernel)
set_option maxRecDepth 20000 in
theorem gX4_canGo_X7_holds_n57 : GoodIn wsX4_canGo (wsX7_holds) := ggX4_canGo_X7_holds
theorem dX4_canGo_0 : decode cX4_canGo 0 = .ok (.iload_n 2, 1) := by decide +kernel
theorem dX4_canGo_1 : decode cX4_canGo 1 = .ok (.aload_n 0, 1) := by decide +kernel
theorem dX4_canGo_2 : decode cX4_canGo 2 = .ok (.getfield 25, 3) := by decide +kernel
theorem dX4_canGo_5 : decode cX4_canGo 5 = .ok (.if_icmp .ne 20, 3) := by decide +kernel
theorem dX4_canGo_8 : decode cX4_canGo 8 = .ok (.aload_n 0, 1) := by decide +kernel
theorem dX4_canGo_9 : decode cX4_canGo 9 = .ok (.getfield 9, 3) := by decide +kernel
theorem dX4_canGo_12 : decode cX4_canGo 12 = .ok (.iload_n 2, 1) := by decide +kernel
theorem dX4_canGo_13 : decode cX4_canGo 13 = .ok (.iaload, 1) := by decide +kernel
theorem dX4_canGo_14 : decode cX4_canGo 14 = .ok (.ifCond .le 7, 3) := by decide +kernel
theorem dX4_canGo_17 : decode cX4_canGo 17 = .ok (.iconst 1, 1) := by decide +kernel
theorem dX4_canGo_18 : decode cX4_canGo 18 = .ok (.goto 20, 3) := by decide +kernel
theorem dX4_canGo_21 : decode cX4_canGo 21 = .ok (.iconst 0, 1) := by decide +kernel
theorem dX4_canGo_22 : decode cX4_canGo 22 = .ok (.goto 16, 3) := by decide +kernel
theorem dX4_canGo_25 : decode cX4_canGo 25 = .ok (.aload_n 1, 1) := by decide +kernel
theorem dX4_canGo_26 : decode cX4_canGo 26 = .ok (.getfield 52, 3) := by decide +kernel
theorem dX4_canGo_29 : decode cX4_canGo 29 = .ok (.aload_n 0, 1) := by decide +kernel
theorem dX4_canGo_30 : decode cX4_canGo 30 = .ok (.getfield 25, 3) := by decide +kernel
theorem dX4_canGo_33 : decode cX4_canGo 33 = .ok (.iaload, 1) := by decide +kernel
theorem dX4_canGo_34 : decode cX4_canGo 34 = .ok (.iload_n 2, 1) := by decide +kernel
theorem dX4_canGo_35 : decode cX4_canGo 35 = .ok (.invokestatic 57, 3) := by decide +kernel
theorem dX4_canGo_38 : decode cX4_canGo 38 = .ok (.ireturn, 1) := by decide +kernel
set_option maxRecDepth 20000 in
theorem ggX4_go_X4_isDue : GoodIn wsX4_go wsX4_isDue := goodIn_r _ [9, 10, 2, 11, 3, 1, 12, 13, 14, 8, 15, 16, 17, 18, 23, 24, 25, 26, 27, 28, 29, 30, 31, 32, 33, 34, 35, 36, 37, 38, 39, 40, 41, 42, 43, 44] (by decide +kernel) (by decide +kernel)
set_option maxRecDepth 20000 in
theorem gX4_go_X4_isDue : GoodIn wsX4_go (wsV RX4 61 RX4 yX4_isDue wsX4_isDue) := goodIn_app (goodIn_of _ (by decide +kernel)) ggX4_go_X4_isDue
set_option maxRecDepth 20000 in
theorem ggX4_go_X4_register : GoodIn wsX4_go wsX4_register := goodIn_r _ [22, 1, 17, 2, 3, 23, 24, 25, 26, 27, 28, 29, 30, 31, 32] (by decide +kernel) (by decide +kernel)
set_option maxRecDepth 20000 in
theorem gX4_go_X4_register : GoodIn wsX4_go (wsV RX4 34 RX4 yX4_register wsX4_register) := goodIn_app (goodIn_of _ (by decide +kernel)) ggX4_go_X4_register
theorem dX4_go_0 : decode cX4_go 0 = .ok (.iload_n 2, 1) := by decide +kernel
theorem dX4_go_1 : decode cX4_go 1 = .ok (.aload_n 0, 1) := by decide +kernel
theorem dX4_go_2 : decode cX4_go 2 = .ok (.getfield 25, 3) := by decide +kernel
theorem dX4_go_5 : decode cX4_go 5 = .ok (.if_icmp .eq 13, 3) := by decide +kernel
theorem dX4_go_8 : decode cX4_go 8 = .ok (.aload_n 0, 1) := by decide +kernel
theorem dX4_go_9 : decode cX4_go 9 = .ok (.dup, 1) := by decide +kernel
theorem dX4_go_10 : decode cX4_go 10 = .ok (.getfield 46, 3) := by decide +kernel
theorem dX4_go_13 : decode cX4_go 13 = .ok (.iconst 1, 1) := by decide +kernel
theorem dX4_go_14 : decode cX4_go 14 = .ok (.iadd, 1) := by decide +kernel
theorem dX4_go_15 : decode cX4_go 15 = .ok (.putfield 46, 3) := by decide +kernel
theorem dX4_go_18 : decode cX4_go 18 = .ok (.aload_n 0, 1) := by decide +kernel
theorem dX4_go_19 : decode cX4_go 19 = .ok (.dup, 1) := by decide +kernel
theorem dX4_go_20 : decode cX4_go 20 = .ok (.getfield 49, 3) := by decide +kernel
theorem dX4_go_23 : decode cX4_go 23 = .ok (.iconst 1, 1) := by decide +kernel
theorem dX4_go_24 : decode cX4_go 24 = .ok (.iadd, 1) := by decide +kernel
theorem dX4_go_25 : decode cX4_go 25 = .ok (.putfield 49, 3) := by decide +kernel
theorem dX4_go_28 : decode cX4_go 28 = .ok (.aload_n 0, 1) := by decide +kernel
theorem dX4_go_29 : decode cX4_go 29 = .ok (.iload_n 2, 1) := by decide +kernel
theorem dX4_go_30 : decode cX4_go 30 = .ok (.putfield 25, 3) := by decide +kernel
theorem dX4_go_33 : decode cX4_go 33 = .ok (.aload_n 0, 1) := by decide +kernel
theorem dX4_go_34 : decode cX4_go 34 = .ok (.aload_n 1, 1) := by decide +kernel
theorem dX4_go_35 : decode cX4_go 35 = .ok (.invokevirtual 61, 3) := by decide +kernel
theorem dX4_go_38 : decode cX4_go 38 = .ok (.ifCond .ne 5, 3) := by decide +kernel
theorem dX4_go_41 : decode cX4_go 41 = .ok (.iconst 0, 1) := by decide +kernel
theorem dX4_go_42 : decode cX4_go 42 = .ok (.ireturn, 1) := by decide +kernel
theorem dX4_go_43 : decode cX4_go 43 = .ok (.aload_n 0, 1) := by decide +kernel
theorem dX4_go_44 : decode cX4_go 44 = .ok (.invokevirtual 34, 3) := by decide +kernel
theorem dX4_go_47 : decode cX4_go 47 = .ok (.aload_n 0, 1) := by decide +kernel
theorem dX4_go_48 : decode cX4_go 48 = .ok (.dup, 1) := by decide +kernel
theorem dX4_go_49 : decode cX4_go 49 = .ok (.getfield 28, 3) := by decide +kernel
theorem dX4_go_52 : decode cX4_go 52 = .ok (.iconst 1, 1) := by decide +kernel
theorem dX4_go_53 : decode cX4_go 53 = .ok (.iadd, 1) := by decide +kernel
theorem dX4_go_54 : decode cX4_go 54 = .ok (.putfield 28, 3) := by decide +kernel
theorem dX4_go_57 : decode cX4_go 57 = .ok (.iconst 1, 1) := by decide +kernel
theorem dX4_go_58 : decode cX4_go 58 = .ok (.ireturn, 1) := by decide +kernel
set_option maxRecDepth 20000 in
theorem ggX4_isDue_X4_isOutside : GoodIn wsX4_isDue wsX4_isOutside := goodIn_r _ [10, 1, 11, 12, 13, 3, 14, 15, 16, 17, 18, 19, 20, 21, 22, 23, 24, 25, 26, 27, 28, 29, 30, 31, 32, 33, 34, 35] (by decide +kernel) (by decide +kernel)
set_option maxRecDepth 20000 in
theorem gX4_isDue_X4_isOutside : GoodIn wsX4_isDue (wsV RX4 65 RX4 yX4_isOutside wsX4_isOutside) := goodIn_app (goodIn_of _ (by decide +kernel)) ggX4_isDue_X4_isOutside
theorem dX4_isDue_0 : decode cX4_isDue 0 = .ok (.aload_n 0, 1) := by decide +kernel
theorem dX4_isDue_1 : decode cX4_isDue 1 = .ok (.getfield 18, 3) := by decide +kernel
theorem dX4_isDue_4 : decode cX4_isDue 4 = .ok (.lookupswitch 62 #[(1, 28), (2, 45)], 28) := by decide +kernel
theorem dX4_isDue_32 : decode cX4_isDue 32 = .ok (.aload_n 0, 1) := by decide +kernel
theorem dX4_isDue_33 : decode cX4_isDue 33 = .ok (.getfield 46, 3) := by decide +kernel
theorem dX4_isDue_36 : decode cX4_isDue 36 = .ok (.aload_n 0, 1) := by decide +kernel
theorem dX4_isDue_37 : decode cX4_isDue 37 = .ok (.getfield 22, 3) := by decide +kernel
theorem dX4_isDue_40 : decode cX4_isDue 40 = .ok (.if_icmp .lt 7, 3) := by decide +kernel
theorem dX4_isDue_43 : decode cX4_isDue 43 = .ok (.iconst 1, 1) := by decide +kernel
theorem dX4_isDue_44 : decode cX4_isDue 44 = .ok (.goto 4, 3) := by decide +kernel
theorem dX4_isDue_47 : decode cX4_isDue 47 = .ok (.iconst 0, 1) := by decide +kernel
theorem dX4_isDue_48 : decode cX4_isDue 48 = .ok (.ireturn, 1) := by decide +kernel
theorem dX4_isDue_49 : decode cX4_isDue 49 = .ok (.aload_n 0, 1) := by decide +kernel
theorem dX4_isDue_50 : decode cX4_isDue 50 = .ok (.getfield 49, 3) := by decide +kernel
theorem dX4_isDue_53 : decode cX4_isDue 53 = .ok (.aload_n 0, 1) := by decide +kernel
theorem dX4_isDue_54 : decode cX4_isDue 54 = .ok (.getfield 22, 3) := by decide +kernel
theorem dX4_isDue_57 : decode cX4_isDue 57 = .ok (.if_icmp .lt 7, 3) := by decide +kernel
theorem dX4_isDue_60 : decode cX4_isDue 60 = .ok (.iconst 1, 1) := by decide +kernel
theorem dX4_isDue_61 : decode cX4_isDue 61 = .ok (.goto 4, 3) := by decide +kernel
theorem dX4_isDue_64 : decode cX4_isDue 64 = .ok (.iconst 0, 1) := by decide +kernel
theorem dX4_isDue_65 : decode cX4_isDue 65 = .ok (.ireturn, 1) := by decide +kernel
theorem dX4_isDue_66 : decode cX4_isDue 66 = .ok (.aload_n 0, 1) := by decide +kernel
theorem dX4_isDue_67 : decode cX4_isDue 67 = .ok (.aload_n 1, 1) := by decide +kernel
theorem dX4_isDue_68 : decode cX4_isDue 68 = .ok (.aload_n 0, 1) := by decide +kernel
theorem dX4_isDue_69 : decode cX4_isDue 69 = .ok (.getfield 25, 3) := by decide +kernel
theorem dX4_isDue_72 : decode cX4_isDue 72 = .ok (.invokevirtual 65, 3) := by decide +kernel
theorem dX4_isDue_75 : decode cX4_isDue 75 = .ok (.ireturn, 1) := by decide +kernel
theorem dX4_isOutside_0 : decode cX4_isOutside 0 = .ok (.aload_n 0, 1) := by decide +kernel
theorem dX4_isOutside_1 : decode cX4_isOutside 1 = .ok (.getfield 18, 3) := by decide +kernel
theorem dX4_isOutside_4 : decode cX4_isOutside 4 = .ok (.lookupswitch 76 #[(0, 28), (3, 52)], 28) := by decide +kernel
theorem dX4_isOutside_32 : decode cX4_isOutside 32 = .ok (.aload_n 0, 1) := by decide +kernel
theorem dX4_isOutside_33 : decode cX4_isOutside 33 = .ok (.getfield 15, 3) := by decide +kernel
theorem dX4_isOutside_36 : decode cX4_isOutside 36 = .ok (.iload_n 2, 1) := by decide +kernel
theorem dX4_isOutside_37 : decode cX4_isOutside 37 = .ok (.iaload, 1) := by decide +kernel
theorem dX4_isOutside_38 : decode cX4_isOutside 38 = .ok (.aload_n 0, 1) := by decide +kernel
theorem dX4_isOutside_39 : decode cX4_isOutside 39 = .ok (.getfield 15, 3) := by decide +kernel
theorem dX4_isOutside_42 : decode cX4_isOutside 42 = .ok (.aload_n 0, 1) := by decide +kernel
theorem dX4_isOutside_43 : decode cX4_isOutside 43 = .ok (.getfield 43, 3) := by decide +kernel
theorem dX4_isOutside_46 : decode cX4_isOutside 46 = .ok (.iaload, 1) := by decide +kernel
theorem dX4_isOutside_47 : decode cX4_isOutside 47 = .ok (.if_icmp .eq 7, 3) := by decide +kernel
theorem dX4_isOutside_50 : decode cX4_isOutside 50 = .ok (.iconst 1, 1) := by decide +kernel
theorem dX4_isOutside_51 : decode cX4_isOutside 51 = .ok (.goto 4, 3) := by decide +kernel
theorem dX4_isOutside_54 : decode cX4_isOutside 54 = .ok (.iconst 0, 1) := by decide +kernel
theorem dX4_isOutside_55 : decode cX4_isOutside 55 = .ok (.ireturn, 1) := by decide +kernel
theorem dX4_isOutside_56 : decode cX4_isOutside 56 = .ok (.aload_n 1, 1) := by decide +kernel
theorem dX4_isOutside_57 : decode cX4_isOutside 57 = .ok (.getfield 69, 3) := by decide +kernel
theorem dX4_isOutside_60 : decode cX4_isOutside 60 = .ok (.aload_n 0, 1) := by decide +kernel
theorem dX4_isOutside_61 : decode cX4_isOutside 61 = .ok (.getfield 43, 3) := by decide +kernel
theorem dX4_isOutside_64 : decode cX4_isOutside 64 = .ok (.aaload, 1) := by decide +kernel
theorem dX4_isOutside_65 : decode cX4_isOutside 65 = .ok (.iload_n 2, 1) := by decide +kernel
theorem dX4_isOutside_66 : decode cX4_isOutside 66 = .ok (.iaload, 1) := by decide +kernel
theorem dX4_isOutside_67 : decode cX4_isOutside 67 = .ok (.aload_n 0, 1) := by decide +kernel
theorem dX4_isOutside_68 : decode cX4_isOutside 68 = .ok (.getfield 22, 3) := by decide +kernel
theorem dX4_isOutside_71 : decode cX4_isOutside 71 = .ok (.if_icmp .lt 7, 3) := by decide +kernel
theorem dX4_isOutside_74 : decode cX4_isOutside 74 = .ok (.iconst 1, 1) := by decide +kernel
theorem dX4_isOutside_75 : decode cX4_isOutside 75 = .ok (.goto 4, 3) := by decide +kernel
theorem dX4_isOutside_78 : decode cX4_isOutside 78 = .ok (.iconst 0, 1) := by decide +kernel
theorem dX4_isOutside_79 : decode cX4_isOutside 79 = .ok (.ireturn, 1) := by decide +kernel
theorem dX4_isOutside_80 : decode cX4_isOutside 80 = .ok (.iconst 0, 1) := by decide +kernel
theorem dX4_isOutside_81 : decode cX4_isOutside 81 = .ok (.ireturn, 1) := by decide +kernel
theorem dX4_drawnCell_0 : decode cX4_drawnCell 0 = .ok (.aload_n 0, 1) := by decide +kernel
theorem dX4_drawnCell_1 : decode cX4_drawnCell 1 = .ok (.getfield 9, 3) := by decide +kernel
theorem dX4_drawnCell_4 : decode cX4_drawnCell 4 = .ok (.aload_n 0, 1) := by decide +kernel
theorem dX4_drawnCell_5 : decode cX4_drawnCell 5 = .ok (.getfield 25, 3) := by decide +kernel
theorem dX4_drawnCell_8 : decode cX4_drawnCell 8 = .ok (.iaload, 1) := by decide +kernel
theorem dX4_drawnCell_9 : decode cX4_drawnCell 9 = .ok (.aload_n 1, 1) := by decide +kernel
theorem dX4_drawnCell_10 : decode cX4_drawnCell 10 = .ok (.getfield 73, 3) := by decide +kernel
theorem dX4_drawnCell_13 : decode cX4_drawnCell 13 = .ok (.aload_n 0, 1) := by decide +kernel
theorem dX4_drawnCell_14 : decode cX4_drawnCell 14 = .ok (.getfield 25, 3) := by decide +kernel
theorem dX4_drawnCell_17 : decode cX4_drawnCell 17 = .ok (.iaload, 1) := by decide +kernel
theorem dX4_drawnCell_18 : decode cX4_drawnCell 18 = .ok (.iadd, 1) := by decide +kernel
theorem dX4_drawnCell_19 : decode cX4_drawnCell 19 = .ok (.istore_n 3, 1) := by decide +kernel
theorem dX4_drawnCell_20 : decode cX4_drawnCell 20 = .ok (.iload_n 3, 1) := by decide +kernel
theorem dX4_drawnCell_21 : decode cX4_drawnCell 21 = .ok (.ifCond .le 9, 3) := by decide +kernel
theorem dX4_drawnCell_24 : decode cX4_drawnCell 24 = .ok (.iload_n 2, 1) := by decide +kernel
theorem dX4_drawnCell_25 : decode cX4_drawnCell 25 = .ok (.iload_n 3, 1) := by decide +kernel
theorem dX4_drawnCell_26 : decode cX4_drawnCell 26 = .ok (.irem, 1) := by decide +kernel
theorem dX4_drawnCell_27 : decode cX4_drawnCell 27 = .ok (.goto 4, 3) := by decide +kernel
theorem dX4_drawnCell_30 : decode cX4_drawnCell 30 = .ok (.iconst 0, 1) := by decide +kernel
theorem dX4_drawnCell_31 : decode cX4_drawnCell 31 = .ok (.istore 4, 2) := by decide +kernel
theorem dX4_drawnCell_33 : decode cX4_drawnCell 33 = .ok (.aload_n 0, 1) := by decide +kernel
theorem dX4_drawnCell_34 : decode cX4_drawnCell 34 = .ok (.getfield 9, 3) := by decide +kernel
theorem dX4_drawnCell_37 : decode cX4_drawnCell 37 = .ok (.aload_n 0, 1) := by decide +kernel
theorem dX4_drawnCell_38 : decode cX4_drawnCell 38 = .ok (.getfield 25, 3) := by decide +kernel
theorem dX4_drawnCell_41 : decode cX4_drawnCell 41 = .ok (.iaload, 1) := by decide +kernel
theorem dX4_drawnCell_42 : decode cX4_drawnCell 42 = .ok (.istore 5, 2) := by decide +kernel
theorem dX4_drawnCell_44 : decode cX4_drawnCell 44 = .ok (.iload 4, 2) := by decide +kernel
theorem dX4_drawnCell_46 : decode cX4_drawnCell 46 = .ok (.iload 5, 2) := by decide +kernel
theorem dX4_drawnCell_48 : decode cX4_drawnCell 48 = .ok (.if_icmp .ge 8, 3) := by decide +kernel
theorem dX4_drawnCell_51 : decode cX4_drawnCell 51 = .ok (.aload_n 0, 1) := by decide +kernel
theorem dX4_drawnCell_52 : decode cX4_drawnCell 52 = .ok (.getfield 25, 3) := by decide +kernel
theorem dX4_drawnCell_55 : decode cX4_drawnCell 55 = .ok (.ireturn, 1) := by decide +kernel
theorem dX4_drawnCell_56 : decode cX4_drawnCell 56 = .ok (.iconst 0, 1) := by decide +kernel
theorem dX4_drawnCell_57 : decode cX4_drawnCell 57 = .ok (.istore 6, 2) := by decide +kernel
theorem dX4_drawnCell_59 : decode cX4_drawnCell 59 = .ok (.iload 6, 2) := by decide +kernel
theorem dX4_drawnCell_61 : decode cX4_drawnCell 61 = .ok (.aload_n 1, 1) := by decide +kernel
theorem dX4_drawnCell_62 : decode cX4_drawnCell 62 = .ok (.getfield 76, 3) := by decide +kernel
theorem dX4_drawnCell_65 : decode cX4_drawnCell 65 = .ok (.if_icmp .ge 36, 3) := by decide +kernel
theorem dX4_drawnCell_68 : decode cX4_drawnCell 68 = .ok (.iload 5, 2) := by decide +kernel
theorem dX4_drawnCell_70 : decode cX4_drawnCell 70 = .ok (.aload_n 1, 1) := by decide +kernel
theorem dX4_drawnCell_71 : decode cX4_drawnCell 71 = .ok (.getfield 79, 3) := by decide +kernel
theorem dX4_drawnCell_74 : decode cX4_drawnCell 74 = .ok (.aload_n 0, 1) := by decide +kernel
theorem dX4_drawnCell_75 : decode cX4_drawnCell 75 = .ok (.getfield 25, 3) := by decide +kernel
theorem dX4_drawnCell_78 : decode cX4_drawnCell 78 = .ok (.aaload, 1) := by decide +kernel
theorem dX4_drawnCell_79 : decode cX4_drawnCell 79 = .ok (.iload 6, 2) := by decide +kernel
theorem dX4_drawnCell_81 : decode cX4_drawnCell 81 = .ok (.iaload, 1) := by decide +kernel
theorem dX4_drawnCell_82 : decode cX4_drawnCell 82 = .ok (.iadd, 1) := by decide +kernel
theorem dX4_drawnCell_83 : decode cX4_drawnCell 83 = .ok (.istore 5, 2) := by decide +kernel
theorem dX4_drawnCell_85 : decode cX4_drawnCell 85 = .ok (.iload 4, 2) := by decide +kernel
theorem dX4_drawnCell_87 : decode cX4_drawnCell 87 = .ok (.iload 5, 2) := by decide +kernel
theorem dX4_drawnCell_89 : decode cX4_drawnCell 89 = .ok (.if_icmp .ge 6, 3) := by decide +kernel
theorem dX4_drawnCell_92 : decode cX4_drawnCell 92 = .ok (.iload 6, 2) := by decide +kernel
theorem dX4_drawnCell_94 : decode cX4_drawnCell 94 = .ok (.ireturn, 1) := by decide +kernel
theorem dX4_drawnCell_95 : decode cX4_drawnCell 95 = .ok (.iinc 6 1, 3) := by decide +kernel
theorem dX4_drawnCell_98 : decode cX4_drawnCell 98 = .ok (.goto (-39), 3) := by decide +kernel
theorem dX4_drawnCell_101 : decode cX4_drawnCell 101 = .ok (.aload_n 0, 1) := by decide +kernel
theorem dX4_drawnCell_102 : decode cX4_drawnCell 102 = .ok (.getfield 25, 3) := by decide +kernel
theorem dX4_drawnCell_105 : decode cX4_drawnCell 105 = .ok (.ireturn, 1) := by decide +kernel
theorem dX5_init_0 : decode cX5_init 0 = .ok (.aload_n 0, 1) := by decide +kernel
theorem dX5_init_1 : decode cX5_init 1 = .ok (.invokespecial 3, 3) := by decide +kernel
theorem dX5_init_4 : decode cX5_init 4 = .ok (.aload_n 0, 1) := by decide +kernel
theorem dX5_init_5 : decode cX5_init 5 = .ok (.sipush 200, 3) := by decide +kernel
theorem dX5_init_8 : decode cX5_init 8 = .ok (.newarray .int, 2) := by decide +kernel
theorem dX5_init_10 : decode cX5_init 10 = .ok (.putfield 9, 3) := by decide +kernel
theorem dX5_init_13 : decode cX5_init 13 = .ok (.aload_n 0, 1) := by decide +kernel
theorem dX5_init_14 : decode cX5_init 14 = .ok (.iconst 4, 1) := by decide +kernel
theorem dX5_init_15 : decode cX5_init 15 = .ok (.newarray .int, 2) := by decide +kernel
theorem dX5_init_17 : decode cX5_init 17 = .ok (.putfield 15, 3) := by decide +kernel
theorem dX5_init_20 : decode cX5_init 20 = .ok (.return_, 1) := by decide +kernel
theorem dX5_append_0 : decode cX5_append 0 = .ok (.aload_n 0, 1) := by decide +kernel
theorem dX5_append_1 : decode cX5_append 1 = .ok (.getfield 18, 3) := by decide +kernel
theorem dX5_append_4 : decode cX5_append 4 = .ok (.sipush 200, 3) := by decide +kernel
theorem dX5_append_7 : decode cX5_append 7 = .ok (.if_icmp .lt 5, 3) := by decide +kernel
theorem dX5_append_10 : decode cX5_append 10 = .ok (.iconst 0, 1) := by decide +kernel
theorem dX5_append_11 : decode cX5_append 11 = .ok (.ireturn, 1) := by decide +kernel
theorem dX5_append_12 : decode cX5_append 12 = .ok (.aload_n 0, 1) := by decide +kernel
theorem dX5_append_13 : decode cX5_append 13 = .ok (.getfield 9, 3) := by decide +kernel
theorem dX5_append_16 : decode cX5_append 16 = .ok (.aload_n 0, 1) := by decide +kernel
theorem dX5_append_17 : decode cX5_append 17 = .ok (.getfield 18, 3) := by decide +kernel
theorem dX5_append_20 : decode cX5_append 20 = .ok (.iload_n 1, 1) := by decide +kernel
theorem dX5_append_21 : decode cX5_append 21 = .ok (.iastore, 1) := by decide +kernel
theorem dX5_append_22 : decode cX5_append 22 = .ok (.aload_n 0, 1) := by decide +kernel
theorem dX5_append_23 : decode cX5_append 23 = .ok (.dup, 1) := by decide +kernel
theorem dX5_append_24 : decode cX5_append 24 = .ok (.getfield 18, 3) := by decide +kernel
theorem dX5_append_27 : decode cX5_append 27 = .ok (.iconst 1, 1) := by decide +kernel
theorem dX5_append_28 : decode cX5_append 28 = .ok (.iadd, 1) := by decide +kernel
theorem dX5_append_29 : decode cX5_append 29 = .ok (.putfield 18, 3) := by decide +kernel
theorem dX5_append_32 : decode cX5_append 32 = .ok (.iconst 1, 1) := by decide +kernel
theorem dX5_append_33 : decode cX5_append 33 = .ok (.ireturn, 1) := by decide +kernel
set_option maxRecDepth 20000 in
theorem ggX5_readInto_X1_begin : GoodIn wsX5_readInto wsX1_begin := goodIn_r _ [7, 8, 9, 10, 11, 12, 13, 14, 15, 16, 6, 17, 18, 19, 20, 21, 114, 115, 116, 117, 118, 119, 120, 121, 122, 123, 124, 125] (by decide +kernel) (by decide +kernel)
set_option maxRecDepth 20000 in
theorem gX5_readInto_X1_begin : GoodIn wsX5_readInto (wsV RX5 22 RX1 yX1_begin wsX1_begin) := goodIn_app (goodIn_of _ (by decide +kernel)) ggX5_readInto_X1_begin
set_option maxRecDepth 20000 in
theorem ggX5_readInto_X4_begin : GoodIn wsX5_readInto wsX4_begin := goodIn_r _ [26, 27, 28, 29, 30, 31, 32, 33, 34, 35, 36, 25, 37, 38, 39, 40, 126, 127, 128, 129, 130, 131, 132, 133, 134, 135] (by decide +kernel) (by decide +kernel)
set_option maxRecDepth 20000 in
theorem gX5_readInto_X4_begin : GoodIn wsX5_readInto (wsV RX5 28 RX4 yX4_begin wsX4_begin) := goodIn_app (goodIn_of _ (by decide +kernel)) ggX5_readInto_X4_begin
set_option maxRecDepth 20000 in
theorem ggX5_readInto_X5_readItem : GoodIn wsX5_readInto wsX5_readItem := goodIn_r _ [45, 1, 46, 47, 48, 49, 50, 51, 44, 52, 2, 53, 54, 55, 56, 57, 58, 59, 60, 61, 62, 63, 64, 65, 66, 67, 68, 69, 70, 71, 72, 73, 74, 3, 4, 5, 6, 7, 8, 9, 10, 11, 12, 13, 14, 15, 16, 17, 18, 19, 20, 21, 75, 76, 77, 78, 79, 80, 81, 82, 83, 84, 85, 86, 87, 88, 89, 90, 91, 92, 93, 94, 95, 96, 97, 98, 99, 100, 101, 102, 103, 104, 105, 106, 107, 108, 109, 110, 111, 112, 113, 114, 115, 116, 117, 118, 119, 120, 121, 122, 123, 124, 125, 126, 127, 128, 129, 130, 131, 132, 133, 134, 135] (by decide +kernel) (by decide +kernel)
set_option maxRecDepth 20000 in
theorem gX5_readInto_X5_readItem : GoodIn wsX5_readInto (wsV RX5 35 RX5 yX5_readItem wsX5_readItem) := goodIn_app (goodIn_of _ (by decide +kernel)) ggX5_readInto_X5_readItem
theorem dX5_readInto_0 : decode cX5_readInto 0 = .ok (.aload_n 1, 1) := by decide +kernel
theorem dX5_readInto_1 : decode cX5_readInto 1 = .ok (.iconst 0, 1) := by decide +kernel
theorem dX5_readInto_2 : decode cX5_readInto 2 = .ok (.invokevirtual 22, 3) := by decide +kernel
theorem dX5_readInto_5 : decode cX5_readInto 5 = .ok (.aload_n 2, 1) := by decide +kernel
theorem dX5_readInto_6 : decode cX5_readInto 6 = .ok (.invokevirtual 28, 3) := by decide +kernel
theorem dX5_readInto_9 : decode cX5_readInto 9 = .ok (.aload_n 0, 1) := by decide +kernel
theorem dX5_readInto_10 : decode cX5_readInto 10 = .ok (.iconst 0, 1) := by decide +kernel
theorem dX5_readInto_11 : decode cX5_readInto 11 = .ok (.putfield 32, 3) := by decide +kernel
theorem dX5_readInto_14 : decode cX5_readInto 14 = .ok (.iconst 0, 1) := by decide +kernel
theorem dX5_readInto_15 : decode cX5_readInto 15 = .ok (.istore_n 3, 1) := by decide +kernel
theorem dX5_readInto_16 : decode cX5_readInto 16 = .ok (.iload_n 3, 1) := by decide +kernel
theorem dX5_readInto_17 : decode cX5_readInto 17 = .ok (.sipush 200, 3) := by decide +kernel
theorem dX5_readInto_20 : decode cX5_readInto 20 = .ok (.if_icmp .ge 38, 3) := by decide +kernel
theorem dX5_readInto_23 : decode cX5_readInto 23 = .ok (.aload_n 0, 1) := by decide +kernel
theorem dX5_readInto_24 : decode cX5_readInto 24 = .ok (.getfield 32, 3) := by decide +kernel
theorem dX5_readInto_27 : decode cX5_readInto 27 = .ok (.aload_n 0, 1) := by decide +kernel
theorem dX5_readInto_28 : decode cX5_readInto 28 = .ok (.getfield 18, 3) := by decide +kernel
theorem dX5_readInto_31 : decode cX5_readInto 31 = .ok (.if_icmp .ge 27, 3) := by decide +kernel
theorem dX5_readInto_34 : decode cX5_readInto 34 = .ok (.aload_n 0, 1) := by decide +kernel
theorem dX5_readInto_35 : decode cX5_readInto 35 = .ok (.getfield 32, 3) := by decide +kernel
theorem dX5_readInto_38 : decode cX5_readInto 38 = .ok (.istore 4, 2) := by decide +kernel
theorem dX5_readInto_40 : decode cX5_readInto 40 = .ok (.aload_n 0, 1) := by decide +kernel
theorem dX5_readInto_41 : decode cX5_readInto 41 = .ok (.aload_n 1, 1) := by decide +kernel
theorem dX5_readInto_42 : decode cX5_readInto 42 = .ok (.aload_n 2, 1) := by decide +kernel
theorem dX5_readInto_43 : decode cX5_readInto 43 = .ok (.invokevirtual 35, 3) := by decide +kernel
theorem dX5_readInto_46 : decode cX5_readInto 46 = .ok (.ifCond .ne 6, 3) := by decide +kernel
theorem dX5_readInto_49 : decode cX5_readInto 49 = .ok (.iload 4, 2) := by decide +kernel
theorem dX5_readInto_51 : decode cX5_readInto 51 = .ok (.ireturn, 1) := by decide +kernel
theorem dX5_readInto_52 : decode cX5_readInto 52 = .ok (.iinc 3 1, 3) := by decide +kernel
theorem dX5_readInto_55 : decode cX5_readInto 55 = .ok (.goto (-39), 3) := by decide +kernel
theorem dX5_readInto_58 : decode cX5_readInto 58 = .ok (.bipush (-4), 2) := by decide +kernel
theorem dX5_readInto_60 : decode cX5_readInto 60 = .ok (.ireturn, 1) := by decide +kernel
set_option maxRecDepth 20000 in
theorem ggX5_readItem_X5_letterHere : GoodIn wsX5_readItem wsX5_letterHere := goodIn_r _ [9, 1, 10, 11, 87, 88, 89, 90] (by decide +kernel) (by decide +kernel)
set_option maxRecDepth 20000 in
theorem gX5_readItem_X5_letterHere : GoodIn wsX5_readItem (wsV RX5 39 RX5 yX5_letterHere wsX5_letterHere) := goodIn_app (goodIn_of _ (by decide +kernel)) ggX5_readItem_X5_letterHere
set_option maxRecDepth 20000 in
theorem ggX5_readItem_X5_numbersBehind : GoodIn wsX5_readItem wsX5_numbersBehind := goodIn_r _ [15] (by decide +kernel) (by decide +kernel)
set_option maxRecDepth 20000 in
theorem gX5_readItem_X5_numbersBehind : GoodIn wsX5_readItem (wsV RX5 46 RX5 yX5_numbersBehind wsX5_numbersBehind) := goodIn_app (goodIn_of _ (by decide +kernel)) ggX5_readItem_X5_numbersBehind
set_option maxRecDepth 20000 in
theorem ggX5_readItem_X5_readNumbers : GoodIn wsX5_readItem wsX5_readNumbers := goodIn_r _ [19, 20, 1, 21, 22, 23, 8, 24, 25, 26, 27, 28, 10, 11, 5, 6, 7, 9, 87, 88, 89, 90] (by decide +kernel) (by decide +kernel)
set_option maxRecDepth 20000 in
theorem gX5_readItem_X5_readNumbers : GoodIn wsX5_readItem (wsV RX5 50 RX5 yX5_readNumbers wsX5_readNumbers) := goodIn_app (goodIn_of _ (by decide +kernel)) ggX5_readItem_X5_readNumbers
set_option maxRecDepth 20000 in
theorem ggX5_readItem_X5_takeCells : GoodIn wsX5_readItem wsX5_takeCells := goodIn_r _ [32, 20, 33, 34, 35, 36, 37, 38, 39, 40, 41, 42, 43, 44, 45, 46, 47, 48, 49, 50, 51, 87, 88, 89, 90, 91, 92, 93, 94, 95, 96, 97, 98, 99, 100, 101, 102] (by decide +kernel) (by decide +kernel)
set_option maxRecDepth 20000 in
theorem gX5_readItem_X5_takeCells : GoodIn wsX5_readItem (wsV RX5 54 RX5 yX5_takeCells wsX5_takeCells) := goodIn_app (goodIn_of _ (by decide +kernel)) ggX5_readItem_X5_takeCells
set_option maxRecDepth 20000 in
theorem ggX5_readItem_X5_takeJoin : GoodIn wsX5_readItem wsX5_takeJoin := goodIn_r _ [55, 20, 2, 56, 57, 58, 59, 8, 60, 61, 62, 63, 36, 64, 39, 65, 66, 67, 68, 42, 43, 40, 41, 87, 88, 89, 90, 91, 92, 93, 94, 95, 96, 97, 98, 99, 100, 101, 102] (by decide +kernel) (by decide +kernel)
set_option maxRecDepth 20000 in
theorem gX5_readItem_X5_takeJoin : GoodIn wsX5_readItem (wsV RX5 58 RX5 yX5_takeJoin wsX5_takeJoin) := goodIn_app (goodIn_of _ (by decide +kernel)) ggX5_readItem_X5_takeJoin
set_option maxRecDepth 20000 in
theorem ggX5_readItem_X5_takeCellNumber : GoodIn wsX5_readItem wsX5_takeCellNumber := goodIn_r _ [72, 20, 2, 87, 88, 89, 90, 91, 92, 93, 94, 95, 96, 97, 98, 99, 100, 101, 102] (by decide +kernel) (by decide +kernel)
set_option maxRecDepth 20000 in
theorem gX5_readItem_X5_takeCellNumber : GoodIn wsX5_readItem (wsV RX5 64 RX5 yX5_takeCellNumber wsX5_takeCellNumber) := goodIn_app (goodIn_of _ (by decide +kernel)) ggX5_readItem_X5_takeCellNumber
set_option maxRecDepth 20000 in
theorem ggX5_readItem_X5_takeLaw : GoodIn wsX5_readItem wsX5_takeLaw := goodIn_r _ [76, 20, 77, 78, 79, 80, 81, 87, 88, 89, 90, 103, 104, 105, 106, 107, 108, 109, 110, 111, 112] (by decide +kernel) (by decide +kernel)
set_option maxRecDepth 20000 in
theorem gX5_readItem_X5_takeLaw : GoodIn wsX5_readItem (wsV RX5 71 RX5 yX5_takeLaw wsX5_takeLaw) := goodIn_app (goodIn_of _ (by decide +kernel)) ggX5_readItem_X5_takeLaw
set_option maxRecDepth 20000 in
theorem ggX5_readItem_X5_takePrices : GoodIn wsX5_readItem wsX5_takePrices := goodIn_r _ [85, 20, 86, 45, 46, 36, 47, 48, 49, 50, 51, 87, 88, 89, 90, 91, 92, 93, 94, 95, 96, 97, 98, 99, 100, 101, 102] (by decide +kernel) (by decide +kernel)
set_option maxRecDepth 20000 in
theorem gX5_readItem_X5_takePrices : GoodIn wsX5_readItem (wsV RX5 75 RX5 yX5_takePrices wsX5_takePrices) := goodIn_app (goodIn_of _ (by decide +kernel)) ggX5_readItem_X5_takePrices
theorem dX5_readItem_0 : decode cX5_readItem 0 = .ok (.aload_n 0, 1) := by decide +kernel
theorem dX5_readItem_1 : decode cX5_readItem 1 = .ok (.invokevirtual 39, 3) := by decide +kernel
theorem dX5_readItem_4 : decode cX5_readItem 4 = .ok (.istore_n 3, 1) := by decide +kernel
theorem dX5_readItem_5 : decode cX5_readItem 5 = .ok (.aload_n 0, 1) := by decide +kernel
theorem dX5_readItem_6 : decode cX5_readItem 6 = .ok (.dup, 1) := by decide +kernel
theorem dX5_readItem_7 : decode cX5_readItem 7 = .ok (.getfield 32, 3) := by decide +kernel
theorem dX5_readItem_10 : decode cX5_readItem 10 = .ok (.iconst 1, 1) := by decide +kernel
theorem dX5_readItem_11 : decode cX5_readItem 11 = .ok (.iadd, 1) := by decide +kernel
theorem dX5_readItem_12 : decode cX5_readItem 12 = .ok (.putfield 32, 3) := by decide +kernel
theorem dX5_readItem_15 : decode cX5_readItem 15 = .ok (.aload_n 1, 1) := by decide +kernel
theorem dX5_readItem_16 : decode cX5_readItem 16 = .ok (.getfield 43, 3) := by decide +kernel
theorem dX5_readItem_19 : decode cX5_readItem 19 = .ok (.ifCond .ne 7, 3) := by decide +kernel
theorem dX5_readItem_22 : decode cX5_readItem 22 = .ok (.iconst 1, 1) := by decide +kernel
theorem dX5_readItem_23 : decode cX5_readItem 23 = .ok (.goto 4, 3) := by decide +kernel
theorem dX5_readItem_26 : decode cX5_readItem 26 = .ok (.iconst 0, 1) := by decide +kernel
theorem dX5_readItem_27 : decode cX5_readItem 27 = .ok (.istore 4, 2) := by decide +kernel
theorem dX5_readItem_29 : decode cX5_readItem 29 = .ok (.iload 4, 2) := by decide +kernel
theorem dX5_readItem_31 : decode cX5_readItem 31 = .ok (.iload_n 3, 1) := by decide +kernel
theorem dX5_readItem_32 : decode cX5_readItem 32 = .ok (.bipush 110, 2) := by decide +kernel
theorem dX5_readItem_34 : decode cX5_readItem 34 = .ok (.if_icmp .ne 7, 3) := by decide +kernel
theorem dX5_readItem_37 : decode cX5_readItem 37 = .ok (.iconst 1, 1) := by decide +kernel
theorem dX5_readItem_38 : decode cX5_readItem 38 = .ok (.goto 4, 3) := by decide +kernel
theorem dX5_readItem_41 : decode cX5_readItem 41 = .ok (.iconst 0, 1) := by decide +kernel
theorem dX5_readItem_42 : decode cX5_readItem 42 = .ok (.if_icmp .ne 15, 3) := by decide +kernel
theorem dX5_readItem_45 : decode cX5_readItem 45 = .ok (.aload_n 0, 1) := by decide +kernel
theorem dX5_readItem_46 : decode cX5_readItem 46 = .ok (.aload_n 0, 1) := by decide +kernel
theorem dX5_readItem_47 : decode cX5_readItem 47 = .ok (.iload_n 3, 1) := by decide +kernel
theorem dX5_readItem_48 : decode cX5_readItem 48 = .ok (.invokevirtual 46, 3) := by decide +kernel
theorem dX5_readItem_51 : decode cX5_readItem 51 = .ok (.invokevirtual 50, 3) := by decide +kernel
theorem dX5_readItem_54 : decode cX5_readItem 54 = .ok (.ifCond .ne 5, 3) := by decide +kernel
theorem dX5_readItem_57 : decode cX5_readItem 57 = .ok (.iconst 0, 1) := by decide +kernel
theorem dX5_readItem_58 : decode cX5_readItem 58 = .ok (.ireturn, 1) := by decide +kernel
theorem dX5_readItem_59 : decode cX5_readItem 59 = .ok (.iload_n 3, 1) := by decide +kernel
theorem dX5_readItem_60 : decode cX5_readItem 60 = .ok (.tableswitch 139 97 115 #[116, 139, 139, 139, 139, 139, 139, 139, 139, 98, 139, 127, 139, 92, 139, 133, 139, 139, 104], 92) := by decide +kernel
theorem dX5_readItem_152 : decode cX5_readItem 152 = .ok (.aload_n 0, 1) := by decide +kernel
theorem dX5_readItem_153 : decode cX5_readItem 153 = .ok (.aload_n 1, 1) := by decide +kernel
theorem dX5_readItem_154 : decode cX5_readItem 154 = .ok (.invokevirtual 54, 3) := by decide +kernel
theorem dX5_readItem_157 : decode cX5_readItem 157 = .ok (.ireturn, 1) := by decide +kernel
theorem dX5_readItem_158 : decode cX5_readItem 158 = .ok (.aload_n 0, 1) := by decide +kernel
theorem dX5_readItem_159 : decode cX5_readItem 159 = .ok (.aload_n 1, 1) := by decide +kernel
theorem dX5_readItem_160 : decode cX5_readItem 160 = .ok (.invokevirtual 58, 3) := by decide +kernel
theorem dX5_readItem_163 : decode cX5_readItem 163 = .ok (.ireturn, 1) := by decide +kernel
theorem dX5_readItem_164 : decode cX5_readItem 164 = .ok (.aload_n 0, 1) := by decide +kernel
theorem dX5_readItem_165 : decode cX5_readItem 165 = .ok (.aload_n 1, 1) := by decide +kernel
theorem dX5_readItem_166 : decode cX5_readItem 166 = .ok (.aload_n 2, 1) := by decide +kernel
theorem dX5_readItem_167 : decode cX5_readItem 167 = .ok (.getfield 61, 3) := by decide +kernel
theorem dX5_readItem_170 : decode cX5_readItem 170 = .ok (.bipush 9, 2) := by decide +kernel
theorem dX5_readItem_172 : decode cX5_readItem 172 = .ok (.invokevirtual 64, 3) := by decide +kernel
theorem dX5_readItem_175 : decode cX5_readItem 175 = .ok (.ireturn, 1) := by decide +kernel
theorem dX5_readItem_176 : decode cX5_readItem 176 = .ok (.aload_n 0, 1) := by decide +kernel
theorem dX5_readItem_177 : decode cX5_readItem 177 = .ok (.aload_n 1, 1) := by decide +kernel
theorem dX5_readItem_178 : decode cX5_readItem 178 = .ok (.aload_n 2, 1) := by decide +kernel
theorem dX5_readItem_179 : decode cX5_readItem 179 = .ok (.getfield 68, 3) := by decide +kernel
theorem dX5_readItem_182 : decode cX5_readItem 182 = .ok (.iconst 5, 1) := by decide +kernel
theorem dX5_readItem_183 : decode cX5_readItem 183 = .ok (.invokevirtual 64, 3) := by decide +kernel
theorem dX5_readItem_186 : decode cX5_readItem 186 = .ok (.ireturn, 1) := by decide +kernel
theorem dX5_readItem_187 : decode cX5_readItem 187 = .ok (.aload_n 0, 1) := by decide +kernel
theorem dX5_readItem_188 : decode cX5_readItem 188 = .ok (.aload_n 2, 1) := by decide +kernel
theorem dX5_readItem_189 : decode cX5_readItem 189 = .ok (.invokevirtual 71, 3) := by decide +kernel
theorem dX5_readItem_192 : decode cX5_readItem 192 = .ok (.ireturn, 1) := by decide +kernel
theorem dX5_readItem_193 : decode cX5_readItem 193 = .ok (.aload_n 0, 1) := by decide +kernel
theorem dX5_readItem_194 : decode cX5_readItem 194 = .ok (.aload_n 1, 1) := by decide +kernel
theorem dX5_readItem_195 : decode cX5_readItem 195 = .ok (.invokevirtual 75, 3) := by decide +kernel
theorem dX5_readItem_198 : decode cX5_readItem 198 = .ok (.ireturn, 1) := by decide +kernel
theorem dX5_readItem_199 : decode cX5_readItem 199 = .ok (.iconst 0, 1) := by decide +kernel
theorem dX5_readItem_200 : decode cX5_readItem 200 = .ok (.ireturn, 1) := by decide +kernel
theorem dX5_numbersBehind_0 : decode cX5_numbersBehind 0 = .ok (.iload_n 1, 1) := by decide +kernel
theorem dX5_numbersBehind_1 : decode cX5_numbersBehind 1 = .ok (.tableswitch 97 97 115 #[93, 97, 97, 97, 97, 97, 97, 97, 97, 95, 97, 93, 97, 91, 97, 95, 97, 97, 93], 91) := by decide +kernel
theorem dX5_numbersBehind_92 : decode cX5_numbersBehind 92 = .ok (.iconst 1, 1) := by decide +kernel
theorem dX5_numbersBehind_93 : decode cX5_numbersBehind 93 = .ok (.ireturn, 1) := by decide +kernel
theorem dX5_numbersBehind_94 : decode cX5_numbersBehind 94 = .ok (.iconst 2, 1) := by decide +kernel
theorem dX5_numbersBehind_95 : decode cX5_numbersBehind 95 = .ok (.ireturn, 1) := by decide +kernel
theorem dX5_numbersBehind_96 : decode cX5_numbersBehind 96 = .ok (.iconst 4, 1) := by decide +kernel
theorem dX5_numbersBehind_97 : decode cX5_numbersBehind 97 = .ok (.ireturn, 1) := by decide +kernel
theorem dX5_numbersBehind_98 : decode cX5_numbersBehind 98 = .ok (.iconst 0, 1) := by decide +kernel
theorem dX5_numbersBehind_99 : decode cX5_numbersBehind 99 = .ok (.ireturn, 1) := by decide +kernel
set_option maxRecDepth 20000 in
theorem ggX5_takeCells_X1_begin : GoodIn wsX5_takeCells wsX1_begin := goodIn_r _ [6, 7, 8, 9, 10, 11, 12, 13, 14, 15, 5, 16, 17, 18, 19, 20, 25, 26, 27, 28, 29, 30, 31, 32, 33, 34, 35, 36] (by decide +kernel) (by decide +kernel)
set_option maxRecDepth 20000 in
theorem gX5_takeCells_X1_begin : GoodIn wsX5_takeCells (wsV RX5 22 RX1 yX1_begin wsX1_begin) := goodIn_app (goodIn_of _ (by decide +kernel)) ggX5_takeCells_X1_begin
theorem dX5_takeCells_0 : decode cX5_takeCells 0 = .ok (.aload_n 0, 1) := by decide +kernel
theorem dX5_takeCells_1 : decode cX5_takeCells 1 = .ok (.getfield 15, 3) := by decide +kernel
theorem dX5_takeCells_4 : decode cX5_takeCells 4 = .ok (.iconst 0, 1) := by decide +kernel
theorem dX5_takeCells_5 : decode cX5_takeCells 5 = .ok (.iaload, 1) := by decide +kernel
theorem dX5_takeCells_6 : decode cX5_takeCells 6 = .ok (.iconst 2, 1) := by decide +kernel
theorem dX5_takeCells_7 : decode cX5_takeCells 7 = .ok (.if_icmp .lt 14, 3) := by decide +kernel
theorem dX5_takeCells_10 : decode cX5_takeCells 10 = .ok (.aload_n 0, 1) := by decide +kernel
theorem dX5_takeCells_11 : decode cX5_takeCells 11 = .ok (.getfield 15, 3) := by decide +kernel
theorem dX5_takeCells_14 : decode cX5_takeCells 14 = .ok (.iconst 0, 1) := by decide +kernel
theorem dX5_takeCells_15 : decode cX5_takeCells 15 = .ok (.iaload, 1) := by decide +kernel
theorem dX5_takeCells_16 : decode cX5_takeCells 16 = .ok (.bipush 6, 2) := by decide +kernel
theorem dX5_takeCells_18 : decode cX5_takeCells 18 = .ok (.if_icmp .le 5, 3) := by decide +kernel
theorem dX5_takeCells_21 : decode cX5_takeCells 21 = .ok (.iconst 0, 1) := by decide +kernel
theorem dX5_takeCells_22 : decode cX5_takeCells 22 = .ok (.ireturn, 1) := by decide +kernel
theorem dX5_takeCells_23 : decode cX5_takeCells 23 = .ok (.aload_n 1, 1) := by decide +kernel
theorem dX5_takeCells_24 : decode cX5_takeCells 24 = .ok (.aload_n 0, 1) := by decide +kernel
theorem dX5_takeCells_25 : decode cX5_takeCells 25 = .ok (.getfield 15, 3) := by decide +kernel
theorem dX5_takeCells_28 : decode cX5_takeCells 28 = .ok (.iconst 0, 1) := by decide +kernel
theorem dX5_takeCells_29 : decode cX5_takeCells 29 = .ok (.iaload, 1) := by decide +kernel
theorem dX5_takeCells_30 : decode cX5_takeCells 30 = .ok (.invokevirtual 22, 3) := by decide +kernel
theorem dX5_takeCells_33 : decode cX5_takeCells 33 = .ok (.iconst 1, 1) := by decide +kernel
theorem dX5_takeCells_34 : decode cX5_takeCells 34 = .ok (.ireturn, 1) := by decide +kernel
set_option maxRecDepth 20000 in
theorem ggX5_takeJoin_X5_isWeight : GoodIn wsX5_takeJoin wsX5_isWeight := goodIn_r _ [8] (by decide +kernel) (by decide +kernel)
set_option maxRecDepth 20000 in
theorem gX5_takeJoin_X5_isWeight : GoodIn wsX5_takeJoin (wsV RX5 82 RX5 yX5_isWeight wsX5_isWeight) := goodIn_app (goodIn_of _ (by decide +kernel)) ggX5_takeJoin_X5_isWeight
set_option maxRecDepth 20000 in
theorem ggX5_takeJoin_X1_join : GoodIn wsX5_takeJoin wsX1_join := goodIn_r _ [13, 14, 15, 16, 17, 12, 18, 19, 20, 21, 22, 27, 28, 29, 30, 31, 32, 33, 34, 35, 36, 37, 38] (by decide +kernel) (by decide +kernel)
set_option maxRecDepth 20000 in
theorem gX5_takeJoin_X1_join : GoodIn wsX5_takeJoin (wsV RX5 85 RX1 yX1_join wsX1_join) := goodIn_app (goodIn_of _ (by decide +kernel)) ggX5_takeJoin_X1_join
theorem dX5_takeJoin_0 : decode cX5_takeJoin 0 = .ok (.aload_n 0, 1) := by decide +kernel
theorem dX5_takeJoin_1 : decode cX5_takeJoin 1 = .ok (.getfield 15, 3) := by decide +kernel
theorem dX5_takeJoin_4 : decode cX5_takeJoin 4 = .ok (.iconst 0, 1) := by decide +kernel
theorem dX5_takeJoin_5 : decode cX5_takeJoin 5 = .ok (.iaload, 1) := by decide +kernel
theorem dX5_takeJoin_6 : decode cX5_takeJoin 6 = .ok (.istore_n 2, 1) := by decide +kernel
theorem dX5_takeJoin_7 : decode cX5_takeJoin 7 = .ok (.aload_n 0, 1) := by decide +kernel
theorem dX5_takeJoin_8 : decode cX5_takeJoin 8 = .ok (.getfield 15, 3) := by decide +kernel
theorem dX5_takeJoin_11 : decode cX5_takeJoin 11 = .ok (.iconst 1, 1) := by decide +kernel
theorem dX5_takeJoin_12 : decode cX5_takeJoin 12 = .ok (.iaload, 1) := by decide +kernel
theorem dX5_takeJoin_13 : decode cX5_takeJoin 13 = .ok (.istore_n 3, 1) := by decide +kernel
theorem dX5_takeJoin_14 : decode cX5_takeJoin 14 = .ok (.iload_n 2, 1) := by decide +kernel
theorem dX5_takeJoin_15 : decode cX5_takeJoin 15 = .ok (.aload_n 1, 1) := by decide +kernel
theorem dX5_takeJoin_16 : decode cX5_takeJoin 16 = .ok (.getfield 43, 3) := by decide +kernel
theorem dX5_takeJoin_19 : decode cX5_takeJoin 19 = .ok (.if_icmp .ge 53, 3) := by decide +kernel
theorem dX5_takeJoin_22 : decode cX5_takeJoin 22 = .ok (.iload_n 3, 1) := by decide +kernel
theorem dX5_takeJoin_23 : decode cX5_takeJoin 23 = .ok (.aload_n 1, 1) := by decide +kernel
theorem dX5_takeJoin_24 : decode cX5_takeJoin 24 = .ok (.getfield 43, 3) := by decide +kernel
theorem dX5_takeJoin_27 : decode cX5_takeJoin 27 = .ok (.if_icmp .ge 45, 3) := by decide +kernel
theorem dX5_takeJoin_30 : decode cX5_takeJoin 30 = .ok (.iload_n 2, 1) := by decide +kernel
theorem dX5_takeJoin_31 : decode cX5_takeJoin 31 = .ok (.iload_n 3, 1) := by decide +kernel
theorem dX5_takeJoin_32 : decode cX5_takeJoin 32 = .ok (.if_icmp .eq 40, 3) := by decide +kernel
theorem dX5_takeJoin_35 : decode cX5_takeJoin 35 = .ok (.aload_n 1, 1) := by decide +kernel
theorem dX5_takeJoin_36 : decode cX5_takeJoin 36 = .ok (.getfield 78, 3) := by decide +kernel
theorem dX5_takeJoin_39 : decode cX5_takeJoin 39 = .ok (.iload_n 2, 1) := by decide +kernel
theorem dX5_takeJoin_40 : decode cX5_takeJoin 40 = .ok (.aaload, 1) := by decide +kernel
theorem dX5_takeJoin_41 : decode cX5_takeJoin 41 = .ok (.iload_n 3, 1) := by decide +kernel
theorem dX5_takeJoin_42 : decode cX5_takeJoin 42 = .ok (.iaload, 1) := by decide +kernel
theorem dX5_takeJoin_43 : decode cX5_takeJoin 43 = .ok (.ifCond .ne 29, 3) := by decide +kernel
theorem dX5_takeJoin_46 : decode cX5_takeJoin 46 = .ok (.aload_n 0, 1) := by decide +kernel
theorem dX5_takeJoin_47 : decode cX5_takeJoin 47 = .ok (.aload_n 0, 1) := by decide +kernel
theorem dX5_takeJoin_48 : decode cX5_takeJoin 48 = .ok (.getfield 15, 3) := by decide +kernel
theorem dX5_takeJoin_51 : decode cX5_takeJoin 51 = .ok (.iconst 2, 1) := by decide +kernel
theorem dX5_takeJoin_52 : decode cX5_takeJoin 52 = .ok (.iaload, 1) := by decide +kernel
theorem dX5_takeJoin_53 : decode cX5_takeJoin 53 = .ok (.invokevirtual 82, 3) := by decide +kernel
theorem dX5_takeJoin_56 : decode cX5_takeJoin 56 = .ok (.ifCond .eq 16, 3) := by decide +kernel
theorem dX5_takeJoin_59 : decode cX5_takeJoin 59 = .ok (.aload_n 0, 1) := by decide +kernel
theorem dX5_takeJoin_60 : decode cX5_takeJoin 60 = .ok (.aload_n 0, 1) := by decide +kernel
theorem dX5_takeJoin_61 : decode cX5_takeJoin 61 = .ok (.getfield 15, 3) := by decide +kernel
theorem dX5_takeJoin_64 : decode cX5_takeJoin 64 = .ok (.iconst 3, 1) := by decide +kernel
theorem dX5_takeJoin_65 : decode cX5_takeJoin 65 = .ok (.iaload, 1) := by decide +kernel
theorem dX5_takeJoin_66 : decode cX5_takeJoin 66 = .ok (.invokevirtual 82, 3) := by decide +kernel
theorem dX5_takeJoin_69 : decode cX5_takeJoin 69 = .ok (.ifCond .ne 5, 3) := by decide +kernel
theorem dX5_takeJoin_72 : decode cX5_takeJoin 72 = .ok (.iconst 0, 1) := by decide +kernel
theorem dX5_takeJoin_73 : decode cX5_takeJoin 73 = .ok (.ireturn, 1) := by decide +kernel
theorem dX5_takeJoin_74 : decode cX5_takeJoin 74 = .ok (.aload_n 1, 1) := by decide +kernel
theorem dX5_takeJoin_75 : decode cX5_takeJoin 75 = .ok (.iload_n 2, 1) := by decide +kernel
theorem dX5_takeJoin_76 : decode cX5_takeJoin 76 = .ok (.iload_n 3, 1) := by decide +kernel
theorem dX5_takeJoin_77 : decode cX5_takeJoin 77 = .ok (.aload_n 0, 1) := by decide +kernel
theorem dX5_takeJoin_78 : decode cX5_takeJoin 78 = .ok (.getfield 15, 3) := by decide +kernel
theorem dX5_takeJoin_81 : decode cX5_takeJoin 81 = .ok (.iconst 2, 1) := by decide +kernel
theorem dX5_takeJoin_82 : decode cX5_takeJoin 82 = .ok (.iaload, 1) := by decide +kernel
theorem dX5_takeJoin_83 : decode cX5_takeJoin 83 = .ok (.aload_n 0, 1) := by decide +kernel
theorem dX5_takeJoin_84 : decode cX5_takeJoin 84 = .ok (.getfield 15, 3) := by decide +kernel
theorem dX5_takeJoin_87 : decode cX5_takeJoin 87 = .ok (.iconst 3, 1) := by decide +kernel
theorem dX5_takeJoin_88 : decode cX5_takeJoin 88 = .ok (.iaload, 1) := by decide +kernel
theorem dX5_takeJoin_89 : decode cX5_takeJoin 89 = .ok (.invokevirtual 85, 3) := by decide +kernel
theorem dX5_takeJoin_92 : decode cX5_takeJoin 92 = .ok (.iconst 1, 1) := by decide +kernel
theorem dX5_takeJoin_93 : decode cX5_takeJoin 93 = .ok (.ireturn, 1) := by decide +kernel
theorem dX5_isWeight_0 : decode cX5_isWeight 0 = .ok (.iload_n 1, 1) := by decide +kernel
theorem dX5_isWeight_1 : decode cX5_isWeight 1 = .ok (.iconst 1, 1) := by decide +kernel
theorem dX5_isWeight_2 : decode cX5_isWeight 2 = .ok (.if_icmp .lt 12, 3) := by decide +kernel
theorem dX5_isWeight_5 : decode cX5_isWeight 5 = .ok (.iload_n 1, 1) := by decide +kernel
theorem dX5_isWeight_6 : decode cX5_isWeight 6 = .ok (.iconst 4, 1) := by decide +kernel
theorem dX5_isWeight_7 : decode cX5_isWeight 7 = .ok (.if_icmp .gt 7, 3) := by decide +kernel
theorem dX5_isWeight_10 : decode cX5_isWeight 10 = .ok (.iconst 1, 1) := by decide +kernel
theorem dX5_isWeight_11 : decode cX5_isWeight 11 = .ok (.goto 4, 3) := by decide +kernel
theorem dX5_isWeight_14 : decode cX5_isWeight 14 = .ok (.iconst 0, 1) := by decide +kernel
theorem dX5_isWeight_15 : decode cX5_isWeight 15 = .ok (.ireturn, 1) := by decide +kernel
theorem dX5_takeCellNumber_0 : decode cX5_takeCellNumber 0 = .ok (.aload_n 0, 1) := by decide +kernel
theorem dX5_takeCellNumber_1 : decode cX5_takeCellNumber 1 = .ok (.getfield 15, 3) := by decide +kernel
theorem dX5_takeCellNumber_4 : decode cX5_takeCellNumber 4 = .ok (.iconst 0, 1) := by decide +kernel
theorem dX5_takeCellNumber_5 : decode cX5_takeCellNumber 5 = .ok (.iaload, 1) := by decide +kernel
theorem dX5_takeCellNumber_6 : decode cX5_takeCellNumber 6 = .ok (.aload_n 1, 1) := by decide +kernel
theorem dX5_takeCellNumber_7 : decode cX5_takeCellNumber 7 = .ok (.getfield 43, 3) := by decide +kernel
theorem dX5_takeCellNumber_10 : decode cX5_takeCellNumber 10 = .ok (.if_icmp .ge 13, 3) := by decide +kernel
theorem dX5_takeCellNumber_13 : decode cX5_takeCellNumber 13 = .ok (.aload_n 0, 1) := by decide +kernel
theorem dX5_takeCellNumber_14 : decode cX5_takeCellNumber 14 = .ok (.getfield 15, 3) := by decide +kernel
theorem dX5_takeCellNumber_17 : decode cX5_takeCellNumber 17 = .ok (.iconst 1, 1) := by decide +kernel
theorem dX5_takeCellNumber_18 : decode cX5_takeCellNumber 18 = .ok (.iaload, 1) := by decide +kernel
theorem dX5_takeCellNumber_19 : decode cX5_takeCellNumber 19 = .ok (.iload_n 3, 1) := by decide +kernel
theorem dX5_takeCellNumber_20 : decode cX5_takeCellNumber 20 = .ok (.if_icmp .le 5, 3) := by decide +kernel
theorem dX5_takeCellNumber_23 : decode cX5_takeCellNumber 23 = .ok (.iconst 0, 1) := by decide +kernel
theorem dX5_takeCellNumber_24 : decode cX5_takeCellNumber 24 = .ok (.ireturn, 1) := by decide +kernel
theorem dX5_takeCellNumber_25 : decode cX5_takeCellNumber 25 = .ok (.aload_n 2, 1) := by decide +kernel
theorem dX5_takeCellNumber_26 : decode cX5_takeCellNumber 26 = .ok (.aload_n 0, 1) := by decide +kernel
theorem dX5_takeCellNumber_27 : decode cX5_takeCellNumber 27 = .ok (.getfield 15, 3) := by decide +kernel
theorem dX5_takeCellNumber_30 : decode cX5_takeCellNumber 30 = .ok (.iconst 0, 1) := by decide +kernel
theorem dX5_takeCellNumber_31 : decode cX5_takeCellNumber 31 = .ok (.iaload, 1) := by decide +kernel
theorem dX5_takeCellNumber_32 : decode cX5_takeCellNumber 32 = .ok (.aload_n 0, 1) := by decide +kernel
theorem dX5_takeCellNumber_33 : decode cX5_takeCellNumber 33 = .ok (.getfield 15, 3) := by decide +kernel
theorem dX5_takeCellNumber_36 : decode cX5_takeCellNumber 36 = .ok (.iconst 1, 1) := by decide +kernel
theorem dX5_takeCellNumber_37 : decode cX5_takeCellNumber 37 = .ok (.iaload, 1) := by decide +kernel
theorem dX5_takeCellNumber_38 : decode cX5_takeCellNumber 38 = .ok (.iastore, 1) := by decide +kernel
theorem dX5_takeCellNumber_39 : decode cX5_takeCellNumber 39 = .ok (.iconst 1, 1) := by decide +kernel
theorem dX5_takeCellNumber_40 : decode cX5_takeCellNumber 40 = .ok (.ireturn, 1) := by decide +kernel
set_option maxRecDepth 20000 in
theorem ggX5_takeLaw_X7_isLaw : GoodIn wsX5_takeLaw wsX7_isLaw := goodIn_r _ [6] (by decide +kernel) (by decide +kernel)
set_option maxRecDepth 20000 in
theorem gX5_takeLaw_X7_isLaw_n89 : GoodIn wsX5_takeLaw (wsX7_isLaw) := ggX5_takeLaw_X7_isLaw
theorem dX5_takeLaw_0 : decode cX5_takeLaw 0 = .ok (.aload_n 0, 1) := by decide +kernel
theorem dX5_takeLaw_1 : decode cX5_takeLaw 1 = .ok (.getfield 15, 3) := by decide +kernel
theorem dX5_takeLaw_4 : decode cX5_takeLaw 4 = .ok (.iconst 0, 1) := by decide +kernel
theorem dX5_takeLaw_5 : decode cX5_takeLaw 5 = .ok (.iaload, 1) := by decide +kernel
theorem dX5_takeLaw_6 : decode cX5_takeLaw 6 = .ok (.aload_n 0, 1) := by decide +kernel
theorem dX5_takeLaw_7 : decode cX5_takeLaw 7 = .ok (.getfield 15, 3) := by decide +kernel
theorem dX5_takeLaw_10 : decode cX5_takeLaw 10 = .ok (.iconst 1, 1) := by decide +kernel
theorem dX5_takeLaw_11 : decode cX5_takeLaw 11 = .ok (.iaload, 1) := by decide +kernel
theorem dX5_takeLaw_12 : decode cX5_takeLaw 12 = .ok (.invokestatic 89, 3) := by decide +kernel
theorem dX5_takeLaw_15 : decode cX5_takeLaw 15 = .ok (.ifCond .ne 5, 3) := by decide +kernel
theorem dX5_takeLaw_18 : decode cX5_takeLaw 18 = .ok (.iconst 0, 1) := by decide +kernel
theorem dX5_takeLaw_19 : decode cX5_takeLaw 19 = .ok (.ireturn, 1) := by decide +kernel
theorem dX5_takeLaw_20 : decode cX5_takeLaw 20 = .ok (.aload_n 1, 1) := by decide +kernel
theorem dX5_takeLaw_21 : decode cX5_takeLaw 21 = .ok (.aload_n 0, 1) := by decide +kernel
theorem dX5_takeLaw_22 : decode cX5_takeLaw 22 = .ok (.getfield 15, 3) := by decide +kernel
theorem dX5_takeLaw_25 : decode cX5_takeLaw 25 = .ok (.iconst 0, 1) := by decide +kernel
theorem dX5_takeLaw_26 : decode cX5_takeLaw 26 = .ok (.iaload, 1) := by decide +kernel
theorem dX5_takeLaw_27 : decode cX5_takeLaw 27 = .ok (.putfield 93, 3) := by decide +kernel
theorem dX5_takeLaw_30 : decode cX5_takeLaw 30 = .ok (.aload_n 1, 1) := by decide +kernel
theorem dX5_takeLaw_31 : decode cX5_takeLaw 31 = .ok (.aload_n 0, 1) := by decide +kernel
theorem dX5_takeLaw_32 : decode cX5_takeLaw 32 = .ok (.getfield 15, 3) := by decide +kernel
theorem dX5_takeLaw_35 : decode cX5_takeLaw 35 = .ok (.iconst 1, 1) := by decide +kernel
theorem dX5_takeLaw_36 : decode cX5_takeLaw 36 = .ok (.iaload, 1) := by decide +kernel
theorem dX5_takeLaw_37 : decode cX5_takeLaw 37 = .ok (.putfield 96, 3) := by decide +kernel
theorem dX5_takeLaw_40 : decode cX5_takeLaw 40 = .ok (.iconst 1, 1) := by decide +kernel
theorem dX5_takeLaw_41 : decode cX5_takeLaw 41 = .ok (.ireturn, 1) := by decide +kernel
set_option maxRecDepth 20000 in
theorem ggX5_takePrices_X1_price : GoodIn wsX5_takePrices wsX1_price := goodIn_r _ [6, 7, 8, 9, 10, 15, 16, 17, 18, 19, 20, 21, 22, 23, 24, 25, 26] (by decide +kernel) (by decide +kernel)
set_option maxRecDepth 20000 in
theorem gX5_takePrices_X1_price : GoodIn wsX5_takePrices (wsV RX5 99 RX1 yX1_price wsX1_price) := goodIn_app (goodIn_of _ (by decide +kernel)) ggX5_takePrices_X1_price
theorem dX5_takePrices_0 : decode cX5_takePrices 0 = .ok (.aload_n 0, 1) := by decide +kernel
theorem dX5_takePrices_1 : decode cX5_takePrices 1 = .ok (.getfield 15, 3) := by decide +kernel
theorem dX5_takePrices_4 : decode cX5_takePrices 4 = .ok (.iconst 0, 1) := by decide +kernel
theorem dX5_takePrices_5 : decode cX5_takePrices 5 = .ok (.iaload, 1) := by decide +kernel
theorem dX5_takePrices_6 : decode cX5_takePrices 6 = .ok (.iconst 1, 1) := by decide +kernel
theorem dX5_takePrices_7 : decode cX5_takePrices 7 = .ok (.if_icmp .lt 13, 3) := by decide +kernel
theorem dX5_takePrices_10 : decode cX5_takePrices 10 = .ok (.aload_n 0, 1) := by decide +kernel
theorem dX5_takePrices_11 : decode cX5_takePrices 11 = .ok (.getfield 15, 3) := by decide +kernel
theorem dX5_takePrices_14 : decode cX5_takePrices 14 = .ok (.iconst 0, 1) := by decide +kernel
theorem dX5_takePrices_15 : decode cX5_takePrices 15 = .ok (.iaload, 1) := by decide +kernel
theorem dX5_takePrices_16 : decode cX5_takePrices 16 = .ok (.iconst 4, 1) := by decide +kernel
theorem dX5_takePrices_17 : decode cX5_takePrices 17 = .ok (.if_icmp .le 5, 3) := by decide +kernel
theorem dX5_takePrices_20 : decode cX5_takePrices 20 = .ok (.iconst 0, 1) := by decide +kernel
theorem dX5_takePrices_21 : decode cX5_takePrices 21 = .ok (.ireturn, 1) := by decide +kernel
theorem dX5_takePrices_22 : decode cX5_takePrices 22 = .ok (.aload_n 1, 1) := by decide +kernel
theorem dX5_takePrices_23 : decode cX5_takePrices 23 = .ok (.aload_n 0, 1) := by decide +kernel
theorem dX5_takePrices_24 : decode cX5_takePrices 24 = .ok (.getfield 15, 3) := by decide +kernel
theorem dX5_takePrices_27 : decode cX5_takePrices 27 = .ok (.iconst 0, 1) := by decide +kernel
theorem dX5_takePrices_28 : decode cX5_takePrices 28 = .ok (.iaload, 1) := by decide +kernel
theorem dX5_takePrices_29 : decode cX5_takePrices 29 = .ok (.aload_n 0, 1) := by decide +kernel
theorem dX5_takePrices_30 : decode cX5_takePrices 30 = .ok (.getfield 15, 3) := by decide +kernel
theorem dX5_takePrices_33 : decode cX5_takePrices 33 = .ok (.iconst 1, 1) := by decide +kernel
theorem dX5_takePrices_34 : decode cX5_takePrices 34 = .ok (.iaload, 1) := by decide +kernel
theorem dX5_takePrices_35 : decode cX5_takePrices 35 = .ok (.aload_n 0, 1) := by decide +kernel
theorem dX5_takePrices_36 : decode cX5_takePrices 36 = .ok (.getfield 15, 3) := by decide +kernel
theorem dX5_takePrices_39 : decode cX5_takePrices 39 = .ok (.iconst 2, 1) := by decide +kernel
theorem dX5_takePrices_40 : decode cX5_takePrices 40 = .ok (.iaload, 1) := by decide +kernel
theorem dX5_takePrices_41 : decode cX5_takePrices 41 = .ok (.aload_n 0, 1) := by decide +kernel
theorem dX5_takePrices_42 : decode cX5_takePrices 42 = .ok (.getfield 15, 3) := by decide +kernel
theorem dX5_takePrices_45 : decode cX5_takePrices 45 = .ok (.iconst 3, 1) := by decide +kernel
theorem dX5_takePrices_46 : decode cX5_takePrices 46 = .ok (.iaload, 1) := by decide +kernel
theorem dX5_takePrices_47 : decode cX5_takePrices 47 = .ok (.invokevirtual 99, 3) := by decide +kernel
theorem dX5_takePrices_50 : decode cX5_takePrices 50 = .ok (.iconst 1, 1) := by decide +kernel
theorem dX5_takePrices_51 : decode cX5_takePrices 51 = .ok (.ireturn, 1) := by decide +kernel
set_option maxRecDepth 20000 in
theorem ggX5_readNumbers_X5_readNumber : GoodIn wsX5_readNumbers wsX5_readNumber := goodIn_r _ [7, 2, 8, 9, 10, 6, 11, 12, 13, 18, 19, 20, 21] (by decide +kernel) (by decide +kernel)
set_option maxRecDepth 20000 in
theorem gX5_readNumbers_X5_readNumber : GoodIn wsX5_readNumbers (wsV RX5 102 RX5 yX5_readNumber wsX5_readNumber) := goodIn_app (goodIn_of _ (by decide +kernel)) ggX5_readNumbers_X5_readNumber
set_option maxRecDepth 20000 in
theorem ggX5_readNumbers_X5_letterHere : GoodIn wsX5_readNumbers wsX5_letterHere := goodIn_r _ [17, 2, 12, 13, 18, 19, 20, 21] (by decide +kernel) (by decide +kernel)
set_option maxRecDepth 20000 in
theorem gX5_readNumbers_X5_letterHere : GoodIn wsX5_readNumbers (wsV RX5 39 RX5 yX5_letterHere wsX5_letterHere) := goodIn_app (goodIn_of _ (by decide +kernel)) ggX5_readNumbers_X5_letterHere
theorem dX5_readNumbers_0 : decode cX5_readNumbers 0 = .ok (.iconst 0, 1) := by decide +kernel
theorem dX5_readNumbers_1 : decode cX5_readNumbers 1 = .ok (.istore_n 2, 1) := by decide +kernel
theorem dX5_readNumbers_2 : decode cX5_readNumbers 2 = .ok (.iload_n 2, 1) := by decide +kernel
theorem dX5_readNumbers_3 : decode cX5_readNumbers 3 = .ok (.iload_n 1, 1) := by decide +kernel
theorem dX5_readNumbers_4 : decode cX5_readNumbers 4 = .ok (.if_icmp .ge 66, 3) := by decide +kernel
theorem dX5_readNumbers_7 : decode cX5_readNumbers 7 = .ok (.iload_n 2, 1) := by decide +kernel
theorem dX5_readNumbers_8 : decode cX5_readNumbers 8 = .ok (.iconst 4, 1) := by decide +kernel
theorem dX5_readNumbers_9 : decode cX5_readNumbers 9 = .ok (.if_icmp .ge 61, 3) := by decide +kernel
theorem dX5_readNumbers_12 : decode cX5_readNumbers 12 = .ok (.aload_n 0, 1) := by decide +kernel
theorem dX5_readNumbers_13 : decode cX5_readNumbers 13 = .ok (.getfield 15, 3) := by decide +kernel
theorem dX5_readNumbers_16 : decode cX5_readNumbers 16 = .ok (.iload_n 2, 1) := by decide +kernel
theorem dX5_readNumbers_17 : decode cX5_readNumbers 17 = .ok (.aload_n 0, 1) := by decide +kernel
theorem dX5_readNumbers_18 : decode cX5_readNumbers 18 = .ok (.invokevirtual 102, 3) := by decide +kernel
theorem dX5_readNumbers_21 : decode cX5_readNumbers 21 = .ok (.iastore, 1) := by decide +kernel
theorem dX5_readNumbers_22 : decode cX5_readNumbers 22 = .ok (.aload_n 0, 1) := by decide +kernel
theorem dX5_readNumbers_23 : decode cX5_readNumbers 23 = .ok (.getfield 15, 3) := by decide +kernel
theorem dX5_readNumbers_26 : decode cX5_readNumbers 26 = .ok (.iload_n 2, 1) := by decide +kernel
theorem dX5_readNumbers_27 : decode cX5_readNumbers 27 = .ok (.iaload, 1) := by decide +kernel
theorem dX5_readNumbers_28 : decode cX5_readNumbers 28 = .ok (.ifCond .lt 24, 3) := by decide +kernel
theorem dX5_readNumbers_31 : decode cX5_readNumbers 31 = .ok (.aload_n 0, 1) := by decide +kernel
theorem dX5_readNumbers_32 : decode cX5_readNumbers 32 = .ok (.invokevirtual 39, 3) := by decide +kernel
theorem dX5_readNumbers_35 : decode cX5_readNumbers 35 = .ok (.iload_n 2, 1) := by decide +kernel
theorem dX5_readNumbers_36 : decode cX5_readNumbers 36 = .ok (.iconst 1, 1) := by decide +kernel
theorem dX5_readNumbers_37 : decode cX5_readNumbers 37 = .ok (.iadd, 1) := by decide +kernel
theorem dX5_readNumbers_38 : decode cX5_readNumbers 38 = .ok (.iload_n 1, 1) := by decide +kernel
theorem dX5_readNumbers_39 : decode cX5_readNumbers 39 = .ok (.if_icmp .ge 8, 3) := by decide +kernel
theorem dX5_readNumbers_42 : decode cX5_readNumbers 42 = .ok (.bipush 44, 2) := by decide +kernel
theorem dX5_readNumbers_44 : decode cX5_readNumbers 44 = .ok (.goto 5, 3) := by decide +kernel
theorem dX5_readNumbers_47 : decode cX5_readNumbers 47 = .ok (.bipush 59, 2) := by decide +kernel
theorem dX5_readNumbers_49 : decode cX5_readNumbers 49 = .ok (.if_icmp .eq 5, 3) := by decide +kernel
theorem dX5_readNumbers_52 : decode cX5_readNumbers 52 = .ok (.iconst 0, 1) := by decide +kernel
theorem dX5_readNumbers_53 : decode cX5_readNumbers 53 = .ok (.ireturn, 1) := by decide +kernel
theorem dX5_readNumbers_54 : decode cX5_readNumbers 54 = .ok (.aload_n 0, 1) := by decide +kernel
theorem dX5_readNumbers_55 : decode cX5_readNumbers 55 = .ok (.dup, 1) := by decide +kernel
theorem dX5_readNumbers_56 : decode cX5_readNumbers 56 = .ok (.getfield 32, 3) := by decide +kernel
theorem dX5_readNumbers_59 : decode cX5_readNumbers 59 = .ok (.iconst 1, 1) := by decide +kernel
theorem dX5_readNumbers_60 : decode cX5_readNumbers 60 = .ok (.iadd, 1) := by decide +kernel
theorem dX5_readNumbers_61 : decode cX5_readNumbers 61 = .ok (.putfield 32, 3) := by decide +kernel
theorem dX5_readNumbers_64 : decode cX5_readNumbers 64 = .ok (.iinc 2 1, 3) := by decide +kernel
theorem dX5_readNumbers_67 : decode cX5_readNumbers 67 = .ok (.goto (-65), 3) := by decide +kernel
theorem dX5_readNumbers_70 : decode cX5_readNumbers 70 = .ok (.iload_n 1, 1) := by decide +kernel
theorem dX5_readNumbers_71 : decode cX5_readNumbers 71 = .ok (.ifCond .le 7, 3) := by decide +kernel
theorem dX5_readNumbers_74 : decode cX5_readNumbers 74 = .ok (.iconst 1, 1) := by decide +kernel
theorem dX5_readNumbers_75 : decode cX5_readNumbers 75 = .ok (.goto 4, 3) := by decide +kernel
theorem dX5_readNumbers_78 : decode cX5_readNumbers 78 = .ok (.iconst 0, 1) := by decide +kernel
theorem dX5_readNumbers_79 : decode cX5_readNumbers 79 = .ok (.ireturn, 1) := by decide +kernel
set_option maxRecDepth 20000 in
theorem ggX5_readNumber_X5_figureHere : GoodIn wsX5_readNumber wsX5_figureHere := goodIn_r _ [6, 1, 7, 8, 9, 10, 11, 12] (by decide +kernel) (by decide +kernel)
set_option maxRecDepth 20000 in
theorem gX5_readNumber_X5_figureHere : GoodIn wsX5_readNumber (wsV RX5 105 RX5 yX5_figureHere wsX5_figureHere) := goodIn_app (goodIn_of _ (by decide +kernel)) ggX5_readNumber_X5_figureHere
theorem dX5_readNumber_0 : decode cX5_readNumber 0 = .ok (.aload_n 0, 1) := by decide +kernel
theorem dX5_readNumber_1 : decode cX5_readNumber 1 = .ok (.invokevirtual 105, 3) := by decide +kernel
theorem dX5_readNumber_4 : decode cX5_readNumber 4 = .ok (.istore_n 1, 1) := by decide +kernel
theorem dX5_readNumber_5 : decode cX5_readNumber 5 = .ok (.iload_n 1, 1) := by decide +kernel
theorem dX5_readNumber_6 : decode cX5_readNumber 6 = .ok (.ifCond .ge 5, 3) := by decide +kernel
theorem dX5_readNumber_9 : decode cX5_readNumber 9 = .ok (.iconst (-1), 1) := by decide +kernel
theorem dX5_readNumber_10 : decode cX5_readNumber 10 = .ok (.ireturn, 1) := by decide +kernel
theorem dX5_readNumber_11 : decode cX5_readNumber 11 = .ok (.aload_n 0, 1) := by decide +kernel
theorem dX5_readNumber_12 : decode cX5_readNumber 12 = .ok (.dup, 1) := by decide +kernel
theorem dX5_readNumber_13 : decode cX5_readNumber 13 = .ok (.getfield 32, 3) := by decide +kernel
theorem dX5_readNumber_16 : decode cX5_readNumber 16 = .ok (.iconst 1, 1) := by decide +kernel
theorem dX5_readNumber_17 : decode cX5_readNumber 17 = .ok (.iadd, 1) := by decide +kernel
theorem dX5_readNumber_18 : decode cX5_readNumber 18 = .ok (.putfield 32, 3) := by decide +kernel
theorem dX5_readNumber_21 : decode cX5_readNumber 21 = .ok (.aload_n 0, 1) := by decide +kernel
theorem dX5_readNumber_22 : decode cX5_readNumber 22 = .ok (.invokevirtual 105, 3) := by decide +kernel
theorem dX5_readNumber_25 : decode cX5_readNumber 25 = .ok (.istore_n 2, 1) := by decide +kernel
theorem dX5_readNumber_26 : decode cX5_readNumber 26 = .ok (.iload_n 2, 1) := by decide +kernel
theorem dX5_readNumber_27 : decode cX5_readNumber 27 = .ok (.ifCond .ge 5, 3) := by decide +kernel
theorem dX5_readNumber_30 : decode cX5_readNumber 30 = .ok (.iload_n 1, 1) := by decide +kernel
theorem dX5_readNumber_31 : decode cX5_readNumber 31 = .ok (.ireturn, 1) := by decide +kernel
theorem dX5_readNumber_32 : decode cX5_readNumber 32 = .ok (.aload_n 0, 1) := by decide +kernel
theorem dX5_readNumber_33 : decode cX5_readNumber 33 = .ok (.dup, 1) := by decide +kernel
theorem dX5_readNumber_34 : decode cX5_readNumber 34 = .ok (.getfield 32, 3) := by decide +kernel
theorem dX5_readNumber_37 : decode cX5_readNumber 37 = .ok (.iconst 1, 1) := by decide +kernel
theorem dX5_readNumber_38 : decode cX5_readNumber 38 = .ok (.iadd, 1) := by decide +kernel
theorem dX5_readNumber_39 : decode cX5_readNumber 39 = .ok (.putfield 32, 3) := by decide +kernel
theorem dX5_readNumber_42 : decode cX5_readNumber 42 = .ok (.bipush 10, 2) := by decide +kernel
theorem dX5_readNumber_44 : decode cX5_readNumber 44 = .ok (.iload_n 1, 1) := by decide +kernel
theorem dX5_readNumber_45 : decode cX5_readNumber 45 = .ok (.imul, 1) := by decide +kernel
theorem dX5_readNumber_46 : decode cX5_readNumber 46 = .ok (.iload_n 2, 1) := by decide +kernel
theorem dX5_readNumber_47 : decode cX5_readNumber 47 = .ok (.iadd, 1) := by decide +kernel
theorem dX5_readNumber_48 : decode cX5_readNumber 48 = .ok (.ireturn, 1) := by decide +kernel
theorem dX5_figureHere_0 : decode cX5_figureHere 0 = .ok (.aload_n 0, 1) := by decide +kernel
theorem dX5_figureHere_1 : decode cX5_figureHere 1 = .ok (.getfield 32, 3) := by decide +kernel
theorem dX5_figureHere_4 : decode cX5_figureHere 4 = .ok (.aload_n 0, 1) := by decide +kernel
theorem dX5_figureHere_5 : decode cX5_figureHere 5 = .ok (.getfield 18, 3) := by decide +kernel
theorem dX5_figureHere_8 : decode cX5_figureHere 8 = .ok (.if_icmp .ge 35, 3) := by decide +kernel
theorem dX5_figureHere_11 : decode cX5_figureHere 11 = .ok (.aload_n 0, 1) := by decide +kernel
theorem dX5_figureHere_12 : decode cX5_figureHere 12 = .ok (.getfield 9, 3) := by decide +kernel
theorem dX5_figureHere_15 : decode cX5_figureHere 15 = .ok (.aload_n 0, 1) := by decide +kernel
theorem dX5_figureHere_16 : decode cX5_figureHere 16 = .ok (.getfield 32, 3) := by decide +kernel
theorem dX5_figureHere_19 : decode cX5_figureHere 19 = .ok (.iaload, 1) := by decide +kernel
theorem dX5_figureHere_20 : decode cX5_figureHere 20 = .ok (.bipush 48, 2) := by decide +kernel
theorem dX5_figureHere_22 : decode cX5_figureHere 22 = .ok (.if_icmp .lt 21, 3) := by decide +kernel
theorem dX5_figureHere_25 : decode cX5_figureHere 25 = .ok (.aload_n 0, 1) := by decide +kernel
theorem dX5_figureHere_26 : decode cX5_figureHere 26 = .ok (.getfield 9, 3) := by decide +kernel
theorem dX5_figureHere_29 : decode cX5_figureHere 29 = .ok (.aload_n 0, 1) := by decide +kernel
theorem dX5_figureHere_30 : decode cX5_figureHere 30 = .ok (.getfield 32, 3) := by decide +kernel
theorem dX5_figureHere_33 : decode cX5_figureHere 33 = .ok (.iaload, 1) := by decide +kernel
theorem dX5_figureHere_34 : decode cX5_figureHere 34 = .ok (.bipush 57, 2) := by decide +kernel
theorem dX5_figureHere_36 : decode cX5_figureHere 36 = .ok (.if_icmp .gt 7, 3) := by decide +kernel
theorem dX5_figureHere_39 : decode cX5_figureHere 39 = .ok (.iconst 1, 1) := by decide +kernel
theorem dX5_figureHere_40 : decode cX5_figureHere 40 = .ok (.goto 4, 3) := by decide +kernel
theorem dX5_figureHere_43 : decode cX5_figureHere 43 = .ok (.iconst 0, 1) := by decide +kernel
theorem dX5_figureHere_44 : decode cX5_figureHere 44 = .ok (.istore_n 1, 1) := by decide +kernel
theorem dX5_figureHere_45 : decode cX5_figureHere 45 = .ok (.iload_n 1, 1) := by decide +kernel
theorem dX5_figureHere_46 : decode cX5_figureHere 46 = .ok (.ifCond .eq 18, 3) := by decide +kernel
theorem dX5_figureHere_49 : decode cX5_figureHere 49 = .ok (.aload_n 0, 1) := by decide +kernel
theorem dX5_figureHere_50 : decode cX5_figureHere 50 = .ok (.getfield 9, 3) := by decide +kernel
theorem dX5_figureHere_53 : decode cX5_figureHere 53 = .ok (.aload_n 0, 1) := by decide +kernel
theorem dX5_figureHere_54 : decode cX5_figureHere 54 = .ok (.getfield 32, 3) := by decide +kernel
theorem dX5_figureHere_57 : decode cX5_figureHere 57 = .ok (.iaload, 1) := by decide +kernel
theorem dX5_figureHere_58 : decode cX5_figureHere 58 = .ok (.bipush 48, 2) := by decide +kernel
theorem dX5_figureHere_60 : decode cX5_figureHere 60 = .ok (.isub, 1) := by decide +kernel
theorem dX5_figureHere_61 : decode cX5_figureHere 61 = .ok (.goto 4, 3) := by decide +kernel
theorem dX5_figureHere_64 : decode cX5_figureHere 64 = .ok (.iconst (-1), 1) := by decide +kernel
theorem dX5_figureHere_65 : decode cX5_figureHere 65 = .ok (.ireturn, 1) := by decide +kernel
theorem dX5_letterHere_0 : decode cX5_letterHere 0 = .ok (.aload_n 0, 1) := by decide +kernel
theorem dX5_letterHere_1 : decode cX5_letterHere 1 = .ok (.getfield 32, 3) := by decide +kernel
theorem dX5_letterHere_4 : decode cX5_letterHere 4 = .ok (.aload_n 0, 1) := by decide +kernel
theorem dX5_letterHere_5 : decode cX5_letterHere 5 = .ok (.getfield 18, 3) := by decide +kernel
theorem dX5_letterHere_8 : decode cX5_letterHere 8 = .ok (.if_icmp .ge 15, 3) := by decide +kernel
theorem dX5_letterHere_11 : decode cX5_letterHere 11 = .ok (.aload_n 0, 1) := by decide +kernel
theorem dX5_letterHere_12 : decode cX5_letterHere 12 = .ok (.getfield 9, 3) := by decide +kernel
theorem dX5_letterHere_15 : decode cX5_letterHere 15 = .ok (.aload_n 0, 1) := by decide +kernel
theorem dX5_letterHere_16 : decode cX5_letterHere 16 = .ok (.getfield 32, 3) := by decide +kernel
theorem dX5_letterHere_19 : decode cX5_letterHere 19 = .ok (.iaload, 1) := by decide +kernel
theorem dX5_letterHere_20 : decode cX5_letterHere 20 = .ok (.goto 4, 3) := by decide +kernel
theorem dX5_letterHere_23 : decode cX5_letterHere 23 = .ok (.iconst (-1), 1) := by decide +kernel
theorem dX5_letterHere_24 : decode cX5_letterHere 24 = .ok (.ireturn, 1) := by decide +kernel
theorem dX6_init_0 : decode cX6_init 0 = .ok (.aload_n 0, 1) := by decide +kernel
theorem dX6_init_1 : decode cX6_init 1 = .ok (.invokespecial 3, 3) := by decide +kernel
theorem dX6_init_4 : decode cX6_init 4 = .ok (.aload_n 0, 1) := by decide +kernel
theorem dX6_init_5 : decode cX6_init 5 = .ok (.bipush 9, 2) := by decide +kernel
theorem dX6_init_7 : decode cX6_init 7 = .ok (.newarray .int, 2) := by decide +kernel
theorem dX6_init_9 : decode cX6_init 9 = .ok (.putfield 9, 3) := by decide +kernel
theorem dX6_init_12 : decode cX6_init 12 = .ok (.return_, 1) := by decide +kernel
set_option maxRecDepth 20000 in
theorem ggX6_find_X6_insideOf : GoodIn wsX6_find wsX6_insideOf := goodIn_r _ [14, 15, 16, 17, 18, 19, 20, 21, 22, 23, 24, 25, 54, 55, 56, 57, 58, 59, 60, 61, 62, 63, 64, 65, 43, 44, 45, 46, 47, 48, 49, 50, 51, 52] (by decide +kernel) (by decide +kernel)
set_option maxRecDepth 20000 in
theorem gX6_find_X6_insideOf : GoodIn wsX6_find (wsV RX6 30 RX6 yX6_insideOf wsX6_insideOf) := goodIn_app (goodIn_of _ (by decide +kernel)) ggX6_find_X6_insideOf
set_option maxRecDepth 20000 in
theorem ggX6_find_X6_step : GoodIn wsX6_find wsX6_step := goodIn_r _ [29, 1, 7, 30, 31, 32, 13, 33, 15, 34, 35, 36, 37, 38, 39, 40, 41, 42, 43, 44, 45, 46, 47, 48, 49, 50, 51, 52, 53, 54, 55, 56, 57, 58, 59, 60, 61, 62, 63, 64, 65] (by decide +kernel) (by decide +kernel)
set_option maxRecDepth 20000 in
theorem gX6_find_X6_step : GoodIn wsX6_find (wsV RX6 40 RX6 yX6_step wsX6_step) := goodIn_app (goodIn_of _ (by decide +kernel)) ggX6_find_X6_step
theorem dX6_find_0 : decode cX6_find 0 = .ok (.aload_n 2, 1) := by decide +kernel
theorem dX6_find_1 : decode cX6_find 1 = .ok (.getfield 15, 3) := by decide +kernel
theorem dX6_find_4 : decode cX6_find 4 = .ok (.iconst 1, 1) := by decide +kernel
theorem dX6_find_5 : decode cX6_find 5 = .ok (.if_icmp .ne 15, 3) := by decide +kernel
theorem dX6_find_8 : decode cX6_find 8 = .ok (.aload_n 2, 1) := by decide +kernel
theorem dX6_find_9 : decode cX6_find 9 = .ok (.getfield 21, 3) := by decide +kernel
theorem dX6_find_12 : decode cX6_find 12 = .ok (.bipush 9, 2) := by decide +kernel
theorem dX6_find_14 : decode cX6_find 14 = .ok (.invokestatic 24, 3) := by decide +kernel
theorem dX6_find_17 : decode cX6_find 17 = .ok (.goto 4, 3) := by decide +kernel
theorem dX6_find_20 : decode cX6_find 20 = .ok (.iconst 1, 1) := by decide +kernel
theorem dX6_find_21 : decode cX6_find 21 = .ok (.istore_n 3, 1) := by decide +kernel
theorem dX6_find_22 : decode cX6_find 22 = .ok (.aload_n 0, 1) := by decide +kernel
theorem dX6_find_23 : decode cX6_find 23 = .ok (.aload_n 1, 1) := by decide +kernel
theorem dX6_find_24 : decode cX6_find 24 = .ok (.aload_n 2, 1) := by decide +kernel
theorem dX6_find_25 : decode cX6_find 25 = .ok (.invokevirtual 30, 3) := by decide +kernel
theorem dX6_find_28 : decode cX6_find 28 = .ok (.istore 4, 2) := by decide +kernel
theorem dX6_find_30 : decode cX6_find 30 = .ok (.iconst 1, 1) := by decide +kernel
theorem dX6_find_31 : decode cX6_find 31 = .ok (.istore 5, 2) := by decide +kernel
theorem dX6_find_33 : decode cX6_find 33 = .ok (.iload 5, 2) := by decide +kernel
theorem dX6_find_35 : decode cX6_find 35 = .ok (.iload_n 3, 1) := by decide +kernel
theorem dX6_find_36 : decode cX6_find 36 = .ok (.if_icmp .ge 17, 3) := by decide +kernel
theorem dX6_find_39 : decode cX6_find 39 = .ok (.aload_n 0, 1) := by decide +kernel
theorem dX6_find_40 : decode cX6_find 40 = .ok (.getfield 9, 3) := by decide +kernel
theorem dX6_find_43 : decode cX6_find 43 = .ok (.iload 5, 2) := by decide +kernel
theorem dX6_find_45 : decode cX6_find 45 = .ok (.iconst 0, 1) := by decide +kernel
theorem dX6_find_46 : decode cX6_find 46 = .ok (.iastore, 1) := by decide +kernel
theorem dX6_find_47 : decode cX6_find 47 = .ok (.iinc 5 1, 3) := by decide +kernel
theorem dX6_find_50 : decode cX6_find 50 = .ok (.goto (-17), 3) := by decide +kernel
theorem dX6_find_53 : decode cX6_find 53 = .ok (.aload_n 0, 1) := by decide +kernel
theorem dX6_find_54 : decode cX6_find 54 = .ok (.getfield 9, 3) := by decide +kernel
theorem dX6_find_57 : decode cX6_find 57 = .ok (.iconst 0, 1) := by decide +kernel
theorem dX6_find_58 : decode cX6_find 58 = .ok (.iconst 1, 1) := by decide +kernel
theorem dX6_find_59 : decode cX6_find 59 = .ok (.aload_n 2, 1) := by decide +kernel
theorem dX6_find_60 : decode cX6_find 60 = .ok (.getfield 34, 3) := by decide +kernel
theorem dX6_find_63 : decode cX6_find 63 = .ok (.ishl, 1) := by decide +kernel
theorem dX6_find_64 : decode cX6_find 64 = .ok (.iastore, 1) := by decide +kernel
theorem dX6_find_65 : decode cX6_find 65 = .ok (.iconst 1, 1) := by decide +kernel
theorem dX6_find_66 : decode cX6_find 66 = .ok (.istore 5, 2) := by decide +kernel
theorem dX6_find_68 : decode cX6_find 68 = .ok (.iconst 0, 1) := by decide +kernel
theorem dX6_find_69 : decode cX6_find 69 = .ok (.istore 6, 2) := by decide +kernel
theorem dX6_find_71 : decode cX6_find 71 = .ok (.iload 6, 2) := by decide +kernel
theorem dX6_find_73 : decode cX6_find 73 = .ok (.aload_n 2, 1) := by decide +kernel
theorem dX6_find_74 : decode cX6_find 74 = .ok (.getfield 37, 3) := by decide +kernel
theorem dX6_find_77 : decode cX6_find 77 = .ok (.if_icmp .ge 25, 3) := by decide +kernel
theorem dX6_find_80 : decode cX6_find 80 = .ok (.iload 5, 2) := by decide +kernel
theorem dX6_find_82 : decode cX6_find 82 = .ok (.ifCond .eq 20, 3) := by decide +kernel
theorem dX6_find_85 : decode cX6_find 85 = .ok (.aload_n 0, 1) := by decide +kernel
theorem dX6_find_86 : decode cX6_find 86 = .ok (.aload_n 1, 1) := by decide +kernel
theorem dX6_find_87 : decode cX6_find 87 = .ok (.aload_n 2, 1) := by decide +kernel
theorem dX6_find_88 : decode cX6_find 88 = .ok (.iload_n 3, 1) := by decide +kernel
theorem dX6_find_89 : decode cX6_find 89 = .ok (.iload 4, 2) := by decide +kernel
theorem dX6_find_91 : decode cX6_find 91 = .ok (.invokevirtual 40, 3) := by decide +kernel
theorem dX6_find_94 : decode cX6_find 94 = .ok (.istore 5, 2) := by decide +kernel
theorem dX6_find_96 : decode cX6_find 96 = .ok (.iinc 6 1, 3) := by decide +kernel
theorem dX6_find_99 : decode cX6_find 99 = .ok (.goto (-28), 3) := by decide +kernel
theorem dX6_find_102 : decode cX6_find 102 = .ok (.iconst 0, 1) := by decide +kernel
theorem dX6_find_103 : decode cX6_find 103 = .ok (.istore 6, 2) := by decide +kernel
theorem dX6_find_105 : decode cX6_find 105 = .ok (.iconst 0, 1) := by decide +kernel
theorem dX6_find_106 : decode cX6_find 106 = .ok (.istore 7, 2) := by decide +kernel
theorem dX6_find_108 : decode cX6_find 108 = .ok (.iload 7, 2) := by decide +kernel
theorem dX6_find_110 : decode cX6_find 110 = .ok (.iload_n 3, 1) := by decide +kernel
theorem dX6_find_111 : decode cX6_find 111 = .ok (.if_icmp .ge 21, 3) := by decide +kernel
theorem dX6_find_114 : decode cX6_find 114 = .ok (.iload 6, 2) := by decide +kernel
theorem dX6_find_116 : decode cX6_find 116 = .ok (.aload_n 0, 1) := by decide +kernel
theorem dX6_find_117 : decode cX6_find 117 = .ok (.getfield 9, 3) := by decide +kernel
theorem dX6_find_120 : decode cX6_find 120 = .ok (.iload 7, 2) := by decide +kernel
theorem dX6_find_122 : decode cX6_find 122 = .ok (.iaload, 1) := by decide +kernel
theorem dX6_find_123 : decode cX6_find 123 = .ok (.ior, 1) := by decide +kernel
theorem dX6_find_124 : decode cX6_find 124 = .ok (.istore 6, 2) := by decide +kernel
end
section
theorem dX6_find_126 : decode cX6_find 126 = .ok (.iinc 7 1, 3) := by decide +kernel
theorem dX6_find_129 : decode cX6_find 129 = .ok (.goto (-21), 3) := by decide +kernel
theorem dX6_find_132 : decode cX6_find 132 = .ok (.iload 6, 2) := by decide +kernel
theorem dX6_find_134 : decode cX6_find 134 = .ok (.ireturn, 1) := by decide +kernel
set_option maxRecDepth 20000 in
theorem ggX6_insideOf_X4_isOutside : GoodIn wsX6_insideOf wsX4_isOutside := goodIn_r _ [6, 7, 8, 9, 10, 11, 24, 25, 26, 27, 28, 29, 30, 31, 32, 33, 12, 13, 14, 15, 16, 17, 18, 19, 20, 21, 22, 23] (by decide +kernel) (by decide +kernel)
set_option maxRecDepth 20000 in
theorem gX6_insideOf_X4_isOutside : GoodIn wsX6_insideOf (wsV RX6 49 RX4 yX4_isOutside wsX4_isOutside) := goodIn_app (goodIn_of _ (by decide +kernel)) ggX6_insideOf_X4_isOutside
theorem dX6_insideOf_0 : decode cX6_insideOf 0 = .ok (.iconst 0, 1) := by decide +kernel
theorem dX6_insideOf_1 : decode cX6_insideOf 1 = .ok (.istore_n 3, 1) := by decide +kernel
theorem dX6_insideOf_2 : decode cX6_insideOf 2 = .ok (.iconst 0, 1) := by decide +kernel
theorem dX6_insideOf_3 : decode cX6_insideOf 3 = .ok (.istore 4, 2) := by decide +kernel
theorem dX6_insideOf_5 : decode cX6_insideOf 5 = .ok (.iload 4, 2) := by decide +kernel
theorem dX6_insideOf_7 : decode cX6_insideOf 7 = .ok (.aload_n 1, 1) := by decide +kernel
theorem dX6_insideOf_8 : decode cX6_insideOf 8 = .ok (.getfield 44, 3) := by decide +kernel
theorem dX6_insideOf_11 : decode cX6_insideOf 11 = .ok (.if_icmp .ge 26, 3) := by decide +kernel
theorem dX6_insideOf_14 : decode cX6_insideOf 14 = .ok (.aload_n 2, 1) := by decide +kernel
theorem dX6_insideOf_15 : decode cX6_insideOf 15 = .ok (.aload_n 1, 1) := by decide +kernel
theorem dX6_insideOf_16 : decode cX6_insideOf 16 = .ok (.iload 4, 2) := by decide +kernel
theorem dX6_insideOf_18 : decode cX6_insideOf 18 = .ok (.invokevirtual 49, 3) := by decide +kernel
theorem dX6_insideOf_21 : decode cX6_insideOf 21 = .ok (.ifCond .ne 10, 3) := by decide +kernel
theorem dX6_insideOf_24 : decode cX6_insideOf 24 = .ok (.iload_n 3, 1) := by decide +kernel
theorem dX6_insideOf_25 : decode cX6_insideOf 25 = .ok (.iconst 1, 1) := by decide +kernel
theorem dX6_insideOf_26 : decode cX6_insideOf 26 = .ok (.iload 4, 2) := by decide +kernel
theorem dX6_insideOf_28 : decode cX6_insideOf 28 = .ok (.ishl, 1) := by decide +kernel
theorem dX6_insideOf_29 : decode cX6_insideOf 29 = .ok (.ior, 1) := by decide +kernel
theorem dX6_insideOf_30 : decode cX6_insideOf 30 = .ok (.istore_n 3, 1) := by decide +kernel
theorem dX6_insideOf_31 : decode cX6_insideOf 31 = .ok (.iinc 4 1, 3) := by decide +kernel
theorem dX6_insideOf_34 : decode cX6_insideOf 34 = .ok (.goto (-29), 3) := by decide +kernel
theorem dX6_insideOf_37 : decode cX6_insideOf 37 = .ok (.iload_n 3, 1) := by decide +kernel
theorem dX6_insideOf_38 : decode cX6_insideOf 38 = .ok (.ireturn, 1) := by decide +kernel
set_option maxRecDepth 20000 in
theorem ggX6_step_X6_movers : GoodIn wsX6_step wsX6_movers := goodIn_r _ [7, 8, 9, 10, 11, 12, 29, 30, 31, 32, 33, 34, 35, 36, 37, 38, 39, 40] (by decide +kernel) (by decide +kernel)
set_option maxRecDepth 20000 in
theorem gX6_step_X6_movers : GoodIn wsX6_step (wsV RX6 53 RX6 yX6_movers wsX6_movers) := goodIn_app (goodIn_of _ (by decide +kernel)) ggX6_step_X6_movers
set_option maxRecDepth 20000 in
theorem ggX6_step_X6_stayers : GoodIn wsX6_step wsX6_stayers := goodIn_r _ [16, 8, 17, 10, 11, 12, 29, 30, 31, 32, 33, 34, 35, 36, 37, 38, 39, 40, 18, 19, 20, 21, 22, 23, 24, 25, 26, 27] (by decide +kernel) (by decide +kernel)
set_option maxRecDepth 20000 in
theorem gX6_step_X6_stayers : GoodIn wsX6_step (wsV RX6 57 RX6 yX6_stayers wsX6_stayers) := goodIn_app (goodIn_of _ (by decide +kernel)) ggX6_step_X6_stayers
theorem dX6_step_0 : decode cX6_step 0 = .ok (.iconst 0, 1) := by decide +kernel
theorem dX6_step_1 : decode cX6_step 1 = .ok (.istore 5, 2) := by decide +kernel
theorem dX6_step_3 : decode cX6_step 3 = .ok (.iload_n 3, 1) := by decide +kernel
theorem dX6_step_4 : decode cX6_step 4 = .ok (.iconst 1, 1) := by decide +kernel
theorem dX6_step_5 : decode cX6_step 5 = .ok (.isub, 1) := by decide +kernel
theorem dX6_step_6 : decode cX6_step 6 = .ok (.istore 6, 2) := by decide +kernel
theorem dX6_step_8 : decode cX6_step 8 = .ok (.iload 6, 2) := by decide +kernel
theorem dX6_step_10 : decode cX6_step 10 = .ok (.ifCond .lt 109, 3) := by decide +kernel
theorem dX6_step_13 : decode cX6_step 13 = .ok (.aload_n 2, 1) := by decide +kernel
theorem dX6_step_14 : decode cX6_step 14 = .ok (.getfield 15, 3) := by decide +kernel
theorem dX6_step_17 : decode cX6_step 17 = .ok (.iconst 1, 1) := by decide +kernel
theorem dX6_step_18 : decode cX6_step 18 = .ok (.if_icmp .eq 18, 3) := by decide +kernel
theorem dX6_step_21 : decode cX6_step 21 = .ok (.aload_n 0, 1) := by decide +kernel
theorem dX6_step_22 : decode cX6_step 22 = .ok (.aload_n 1, 1) := by decide +kernel
theorem dX6_step_23 : decode cX6_step 23 = .ok (.aload_n 0, 1) := by decide +kernel
theorem dX6_step_24 : decode cX6_step 24 = .ok (.getfield 9, 3) := by decide +kernel
theorem dX6_step_27 : decode cX6_step 27 = .ok (.iload 6, 2) := by decide +kernel
theorem dX6_step_29 : decode cX6_step 29 = .ok (.iaload, 1) := by decide +kernel
theorem dX6_step_30 : decode cX6_step 30 = .ok (.invokevirtual 53, 3) := by decide +kernel
theorem dX6_step_33 : decode cX6_step 33 = .ok (.goto 26, 3) := by decide +kernel
theorem dX6_step_36 : decode cX6_step 36 = .ok (.iload 6, 2) := by decide +kernel
theorem dX6_step_38 : decode cX6_step 38 = .ok (.ifCond .le 20, 3) := by decide +kernel
theorem dX6_step_41 : decode cX6_step 41 = .ok (.aload_n 0, 1) := by decide +kernel
theorem dX6_step_42 : decode cX6_step 42 = .ok (.aload_n 1, 1) := by decide +kernel
theorem dX6_step_43 : decode cX6_step 43 = .ok (.aload_n 0, 1) := by decide +kernel
theorem dX6_step_44 : decode cX6_step 44 = .ok (.getfield 9, 3) := by decide +kernel
theorem dX6_step_47 : decode cX6_step 47 = .ok (.iload 6, 2) := by decide +kernel
theorem dX6_step_49 : decode cX6_step 49 = .ok (.iconst 1, 1) := by decide +kernel
theorem dX6_step_50 : decode cX6_step 50 = .ok (.isub, 1) := by decide +kernel
theorem dX6_step_51 : decode cX6_step 51 = .ok (.iaload, 1) := by decide +kernel
theorem dX6_step_52 : decode cX6_step 52 = .ok (.invokevirtual 53, 3) := by decide +kernel
theorem dX6_step_55 : decode cX6_step 55 = .ok (.goto 4, 3) := by decide +kernel
theorem dX6_step_58 : decode cX6_step 58 = .ok (.iconst 0, 1) := by decide +kernel
theorem dX6_step_59 : decode cX6_step 59 = .ok (.istore 7, 2) := by decide +kernel
theorem dX6_step_61 : decode cX6_step 61 = .ok (.aload_n 0, 1) := by decide +kernel
theorem dX6_step_62 : decode cX6_step 62 = .ok (.aload_n 1, 1) := by decide +kernel
theorem dX6_step_63 : decode cX6_step 63 = .ok (.aload_n 2, 1) := by decide +kernel
theorem dX6_step_64 : decode cX6_step 64 = .ok (.aload_n 0, 1) := by decide +kernel
theorem dX6_step_65 : decode cX6_step 65 = .ok (.getfield 9, 3) := by decide +kernel
theorem dX6_step_68 : decode cX6_step 68 = .ok (.iload 6, 2) := by decide +kernel
theorem dX6_step_70 : decode cX6_step 70 = .ok (.iaload, 1) := by decide +kernel
theorem dX6_step_71 : decode cX6_step 71 = .ok (.invokevirtual 57, 3) := by decide +kernel
theorem dX6_step_74 : decode cX6_step 74 = .ok (.iload 7, 2) := by decide +kernel
theorem dX6_step_76 : decode cX6_step 76 = .ok (.ior, 1) := by decide +kernel
theorem dX6_step_77 : decode cX6_step 77 = .ok (.iload 4, 2) := by decide +kernel
theorem dX6_step_79 : decode cX6_step 79 = .ok (.iand, 1) := by decide +kernel
theorem dX6_step_80 : decode cX6_step 80 = .ok (.istore 8, 2) := by decide +kernel
theorem dX6_step_82 : decode cX6_step 82 = .ok (.iload 5, 2) := by decide +kernel
theorem dX6_step_84 : decode cX6_step 84 = .ok (.iload 8, 2) := by decide +kernel
theorem dX6_step_86 : decode cX6_step 86 = .ok (.aload_n 0, 1) := by decide +kernel
theorem dX6_step_87 : decode cX6_step 87 = .ok (.getfield 9, 3) := by decide +kernel
theorem dX6_step_90 : decode cX6_step 90 = .ok (.iload 6, 2) := by decide +kernel
theorem dX6_step_92 : decode cX6_step 92 = .ok (.iaload, 1) := by decide +kernel
theorem dX6_step_93 : decode cX6_step 93 = .ok (.if_icmp .eq 7, 3) := by decide +kernel
theorem dX6_step_96 : decode cX6_step 96 = .ok (.iconst 1, 1) := by decide +kernel
theorem dX6_step_97 : decode cX6_step 97 = .ok (.goto 4, 3) := by decide +kernel
theorem dX6_step_100 : decode cX6_step 100 = .ok (.iconst 0, 1) := by decide +kernel
theorem dX6_step_101 : decode cX6_step 101 = .ok (.ior, 1) := by decide +kernel
theorem dX6_step_102 : decode cX6_step 102 = .ok (.istore 5, 2) := by decide +kernel
theorem dX6_step_104 : decode cX6_step 104 = .ok (.aload_n 0, 1) := by decide +kernel
theorem dX6_step_105 : decode cX6_step 105 = .ok (.getfield 9, 3) := by decide +kernel
theorem dX6_step_108 : decode cX6_step 108 = .ok (.iload 6, 2) := by decide +kernel
theorem dX6_step_110 : decode cX6_step 110 = .ok (.iload 8, 2) := by decide +kernel
theorem dX6_step_112 : decode cX6_step 112 = .ok (.iastore, 1) := by decide +kernel
theorem dX6_step_113 : decode cX6_step 113 = .ok (.iinc 6 (-1), 3) := by decide +kernel
theorem dX6_step_116 : decode cX6_step 116 = .ok (.goto (-108), 3) := by decide +kernel
theorem dX6_step_119 : decode cX6_step 119 = .ok (.iload 5, 2) := by decide +kernel
theorem dX6_step_121 : decode cX6_step 121 = .ok (.ireturn, 1) := by decide +kernel
set_option maxRecDepth 20000 in
theorem ggX6_stayers_X7_holds : GoodIn wsX6_stayers wsX7_holds := goodIn_r _ [5] (by decide +kernel) (by decide +kernel)
set_option maxRecDepth 20000 in
theorem gX6_stayers_X7_holds_n61 : GoodIn wsX6_stayers (wsX7_holds) := ggX6_stayers_X7_holds
theorem dX6_stayers_0 : decode cX6_stayers 0 = .ok (.iconst 0, 1) := by decide +kernel
theorem dX6_stayers_1 : decode cX6_stayers 1 = .ok (.istore 4, 2) := by decide +kernel
theorem dX6_stayers_3 : decode cX6_stayers 3 = .ok (.iconst 0, 1) := by decide +kernel
theorem dX6_stayers_4 : decode cX6_stayers 4 = .ok (.istore 5, 2) := by decide +kernel
theorem dX6_stayers_6 : decode cX6_stayers 6 = .ok (.iload 5, 2) := by decide +kernel
theorem dX6_stayers_8 : decode cX6_stayers 8 = .ok (.aload_n 1, 1) := by decide +kernel
theorem dX6_stayers_9 : decode cX6_stayers 9 = .ok (.getfield 44, 3) := by decide +kernel
theorem dX6_stayers_12 : decode cX6_stayers 12 = .ok (.if_icmp .ge 37, 3) := by decide +kernel
theorem dX6_stayers_15 : decode cX6_stayers 15 = .ok (.iload_n 3, 1) := by decide +kernel
theorem dX6_stayers_16 : decode cX6_stayers 16 = .ok (.iload 5, 2) := by decide +kernel
theorem dX6_stayers_18 : decode cX6_stayers 18 = .ok (.invokestatic 61, 3) := by decide +kernel
theorem dX6_stayers_21 : decode cX6_stayers 21 = .ok (.ifCond .eq 22, 3) := by decide +kernel
theorem dX6_stayers_24 : decode cX6_stayers 24 = .ok (.aload_n 2, 1) := by decide +kernel
theorem dX6_stayers_25 : decode cX6_stayers 25 = .ok (.getfield 65, 3) := by decide +kernel
theorem dX6_stayers_28 : decode cX6_stayers 28 = .ok (.iload 5, 2) := by decide +kernel
theorem dX6_stayers_30 : decode cX6_stayers 30 = .ok (.iaload, 1) := by decide +kernel
theorem dX6_stayers_31 : decode cX6_stayers 31 = .ok (.ifCond .le 12, 3) := by decide +kernel
theorem dX6_stayers_34 : decode cX6_stayers 34 = .ok (.iload 4, 2) := by decide +kernel
theorem dX6_stayers_36 : decode cX6_stayers 36 = .ok (.iconst 1, 1) := by decide +kernel
theorem dX6_stayers_37 : decode cX6_stayers 37 = .ok (.iload 5, 2) := by decide +kernel
theorem dX6_stayers_39 : decode cX6_stayers 39 = .ok (.ishl, 1) := by decide +kernel
theorem dX6_stayers_40 : decode cX6_stayers 40 = .ok (.ior, 1) := by decide +kernel
theorem dX6_stayers_41 : decode cX6_stayers 41 = .ok (.istore 4, 2) := by decide +kernel
theorem dX6_stayers_43 : decode cX6_stayers 43 = .ok (.iinc 5 1, 3) := by decide +kernel
theorem dX6_stayers_46 : decode cX6_stayers 46 = .ok (.goto (-40), 3) := by decide +kernel
theorem dX6_stayers_49 : decode cX6_stayers 49 = .ok (.iload 4, 2) := by decide +kernel
theorem dX6_stayers_51 : decode cX6_stayers 51 = .ok (.ireturn, 1) := by decide +kernel
set_option maxRecDepth 20000 in
theorem ggX6_movers_X7_holds : GoodIn wsX6_movers wsX7_holds := goodIn_r _ [5] (by decide +kernel) (by decide +kernel)
set_option maxRecDepth 20000 in
theorem gX6_movers_X7_holds_n61 : GoodIn wsX6_movers (wsX7_holds) := ggX6_movers_X7_holds
theorem dX6_movers_0 : decode cX6_movers 0 = .ok (.iconst 0, 1) := by decide +kernel
theorem dX6_movers_1 : decode cX6_movers 1 = .ok (.istore_n 3, 1) := by decide +kernel
theorem dX6_movers_2 : decode cX6_movers 2 = .ok (.iconst 0, 1) := by decide +kernel
theorem dX6_movers_3 : decode cX6_movers 3 = .ok (.istore 4, 2) := by decide +kernel
theorem dX6_movers_5 : decode cX6_movers 5 = .ok (.iload 4, 2) := by decide +kernel
theorem dX6_movers_7 : decode cX6_movers 7 = .ok (.aload_n 1, 1) := by decide +kernel
theorem dX6_movers_8 : decode cX6_movers 8 = .ok (.getfield 44, 3) := by decide +kernel
theorem dX6_movers_11 : decode cX6_movers 11 = .ok (.if_icmp .ge 28, 3) := by decide +kernel
theorem dX6_movers_14 : decode cX6_movers 14 = .ok (.iload_n 2, 1) := by decide +kernel
theorem dX6_movers_15 : decode cX6_movers 15 = .ok (.iload 4, 2) := by decide +kernel
theorem dX6_movers_17 : decode cX6_movers 17 = .ok (.invokestatic 61, 3) := by decide +kernel
theorem dX6_movers_20 : decode cX6_movers 20 = .ok (.ifCond .eq 13, 3) := by decide +kernel
theorem dX6_movers_23 : decode cX6_movers 23 = .ok (.iload_n 3, 1) := by decide +kernel
theorem dX6_movers_24 : decode cX6_movers 24 = .ok (.aload_n 1, 1) := by decide +kernel
theorem dX6_movers_25 : decode cX6_movers 25 = .ok (.getfield 68, 3) := by decide +kernel
theorem dX6_movers_28 : decode cX6_movers 28 = .ok (.iload 4, 2) := by decide +kernel
theorem dX6_movers_30 : decode cX6_movers 30 = .ok (.iaload, 1) := by decide +kernel
theorem dX6_movers_31 : decode cX6_movers 31 = .ok (.ior, 1) := by decide +kernel
theorem dX6_movers_32 : decode cX6_movers 32 = .ok (.istore_n 3, 1) := by decide +kernel
theorem dX6_movers_33 : decode cX6_movers 33 = .ok (.iinc 4 1, 3) := by decide +kernel
theorem dX6_movers_36 : decode cX6_movers 36 = .ok (.goto (-31), 3) := by decide +kernel
theorem dX6_movers_39 : decode cX6_movers 39 = .ok (.iload_n 3, 1) := by decide +kernel
theorem dX6_movers_40 : decode cX6_movers 40 = .ok (.ireturn, 1) := by decide +kernel
set_option maxRecDepth 20000 in
theorem ggX7_init_X5_init : GoodIn wsX7_init wsX5_init := goodIn_r _ [37, 38, 2, 3, 39, 40, 41, 281, 282, 283, 284] (by decide +kernel) (by decide +kernel)
set_option maxRecDepth 20000 in
theorem gX7_init_X5_init_n9 : GoodIn wsX7_init (wsX5_init) := ggX7_init_X5_init
set_option maxRecDepth 20000 in
theorem ggX7_init_X2_init : GoodIn wsX7_init wsX2_init := goodIn_r _ [44, 45, 2, 3, 46, 47, 25, 26, 48, 49, 50, 39, 51, 52, 295, 296, 297, 309, 310, 311, 312, 313, 314, 315, 316, 317, 318] (by decide +kernel) (by decide +kernel)
set_option maxRecDepth 20000 in
theorem gX7_init_X2_init : GoodIn wsX7_init (wsX2_init) := ggX7_init_X2_init
set_option maxRecDepth 20000 in
theorem ggX7_init_X0_init : GoodIn wsX7_init wsX0_init := goodIn_r _ [54, 55, 2, 3, 56, 57, 39, 58, 59, 298, 299, 300, 301, 302, 303] (by decide +kernel) (by decide +kernel)
set_option maxRecDepth 20000 in
theorem gX7_init_X0_init_n25 : GoodIn wsX7_init (wsX0_init) := ggX7_init_X0_init
set_option maxRecDepth 20000 in
theorem ggX7_init_X6_init : GoodIn wsX7_init wsX6_init := goodIn_r _ [61, 62, 2, 3, 39, 63, 304] (by decide +kernel) (by decide +kernel)
set_option maxRecDepth 20000 in
theorem gX7_init_X6_init_n32 : GoodIn wsX7_init (wsX6_init) := ggX7_init_X6_init
set_option maxRecDepth 20000 in
theorem ggX7_init_X3_init : GoodIn wsX7_init wsX3_init := goodIn_r _ [65, 66, 2, 3, 39, 67, 305, 306, 307, 308] (by decide +kernel) (by decide +kernel)
set_option maxRecDepth 20000 in
theorem gX7_init_X3_init_n39 : GoodIn wsX7_init (wsX3_init) := ggX7_init_X3_init
set_option maxRecDepth 20000 in
theorem ggX7_init_X4_init : GoodIn wsX7_init wsX4_init := goodIn_r _ [49, 50, 2, 3, 39, 51, 52, 309, 310, 311, 312, 313, 314, 315, 316, 317, 318] (by decide +kernel) (by decide +kernel)
set_option maxRecDepth 20000 in
theorem gX7_init_X4_init_n46 : GoodIn wsX7_init (wsX4_init) := ggX7_init_X4_init
set_option maxRecDepth 20000 in
theorem ggX7_init_X1_init : GoodIn wsX7_init wsX1_init := goodIn_r _ [69, 70, 2, 3, 71, 39, 72, 73, 74, 75, 56, 76, 77, 319, 320, 321, 322, 323, 324, 325, 326, 327, 328, 329, 330] (by decide +kernel) (by decide +kernel)
set_option maxRecDepth 20000 in
theorem gX7_init_X1_init_n53 : GoodIn wsX7_init (wsX1_init) := ggX7_init_X1_init
set_option maxRecDepth 20000 in
theorem ggX7_init_J0_length_8abf5 : GoodIn wsX7_init wsJ0_length_8abf5 := goodIn_r _ [82, 83, 84, 85, 86, 81, 87, 88, 89] (by decide +kernel) (by decide +kernel)
set_option maxRecDepth 20000 in
theorem gX7_init_J0_length_8abf5 : GoodIn wsX7_init (wsV RX7 69 RJ0 yJ0_length_8abf5 wsJ0_length_8abf5) := goodIn_app (goodIn_of _ (by decide +kernel)) ggX7_init_J0_length_8abf5
set_option maxRecDepth 20000 in
theorem ggX7_init_J0_charAt_5068e : GoodIn wsX7_init wsJ0_charAt_5068e := goodIn_r _ [93, 83, 94, 95, 96, 81, 97, 88, 89, 98, 99, 100, 101, 102, 103, 104, 105, 106, 107, 108, 109, 110, 111, 112, 113, 114, 115, 116, 117, 118, 119, 120, 121, 122, 123, 124, 125, 126] (by decide +kernel) (by decide +kernel)
set_option maxRecDepth 20000 in
theorem gX7_init_J0_charAt_5068e : GoodIn wsX7_init (wsV RX7 75 RJ0 yJ0_charAt_5068e wsJ0_charAt_5068e) := goodIn_app (goodIn_of _ (by decide +kernel)) ggX7_init_J0_charAt_5068e
set_option maxRecDepth 20000 in
theorem ggX7_init_X5_append : GoodIn wsX7_init wsX5_append := goodIn_r _ [130, 131, 40, 281, 282, 283, 284] (by decide +kernel) (by decide +kernel)
set_option maxRecDepth 20000 in
theorem gX7_init_X5_append : GoodIn wsX7_init (wsV RX7 79 RX5 yX5_append wsX5_append) := goodIn_app (goodIn_of _ (by decide +kernel)) ggX7_init_X5_append
set_option maxRecDepth 20000 in
theorem ggX7_init_X7_layText : GoodIn wsX7_init wsX7_layText := goodIn_r _ [136, 7, 33, 34, 31, 32, 11, 137, 15, 138, 139, 140, 6, 141, 142, 131, 143, 144, 145, 30, 146, 147, 148, 74, 75, 72, 73, 149, 150, 151, 152, 153, 154, 155, 156, 157, 158, 159, 26, 160, 51, 52, 161, 162, 163, 164, 165, 166, 167, 168, 169, 170, 171, 172, 173, 174, 175, 176, 177, 178, 179, 180, 181, 182, 183, 40, 184, 185, 186, 187, 188, 189, 190, 191, 41, 192, 193, 194, 195, 196, 197, 198, 199, 200, 201, 202, 203, 204, 205, 206, 207, 208, 209, 210, 211, 212, 213, 214, 215, 216, 217, 218, 219, 220, 221, 222, 223, 224, 225, 226, 227, 228, 229, 230, 231, 135, 232, 233, 234, 235, 236, 237, 238, 239, 240, 241, 242, 243, 244, 245, 246, 247, 248, 249, 76, 250, 251, 252, 253, 77, 254, 255, 256, 257, 258, 259, 260, 261, 262, 263, 264, 265, 266, 267, 268, 269, 270, 271, 272, 273, 14, 274, 275, 276, 57, 277, 278, 279, 280, 285, 286, 287, 288, 289, 290, 291, 292, 293, 294, 295, 296, 297, 281, 282, 283, 284, 319, 320, 321, 322, 323, 324, 325, 326, 327, 328, 329, 330, 309, 310, 311, 312, 313, 314, 315, 316, 317, 318, 298, 299, 300, 301, 302, 303] (by decide +kernel) (by decide +kernel)
set_option maxRecDepth 20000 in
theorem gX7_init_X7_layText : GoodIn wsX7_init (wsV RX7 83 RX7 yX7_layText wsX7_layText) := goodIn_app (goodIn_of _ (by decide +kernel)) ggX7_init_X7_layText
theorem dX7_init_0 : decode cX7_init 0 = .ok (.aload_n 0, 1) := by decide +kernel
theorem dX7_init_1 : decode cX7_init 1 = .ok (.invokespecial 1, 3) := by decide +kernel
theorem dX7_init_4 : decode cX7_init 4 = .ok (.aload_n 0, 1) := by decide +kernel
theorem dX7_init_5 : decode cX7_init 5 = .ok (.new 7, 3) := by decide +kernel
theorem dX7_init_8 : decode cX7_init 8 = .ok (.dup, 1) := by decide +kernel
theorem dX7_init_9 : decode cX7_init 9 = .ok (.invokespecial 9, 3) := by decide +kernel
theorem dX7_init_12 : decode cX7_init 12 = .ok (.putfield 10, 3) := by decide +kernel
theorem dX7_init_15 : decode cX7_init 15 = .ok (.aload_n 0, 1) := by decide +kernel
theorem dX7_init_16 : decode cX7_init 16 = .ok (.new 16, 3) := by decide +kernel
theorem dX7_init_19 : decode cX7_init 19 = .ok (.dup, 1) := by decide +kernel
theorem dX7_init_20 : decode cX7_init 20 = .ok (.invokespecial 18, 3) := by decide +kernel
theorem dX7_init_23 : decode cX7_init 23 = .ok (.putfield 19, 3) := by decide +kernel
theorem dX7_init_26 : decode cX7_init 26 = .ok (.aload_n 0, 1) := by decide +kernel
theorem dX7_init_27 : decode cX7_init 27 = .ok (.new 23, 3) := by decide +kernel
theorem dX7_init_30 : decode cX7_init 30 = .ok (.dup, 1) := by decide +kernel
theorem dX7_init_31 : decode cX7_init 31 = .ok (.invokespecial 25, 3) := by decide +kernel
theorem dX7_init_34 : decode cX7_init 34 = .ok (.putfield 26, 3) := by decide +kernel
theorem dX7_init_37 : decode cX7_init 37 = .ok (.aload_n 0, 1) := by decide +kernel
theorem dX7_init_38 : decode cX7_init 38 = .ok (.new 30, 3) := by decide +kernel
theorem dX7_init_41 : decode cX7_init 41 = .ok (.dup, 1) := by decide +kernel
theorem dX7_init_42 : decode cX7_init 42 = .ok (.invokespecial 32, 3) := by decide +kernel
theorem dX7_init_45 : decode cX7_init 45 = .ok (.putfield 33, 3) := by decide +kernel
theorem dX7_init_48 : decode cX7_init 48 = .ok (.aload_n 0, 1) := by decide +kernel
theorem dX7_init_49 : decode cX7_init 49 = .ok (.new 37, 3) := by decide +kernel
theorem dX7_init_52 : decode cX7_init 52 = .ok (.dup, 1) := by decide +kernel
theorem dX7_init_53 : decode cX7_init 53 = .ok (.invokespecial 39, 3) := by decide +kernel
theorem dX7_init_56 : decode cX7_init 56 = .ok (.putfield 40, 3) := by decide +kernel
theorem dX7_init_59 : decode cX7_init 59 = .ok (.aload_n 0, 1) := by decide +kernel
theorem dX7_init_60 : decode cX7_init 60 = .ok (.new 44, 3) := by decide +kernel
theorem dX7_init_63 : decode cX7_init 63 = .ok (.dup, 1) := by decide +kernel
theorem dX7_init_64 : decode cX7_init 64 = .ok (.invokespecial 46, 3) := by decide +kernel
theorem dX7_init_67 : decode cX7_init 67 = .ok (.putfield 47, 3) := by decide +kernel
theorem dX7_init_70 : decode cX7_init 70 = .ok (.aload_n 0, 1) := by decide +kernel
theorem dX7_init_71 : decode cX7_init 71 = .ok (.new 51, 3) := by decide +kernel
theorem dX7_init_74 : decode cX7_init 74 = .ok (.dup, 1) := by decide +kernel
theorem dX7_init_75 : decode cX7_init 75 = .ok (.invokespecial 53, 3) := by decide +kernel
theorem dX7_init_78 : decode cX7_init 78 = .ok (.putfield 54, 3) := by decide +kernel
theorem dX7_init_81 : decode cX7_init 81 = .ok (.aload_n 0, 1) := by decide +kernel
theorem dX7_init_82 : decode cX7_init 82 = .ok (.new 44, 3) := by decide +kernel
theorem dX7_init_85 : decode cX7_init 85 = .ok (.dup, 1) := by decide +kernel
theorem dX7_init_86 : decode cX7_init 86 = .ok (.invokespecial 46, 3) := by decide +kernel
theorem dX7_init_89 : decode cX7_init 89 = .ok (.putfield 58, 3) := by decide +kernel
theorem dX7_init_92 : decode cX7_init 92 = .ok (.aload_n 0, 1) := by decide +kernel
theorem dX7_init_93 : decode cX7_init 93 = .ok (.new 51, 3) := by decide +kernel
theorem dX7_init_96 : decode cX7_init 96 = .ok (.dup, 1) := by decide +kernel
theorem dX7_init_97 : decode cX7_init 97 = .ok (.invokespecial 53, 3) := by decide +kernel
theorem dX7_init_100 : decode cX7_init 100 = .ok (.putfield 61, 3) := by decide +kernel
theorem dX7_init_103 : decode cX7_init 103 = .ok (.aload_n 0, 1) := by decide +kernel
theorem dX7_init_104 : decode cX7_init 104 = .ok (.new 44, 3) := by decide +kernel
theorem dX7_init_107 : decode cX7_init 107 = .ok (.dup, 1) := by decide +kernel
theorem dX7_init_108 : decode cX7_init 108 = .ok (.invokespecial 46, 3) := by decide +kernel
theorem dX7_init_111 : decode cX7_init 111 = .ok (.putfield 64, 3) := by decide +kernel
theorem dX7_init_114 : decode cX7_init 114 = .ok (.iconst 0, 1) := by decide +kernel
theorem dX7_init_115 : decode cX7_init 115 = .ok (.istore_n 1, 1) := by decide +kernel
theorem dX7_init_116 : decode cX7_init 116 = .ok (.iload_n 1, 1) := by decide +kernel
theorem dX7_init_117 : decode cX7_init 117 = .ok (.ldc 67, 2) := by decide +kernel
theorem dX7_init_119 : decode cX7_init 119 = .ok (.invokevirtual 69, 3) := by decide +kernel
theorem dX7_init_122 : decode cX7_init 122 = .ok (.if_icmp .ge 23, 3) := by decide +kernel
theorem dX7_init_125 : decode cX7_init 125 = .ok (.aload_n 0, 1) := by decide +kernel
theorem dX7_init_126 : decode cX7_init 126 = .ok (.getfield 10, 3) := by decide +kernel
theorem dX7_init_129 : decode cX7_init 129 = .ok (.ldc 67, 2) := by decide +kernel
theorem dX7_init_131 : decode cX7_init 131 = .ok (.iload_n 1, 1) := by decide +kernel
theorem dX7_init_132 : decode cX7_init 132 = .ok (.invokevirtual 75, 3) := by decide +kernel
theorem dX7_init_135 : decode cX7_init 135 = .ok (.invokevirtual 79, 3) := by decide +kernel
theorem dX7_init_138 : decode cX7_init 138 = .ok (.pop, 1) := by decide +kernel
theorem dX7_init_139 : decode cX7_init 139 = .ok (.iinc 1 1, 3) := by decide +kernel
theorem dX7_init_142 : decode cX7_init 142 = .ok (.goto (-26), 3) := by decide +kernel
theorem dX7_init_145 : decode cX7_init 145 = .ok (.aload_n 0, 1) := by decide +kernel
theorem dX7_init_146 : decode cX7_init 146 = .ok (.invokevirtual 83, 3) := by decide +kernel
theorem dX7_init_149 : decode cX7_init 149 = .ok (.pop, 1) := by decide +kernel
theorem dX7_init_150 : decode cX7_init 150 = .ok (.aload_n 0, 1) := by decide +kernel
theorem dX7_init_151 : decode cX7_init 151 = .ok (.getfield 10, 3) := by decide +kernel
theorem dX7_init_154 : decode cX7_init 154 = .ok (.iconst 0, 1) := by decide +kernel
theorem dX7_init_155 : decode cX7_init 155 = .ok (.putfield 87, 3) := by decide +kernel
theorem dX7_init_158 : decode cX7_init 158 = .ok (.return_, 1) := by decide +kernel
set_option maxRecDepth 20000 in
theorem ggX7_write_X5_append : GoodIn wsX7_write wsX5_append := goodIn_r _ [7, 8, 9, 20, 21, 22, 23] (by decide +kernel) (by decide +kernel)
set_option maxRecDepth 20000 in
theorem gX7_write_X5_append : GoodIn wsX7_write (wsV RX7 79 RX5 yX5_append wsX5_append) := goodIn_app (goodIn_of _ (by decide +kernel)) ggX7_write_X5_append
theorem dX7_write_0 : decode cX7_write 0 = .ok (.iload_n 1, 1) := by decide +kernel
theorem dX7_write_1 : decode cX7_write 1 = .ok (.bipush 32, 2) := by decide +kernel
theorem dX7_write_3 : decode cX7_write 3 = .ok (.if_icmp .lt 9, 3) := by decide +kernel
theorem dX7_write_6 : decode cX7_write 6 = .ok (.iload_n 1, 1) := by decide +kernel
theorem dX7_write_7 : decode cX7_write 7 = .ok (.bipush 126, 2) := by decide +kernel
theorem dX7_write_9 : decode cX7_write 9 = .ok (.if_icmp .le 5, 3) := by decide +kernel
theorem dX7_write_12 : decode cX7_write 12 = .ok (.iconst (-1), 1) := by decide +kernel
theorem dX7_write_13 : decode cX7_write 13 = .ok (.ireturn, 1) := by decide +kernel
theorem dX7_write_14 : decode cX7_write 14 = .ok (.aload_n 0, 1) := by decide +kernel
theorem dX7_write_15 : decode cX7_write 15 = .ok (.getfield 10, 3) := by decide +kernel
theorem dX7_write_18 : decode cX7_write 18 = .ok (.iload_n 1, 1) := by decide +kernel
theorem dX7_write_19 : decode cX7_write 19 = .ok (.invokevirtual 79, 3) := by decide +kernel
theorem dX7_write_22 : decode cX7_write 22 = .ok (.ifCond .eq 13, 3) := by decide +kernel
theorem dX7_write_25 : decode cX7_write 25 = .ok (.aload_n 0, 1) := by decide +kernel
theorem dX7_write_26 : decode cX7_write 26 = .ok (.getfield 10, 3) := by decide +kernel
theorem dX7_write_29 : decode cX7_write 29 = .ok (.getfield 87, 3) := by decide +kernel
theorem dX7_write_32 : decode cX7_write 32 = .ok (.goto 5, 3) := by decide +kernel
theorem dX7_write_35 : decode cX7_write 35 = .ok (.bipush (-3), 2) := by decide +kernel
theorem dX7_write_37 : decode cX7_write 37 = .ok (.ireturn, 1) := by decide +kernel
theorem dX7_wipe_0 : decode cX7_wipe 0 = .ok (.aload_n 0, 1) := by decide +kernel
theorem dX7_wipe_1 : decode cX7_wipe 1 = .ok (.getfield 10, 3) := by decide +kernel
theorem dX7_wipe_4 : decode cX7_wipe 4 = .ok (.getfield 87, 3) := by decide +kernel
theorem dX7_wipe_7 : decode cX7_wipe 7 = .ok (.istore_n 1, 1) := by decide +kernel
theorem dX7_wipe_8 : decode cX7_wipe 8 = .ok (.aload_n 0, 1) := by decide +kernel
theorem dX7_wipe_9 : decode cX7_wipe 9 = .ok (.getfield 10, 3) := by decide +kernel
theorem dX7_wipe_12 : decode cX7_wipe 12 = .ok (.iconst 0, 1) := by decide +kernel
theorem dX7_wipe_13 : decode cX7_wipe 13 = .ok (.putfield 87, 3) := by decide +kernel
theorem dX7_wipe_16 : decode cX7_wipe 16 = .ok (.iload_n 1, 1) := by decide +kernel
theorem dX7_wipe_17 : decode cX7_wipe 17 = .ok (.ireturn, 1) := by decide +kernel
set_option maxRecDepth 20000 in
theorem ggX7_fault_X5_readInto : GoodIn wsX7_fault wsX5_readInto := goodIn_r _ [8, 9, 10, 11, 12, 13, 14, 15, 16, 17, 18, 19, 20, 21, 22, 23, 24, 25, 26, 27, 28, 29, 30, 31, 32, 33, 34, 35, 36, 37, 38, 39, 40, 41, 42, 43, 44, 45, 46, 47, 48, 49, 50, 51, 7, 52, 53, 54, 55, 56, 57, 58, 59, 60, 61, 62, 63, 64, 65, 66, 67, 68, 69, 70, 71, 72, 73, 74, 75, 76, 77, 78, 79, 80, 81, 82, 83, 84, 85, 86, 87, 88, 89, 90, 91, 92, 93, 94, 95, 96, 97, 98, 99, 100, 101, 102, 103, 104, 105, 106, 107, 108, 109, 110, 111, 112, 113, 114, 115, 116, 127, 128, 129, 130, 131, 132, 133, 134, 135, 136, 137, 138, 139, 140, 141, 142, 143, 144, 145, 146, 147, 148, 149, 150, 151, 152] (by decide +kernel) (by decide +kernel)
set_option maxRecDepth 20000 in
theorem gX7_fault_X5_readInto : GoodIn wsX7_fault (wsV RX7 90 RX5 yX5_readInto wsX5_readInto) := goodIn_app (goodIn_of _ (by decide +kernel)) ggX7_fault_X5_readInto
theorem dX7_fault_0 : decode cX7_fault 0 = .ok (.aload_n 0, 1) := by decide +kernel
theorem dX7_fault_1 : decode cX7_fault 1 = .ok (.getfield 10, 3) := by decide +kernel
theorem dX7_fault_4 : decode cX7_fault 4 = .ok (.aload_n 0, 1) := by decide +kernel
theorem dX7_fault_5 : decode cX7_fault 5 = .ok (.getfield 61, 3) := by decide +kernel
theorem dX7_fault_8 : decode cX7_fault 8 = .ok (.aload_n 0, 1) := by decide +kernel
theorem dX7_fault_9 : decode cX7_fault 9 = .ok (.getfield 64, 3) := by decide +kernel
theorem dX7_fault_12 : decode cX7_fault 12 = .ok (.invokevirtual 90, 3) := by decide +kernel
theorem dX7_fault_15 : decode cX7_fault 15 = .ok (.ireturn, 1) := by decide +kernel
set_option maxRecDepth 20000 in
theorem ggX7_lay_X7_layText : GoodIn wsX7_lay wsX7_layText := goodIn_r _ [7, 8, 9, 10, 1, 11, 12, 13, 14, 15, 16, 17, 18, 19, 20, 21, 22, 23, 24, 25, 26, 27, 28, 29, 30, 31, 32, 33, 34, 35, 36, 37, 38, 39, 40, 41, 42, 43, 44, 45, 46, 47, 48, 49, 50, 51, 52, 53, 54, 55, 56, 57, 58, 59, 60, 61, 62, 63, 64, 65, 66, 67, 68, 69, 70, 71, 72, 73, 74, 75, 76, 77, 78, 79, 80, 81, 82, 83, 84, 85, 86, 87, 88, 89, 90, 91, 92, 93, 94, 95, 96, 97, 98, 99, 100, 101, 102, 103, 104, 105, 106, 107, 108, 109, 110, 111, 112, 113, 114, 115, 116, 117, 118, 119, 120, 6, 121, 122, 123, 124, 125, 126, 127, 128, 129, 130, 131, 132, 133, 134, 135, 136, 137, 138, 139, 140, 141, 142, 143, 144, 145, 146, 147, 148, 149, 150, 151, 152, 153, 154, 155, 156, 157, 158, 159, 160, 161, 162, 163, 164, 165, 166, 167, 168, 169, 170, 171, 172, 173, 174, 175, 176, 177, 178, 179, 180, 181, 182, 183, 196, 197, 198, 199, 200, 201, 202, 184, 185, 186, 187, 188, 189, 190, 191, 192, 193, 194, 195, 203, 204, 205, 206, 207, 208, 209, 210, 211, 212, 213, 214, 215, 216, 217, 218] (by decide +kernel) (by decide +kernel)
set_option maxRecDepth 20000 in
theorem gX7_lay_X7_layText : GoodIn wsX7_lay (wsV RX7 83 RX7 yX7_layText wsX7_layText) := goodIn_app (goodIn_of _ (by decide +kernel)) ggX7_lay_X7_layText
theorem dX7_lay_0 : decode cX7_lay 0 = .ok (.aload_n 0, 1) := by decide +kernel
theorem dX7_lay_1 : decode cX7_lay 1 = .ok (.invokevirtual 83, 3) := by decide +kernel
theorem dX7_lay_4 : decode cX7_lay 4 = .ok (.ifCond .eq 13, 3) := by decide +kernel
theorem dX7_lay_7 : decode cX7_lay 7 = .ok (.aload_n 0, 1) := by decide +kernel
theorem dX7_lay_8 : decode cX7_lay 8 = .ok (.getfield 54, 3) := by decide +kernel
theorem dX7_lay_11 : decode cX7_lay 11 = .ok (.getfield 94, 3) := by decide +kernel
theorem dX7_lay_14 : decode cX7_lay 14 = .ok (.goto 5, 3) := by decide +kernel
theorem dX7_lay_17 : decode cX7_lay 17 = .ok (.bipush (-2), 2) := by decide +kernel
theorem dX7_lay_19 : decode cX7_lay 19 = .ok (.ireturn, 1) := by decide +kernel
set_option maxRecDepth 20000 in
theorem ggX7_layText_X5_readInto : GoodIn wsX7_layText wsX5_readInto := goodIn_r _ [13, 14, 15, 16, 17, 18, 19, 20, 21, 22, 23, 24, 25, 26, 27, 28, 29, 30, 31, 32, 33, 34, 35, 36, 37, 38, 39, 40, 41, 42, 43, 44, 45, 46, 47, 48, 49, 50, 51, 52, 53, 54, 55, 56, 12, 57, 58, 59, 60, 61, 62, 63, 64, 65, 66, 67, 68, 69, 70, 71, 72, 73, 74, 75, 76, 77, 78, 79, 80, 81, 82, 83, 84, 85, 86, 87, 88, 89, 90, 91, 92, 93, 94, 95, 96, 97, 98, 99, 100, 101, 102, 103, 104, 105, 106, 107, 108, 109, 110, 111, 112, 113, 114, 115, 116, 117, 118, 119, 120, 121, 182, 183, 184, 185, 186, 187, 188, 189, 190, 191, 192, 193, 194, 195, 196, 197, 198, 199, 200, 201, 202, 203, 204, 205, 206, 207] (by decide +kernel) (by decide +kernel)
set_option maxRecDepth 20000 in
theorem gX7_layText_X5_readInto : GoodIn wsX7_layText (wsV RX7 90 RX5 yX5_readInto wsX5_readInto) := goodIn_app (goodIn_of _ (by decide +kernel)) ggX7_layText_X5_readInto
set_option maxRecDepth 20000 in
theorem ggX7_layText_X1_isWhole : GoodIn wsX7_layText wsX1_isWhole := goodIn_r _ [125, 21, 26, 126, 127, 128, 129, 186, 187, 188, 189, 190, 191, 192, 193, 194, 195, 196, 197] (by decide +kernel) (by decide +kernel)
set_option maxRecDepth 20000 in
theorem gX7_layText_X1_isWhole : GoodIn wsX7_layText (wsV RX7 97 RX1 yX1_isWhole wsX1_isWhole) := goodIn_app (goodIn_of _ (by decide +kernel)) ggX7_layText_X1_isWhole
set_option maxRecDepth 20000 in
theorem ggX7_layText_X1_growTrees : GoodIn wsX7_layText wsX1_growTrees := goodIn_r _ [133, 21, 134, 135, 136, 137, 19, 138, 139, 140, 141, 142, 143, 144, 145, 146, 147, 148, 149, 150, 151, 152, 153, 154, 24, 25, 155, 115, 156, 186, 187, 188, 189, 190, 191, 192, 193, 194, 195, 196, 197] (by decide +kernel) (by decide +kernel)
set_option maxRecDepth 20000 in
theorem gX7_layText_X1_growTrees : GoodIn wsX7_layText (wsV RX7 100 RX1 yX1_growTrees wsX1_growTrees) := goodIn_app (goodIn_of _ (by decide +kernel)) ggX7_layText_X1_growTrees
set_option maxRecDepth 20000 in
theorem ggX7_layText_X0_reckon : GoodIn wsX7_layText wsX0_reckon := goodIn_r _ [161, 162, 163, 164, 165, 166, 167, 168, 208, 209, 210, 211, 212, 213, 186, 187, 188, 189, 190, 191, 192, 193, 194, 195, 196, 197, 198, 199, 200, 201, 202, 203, 204, 205, 206, 207] (by decide +kernel) (by decide +kernel)
set_option maxRecDepth 20000 in
theorem gX7_layText_X0_reckon : GoodIn wsX7_layText (wsV RX7 106 RX0 yX0_reckon wsX0_reckon) := goodIn_app (goodIn_of _ (by decide +kernel)) ggX7_layText_X0_reckon
theorem dX7_layText_0 : decode cX7_layText 0 = .ok (.aload_n 0, 1) := by decide +kernel
theorem dX7_layText_1 : decode cX7_layText 1 = .ok (.getfield 10, 3) := by decide +kernel
theorem dX7_layText_4 : decode cX7_layText 4 = .ok (.aload_n 0, 1) := by decide +kernel
theorem dX7_layText_5 : decode cX7_layText 5 = .ok (.getfield 61, 3) := by decide +kernel
theorem dX7_layText_8 : decode cX7_layText 8 = .ok (.aload_n 0, 1) := by decide +kernel
theorem dX7_layText_9 : decode cX7_layText 9 = .ok (.getfield 64, 3) := by decide +kernel
theorem dX7_layText_12 : decode cX7_layText 12 = .ok (.invokevirtual 90, 3) := by decide +kernel
theorem dX7_layText_15 : decode cX7_layText 15 = .ok (.bipush (-4), 2) := by decide +kernel
theorem dX7_layText_17 : decode cX7_layText 17 = .ok (.if_icmp .ne 13, 3) := by decide +kernel
theorem dX7_layText_20 : decode cX7_layText 20 = .ok (.aload_n 0, 1) := by decide +kernel
theorem dX7_layText_21 : decode cX7_layText 21 = .ok (.getfield 61, 3) := by decide +kernel
theorem dX7_layText_24 : decode cX7_layText 24 = .ok (.invokevirtual 97, 3) := by decide +kernel
theorem dX7_layText_27 : decode cX7_layText 27 = .ok (.ifCond .ne 5, 3) := by decide +kernel
theorem dX7_layText_30 : decode cX7_layText 30 = .ok (.iconst 0, 1) := by decide +kernel
theorem dX7_layText_31 : decode cX7_layText 31 = .ok (.ireturn, 1) := by decide +kernel
theorem dX7_layText_32 : decode cX7_layText 32 = .ok (.aload_n 0, 1) := by decide +kernel
theorem dX7_layText_33 : decode cX7_layText 33 = .ok (.getfield 54, 3) := by decide +kernel
theorem dX7_layText_36 : decode cX7_layText 36 = .ok (.astore_n 1, 1) := by decide +kernel
theorem dX7_layText_37 : decode cX7_layText 37 = .ok (.aload_n 0, 1) := by decide +kernel
theorem dX7_layText_38 : decode cX7_layText 38 = .ok (.getfield 58, 3) := by decide +kernel
theorem dX7_layText_41 : decode cX7_layText 41 = .ok (.astore_n 2, 1) := by decide +kernel
theorem dX7_layText_42 : decode cX7_layText 42 = .ok (.aload_n 0, 1) := by decide +kernel
theorem dX7_layText_43 : decode cX7_layText 43 = .ok (.aload_n 0, 1) := by decide +kernel
theorem dX7_layText_44 : decode cX7_layText 44 = .ok (.getfield 61, 3) := by decide +kernel
theorem dX7_layText_47 : decode cX7_layText 47 = .ok (.putfield 54, 3) := by decide +kernel
theorem dX7_layText_50 : decode cX7_layText 50 = .ok (.aload_n 0, 1) := by decide +kernel
theorem dX7_layText_51 : decode cX7_layText 51 = .ok (.aload_n 0, 1) := by decide +kernel
theorem dX7_layText_52 : decode cX7_layText 52 = .ok (.getfield 64, 3) := by decide +kernel
theorem dX7_layText_55 : decode cX7_layText 55 = .ok (.putfield 58, 3) := by decide +kernel
theorem dX7_layText_58 : decode cX7_layText 58 = .ok (.aload_n 0, 1) := by decide +kernel
theorem dX7_layText_59 : decode cX7_layText 59 = .ok (.aload_n 1, 1) := by decide +kernel
theorem dX7_layText_60 : decode cX7_layText 60 = .ok (.putfield 61, 3) := by decide +kernel
theorem dX7_layText_63 : decode cX7_layText 63 = .ok (.aload_n 0, 1) := by decide +kernel
theorem dX7_layText_64 : decode cX7_layText 64 = .ok (.aload_n 2, 1) := by decide +kernel
theorem dX7_layText_65 : decode cX7_layText 65 = .ok (.putfield 64, 3) := by decide +kernel
theorem dX7_layText_68 : decode cX7_layText 68 = .ok (.aload_n 0, 1) := by decide +kernel
theorem dX7_layText_69 : decode cX7_layText 69 = .ok (.getfield 54, 3) := by decide +kernel
theorem dX7_layText_72 : decode cX7_layText 72 = .ok (.invokevirtual 100, 3) := by decide +kernel
theorem dX7_layText_75 : decode cX7_layText 75 = .ok (.aload_n 0, 1) := by decide +kernel
theorem dX7_layText_76 : decode cX7_layText 76 = .ok (.getfield 19, 3) := by decide +kernel
theorem dX7_layText_79 : decode cX7_layText 79 = .ok (.iconst 0, 1) := by decide +kernel
theorem dX7_layText_80 : decode cX7_layText 80 = .ok (.putfield 103, 3) := by decide +kernel
theorem dX7_layText_83 : decode cX7_layText 83 = .ok (.aload_n 0, 1) := by decide +kernel
theorem dX7_layText_84 : decode cX7_layText 84 = .ok (.getfield 26, 3) := by decide +kernel
theorem dX7_layText_87 : decode cX7_layText 87 = .ok (.aload_n 0, 1) := by decide +kernel
theorem dX7_layText_88 : decode cX7_layText 88 = .ok (.getfield 54, 3) := by decide +kernel
theorem dX7_layText_91 : decode cX7_layText 91 = .ok (.aload_n 0, 1) := by decide +kernel
theorem dX7_layText_92 : decode cX7_layText 92 = .ok (.getfield 58, 3) := by decide +kernel
theorem dX7_layText_95 : decode cX7_layText 95 = .ok (.invokevirtual 106, 3) := by decide +kernel
theorem dX7_layText_98 : decode cX7_layText 98 = .ok (.iconst 1, 1) := by decide +kernel
theorem dX7_layText_99 : decode cX7_layText 99 = .ok (.ireturn, 1) := by decide +kernel
set_option maxRecDepth 20000 in
theorem ggX7_set_X7_isCell : GoodIn wsX7_set wsX7_isCell := goodIn_r _ [11, 6, 12, 60, 61, 62, 63, 64, 65, 66, 67, 68, 69, 80, 81, 82, 83, 84, 85, 86, 87, 88, 89, 90, 91] (by decide +kernel) (by decide +kernel)
set_option maxRecDepth 20000 in
theorem gX7_set_X7_isCell : GoodIn wsX7_set (wsV RX7 110 RX7 yX7_isCell wsX7_isCell) := goodIn_app (goodIn_of _ (by decide +kernel)) ggX7_set_X7_isCell
set_option maxRecDepth 20000 in
theorem ggX7_set_X2_keep : GoodIn wsX7_set wsX2_keep := goodIn_r _ [17, 18, 19, 20, 21, 22, 23, 24, 25, 26, 27, 28, 29, 30, 31, 32, 33, 34, 35, 36, 37, 38, 39, 40, 41, 42, 43, 92, 93, 94, 70, 71, 72, 73, 74, 75, 76, 77, 78, 79] (by decide +kernel) (by decide +kernel)
set_option maxRecDepth 20000 in
theorem gX7_set_X2_keep : GoodIn wsX7_set (wsV RX7 120 RX2 yX2_keep wsX2_keep) := goodIn_app (goodIn_of _ (by decide +kernel)) ggX7_set_X2_keep
set_option maxRecDepth 20000 in
theorem ggX7_set_X0_reckon : GoodIn wsX7_set wsX0_reckon := goodIn_r _ [48, 49, 50, 51, 52, 53, 54, 55, 95, 96, 97, 98, 99, 100, 80, 81, 82, 83, 84, 85, 86, 87, 88, 89, 90, 91, 70, 71, 72, 73, 74, 75, 76, 77, 78, 79] (by decide +kernel) (by decide +kernel)
set_option maxRecDepth 20000 in
theorem gX7_set_X0_reckon : GoodIn wsX7_set (wsV RX7 106 RX0 yX0_reckon wsX0_reckon) := goodIn_app (goodIn_of _ (by decide +kernel)) ggX7_set_X0_reckon
set_option maxRecDepth 20000 in
theorem ggX7_set_X4_register : GoodIn wsX7_set wsX4_register := goodIn_r _ [59, 38, 39, 40, 41, 70, 71, 72, 73, 74, 75, 76, 77, 78, 79] (by decide +kernel) (by decide +kernel)
set_option maxRecDepth 20000 in
theorem gX7_set_X4_register : GoodIn wsX7_set (wsV RX7 124 RX4 yX4_register wsX4_register) := goodIn_app (goodIn_of _ (by decide +kernel)) ggX7_set_X4_register
theorem dX7_set_0 : decode cX7_set 0 = .ok (.aload_n 0, 1) := by decide +kernel
theorem dX7_set_1 : decode cX7_set 1 = .ok (.iload_n 1, 1) := by decide +kernel
theorem dX7_set_2 : decode cX7_set 2 = .ok (.invokevirtual 110, 3) := by decide +kernel
theorem dX7_set_5 : decode cX7_set 5 = .ok (.ifCond .eq 30, 3) := by decide +kernel
theorem dX7_set_8 : decode cX7_set 8 = .ok (.iload_n 2, 1) := by decide +kernel
theorem dX7_set_9 : decode cX7_set 9 = .ok (.ifCond .lt 26, 3) := by decide +kernel
theorem dX7_set_12 : decode cX7_set 12 = .ok (.iload_n 2, 1) := by decide +kernel
theorem dX7_set_13 : decode cX7_set 13 = .ok (.iconst 1, 1) := by decide +kernel
theorem dX7_set_14 : decode cX7_set 14 = .ok (.if_icmp .gt 21, 3) := by decide +kernel
theorem dX7_set_17 : decode cX7_set 17 = .ok (.iload_n 3, 1) := by decide +kernel
theorem dX7_set_18 : decode cX7_set 18 = .ok (.ifCond .lt 17, 3) := by decide +kernel
theorem dX7_set_21 : decode cX7_set 21 = .ok (.iload_n 3, 1) := by decide +kernel
theorem dX7_set_22 : decode cX7_set 22 = .ok (.iload_n 2, 1) := by decide +kernel
theorem dX7_set_23 : decode cX7_set 23 = .ok (.ifCond .ne 8, 3) := by decide +kernel
theorem dX7_set_26 : decode cX7_set 26 = .ok (.bipush 9, 2) := by decide +kernel
theorem dX7_set_28 : decode cX7_set 28 = .ok (.goto 4, 3) := by decide +kernel
theorem dX7_set_31 : decode cX7_set 31 = .ok (.iconst 5, 1) := by decide +kernel
theorem dX7_set_32 : decode cX7_set 32 = .ok (.if_icmp .le 5, 3) := by decide +kernel
theorem dX7_set_35 : decode cX7_set 35 = .ok (.iconst (-1), 1) := by decide +kernel
theorem dX7_set_36 : decode cX7_set 36 = .ok (.ireturn, 1) := by decide +kernel
theorem dX7_set_37 : decode cX7_set 37 = .ok (.iload_n 2, 1) := by decide +kernel
theorem dX7_set_38 : decode cX7_set 38 = .ok (.ifCond .ne 15, 3) := by decide +kernel
theorem dX7_set_41 : decode cX7_set 41 = .ok (.aload_n 0, 1) := by decide +kernel
theorem dX7_set_42 : decode cX7_set 42 = .ok (.getfield 58, 3) := by decide +kernel
theorem dX7_set_45 : decode cX7_set 45 = .ok (.getfield 113, 3) := by decide +kernel
theorem dX7_set_48 : decode cX7_set 48 = .ok (.iload_n 1, 1) := by decide +kernel
theorem dX7_set_49 : decode cX7_set 49 = .ok (.iaload, 1) := by decide +kernel
theorem dX7_set_50 : decode cX7_set 50 = .ok (.goto 12, 3) := by decide +kernel
theorem dX7_set_53 : decode cX7_set 53 = .ok (.aload_n 0, 1) := by decide +kernel
theorem dX7_set_54 : decode cX7_set 54 = .ok (.getfield 58, 3) := by decide +kernel
theorem dX7_set_57 : decode cX7_set 57 = .ok (.getfield 117, 3) := by decide +kernel
theorem dX7_set_60 : decode cX7_set 60 = .ok (.iload_n 1, 1) := by decide +kernel
theorem dX7_set_61 : decode cX7_set 61 = .ok (.iaload, 1) := by decide +kernel
theorem dX7_set_62 : decode cX7_set 62 = .ok (.istore 4, 2) := by decide +kernel
theorem dX7_set_64 : decode cX7_set 64 = .ok (.iload 4, 2) := by decide +kernel
theorem dX7_set_66 : decode cX7_set 66 = .ok (.iload_n 3, 1) := by decide +kernel
theorem dX7_set_67 : decode cX7_set 67 = .ok (.if_icmp .ne 6, 3) := by decide +kernel
theorem dX7_set_70 : decode cX7_set 70 = .ok (.bipush (-2), 2) := by decide +kernel
theorem dX7_set_72 : decode cX7_set 72 = .ok (.ireturn, 1) := by decide +kernel
theorem dX7_set_73 : decode cX7_set 73 = .ok (.aload_n 0, 1) := by decide +kernel
theorem dX7_set_74 : decode cX7_set 74 = .ok (.getfield 19, 3) := by decide +kernel
theorem dX7_set_77 : decode cX7_set 77 = .ok (.aload_n 0, 1) := by decide +kernel
theorem dX7_set_78 : decode cX7_set 78 = .ok (.getfield 58, 3) := by decide +kernel
theorem dX7_set_81 : decode cX7_set 81 = .ok (.invokevirtual 120, 3) := by decide +kernel
theorem dX7_set_84 : decode cX7_set 84 = .ok (.iload_n 2, 1) := by decide +kernel
theorem dX7_set_85 : decode cX7_set 85 = .ok (.ifCond .ne 31, 3) := by decide +kernel
theorem dX7_set_88 : decode cX7_set 88 = .ok (.aload_n 0, 1) := by decide +kernel
theorem dX7_set_89 : decode cX7_set 89 = .ok (.getfield 58, 3) := by decide +kernel
theorem dX7_set_92 : decode cX7_set 92 = .ok (.getfield 113, 3) := by decide +kernel
theorem dX7_set_95 : decode cX7_set 95 = .ok (.iload_n 1, 1) := by decide +kernel
theorem dX7_set_96 : decode cX7_set 96 = .ok (.iload_n 3, 1) := by decide +kernel
theorem dX7_set_97 : decode cX7_set 97 = .ok (.iastore, 1) := by decide +kernel
theorem dX7_set_98 : decode cX7_set 98 = .ok (.aload_n 0, 1) := by decide +kernel
theorem dX7_set_99 : decode cX7_set 99 = .ok (.getfield 26, 3) := by decide +kernel
theorem dX7_set_102 : decode cX7_set 102 = .ok (.aload_n 0, 1) := by decide +kernel
theorem dX7_set_103 : decode cX7_set 103 = .ok (.getfield 54, 3) := by decide +kernel
theorem dX7_set_106 : decode cX7_set 106 = .ok (.aload_n 0, 1) := by decide +kernel
theorem dX7_set_107 : decode cX7_set 107 = .ok (.getfield 58, 3) := by decide +kernel
theorem dX7_set_110 : decode cX7_set 110 = .ok (.invokevirtual 106, 3) := by decide +kernel
theorem dX7_set_113 : decode cX7_set 113 = .ok (.goto 13, 3) := by decide +kernel
theorem dX7_set_116 : decode cX7_set 116 = .ok (.aload_n 0, 1) := by decide +kernel
theorem dX7_set_117 : decode cX7_set 117 = .ok (.getfield 58, 3) := by decide +kernel
theorem dX7_set_120 : decode cX7_set 120 = .ok (.getfield 117, 3) := by decide +kernel
theorem dX7_set_123 : decode cX7_set 123 = .ok (.iload_n 1, 1) := by decide +kernel
theorem dX7_set_124 : decode cX7_set 124 = .ok (.iload_n 3, 1) := by decide +kernel
theorem dX7_set_125 : decode cX7_set 125 = .ok (.iastore, 1) := by decide +kernel
theorem dX7_set_126 : decode cX7_set 126 = .ok (.aload_n 0, 1) := by decide +kernel
theorem dX7_set_127 : decode cX7_set 127 = .ok (.getfield 58, 3) := by decide +kernel
theorem dX7_set_130 : decode cX7_set 130 = .ok (.invokevirtual 124, 3) := by decide +kernel
theorem dX7_set_133 : decode cX7_set 133 = .ok (.iload 4, 2) := by decide +kernel
theorem dX7_set_135 : decode cX7_set 135 = .ok (.ireturn, 1) := by decide +kernel
set_option maxRecDepth 20000 in
theorem ggX7_law_X7_isLaw : GoodIn wsX7_law wsX7_isLaw := goodIn_r _ [8] (by decide +kernel) (by decide +kernel)
set_option maxRecDepth 20000 in
theorem gX7_law_X7_isLaw : GoodIn wsX7_law (va_wsS RX7 127 yX7_isLaw wsX7_isLaw) := goodIn_app (goodIn_of _ (by decide +kernel)) ggX7_law_X7_isLaw
set_option maxRecDepth 20000 in
theorem ggX7_law_X2_keep : GoodIn wsX7_law wsX2_keep := goodIn_r _ [13, 14, 15, 16, 17, 18, 19, 20, 21, 22, 23, 24, 25, 26, 27, 28, 29, 30, 31, 32, 33, 34, 35, 36, 37, 38, 39, 64, 65, 66, 54, 55, 56, 57, 58, 59, 60, 61, 62, 63] (by decide +kernel) (by decide +kernel)
set_option maxRecDepth 20000 in
theorem gX7_law_X2_keep : GoodIn wsX7_law (wsV RX7 120 RX2 yX2_keep wsX2_keep) := goodIn_app (goodIn_of _ (by decide +kernel)) ggX7_law_X2_keep
set_option maxRecDepth 20000 in
theorem ggX7_law_X4_register : GoodIn wsX7_law wsX4_register := goodIn_r _ [43, 34, 35, 36, 37, 54, 55, 56, 57, 58, 59, 60, 61, 62, 63] (by decide +kernel) (by decide +kernel)
set_option maxRecDepth 20000 in
theorem gX7_law_X4_register : GoodIn wsX7_law (wsV RX7 124 RX4 yX4_register wsX4_register) := goodIn_app (goodIn_of _ (by decide +kernel)) ggX7_law_X4_register
theorem dX7_law_0 : decode cX7_law 0 = .ok (.iload_n 1, 1) := by decide +kernel
theorem dX7_law_1 : decode cX7_law 1 = .ok (.iload_n 2, 1) := by decide +kernel
theorem dX7_law_2 : decode cX7_law 2 = .ok (.invokestatic 127, 3) := by decide +kernel
theorem dX7_law_5 : decode cX7_law 5 = .ok (.ifCond .ne 5, 3) := by decide +kernel
theorem dX7_law_8 : decode cX7_law 8 = .ok (.iconst (-1), 1) := by decide +kernel
theorem dX7_law_9 : decode cX7_law 9 = .ok (.ireturn, 1) := by decide +kernel
theorem dX7_law_10 : decode cX7_law 10 = .ok (.aload_n 0, 1) := by decide +kernel
theorem dX7_law_11 : decode cX7_law 11 = .ok (.getfield 58, 3) := by decide +kernel
theorem dX7_law_14 : decode cX7_law 14 = .ok (.getfield 131, 3) := by decide +kernel
theorem dX7_law_17 : decode cX7_law 17 = .ok (.iload_n 1, 1) := by decide +kernel
theorem dX7_law_18 : decode cX7_law 18 = .ok (.if_icmp .ne 17, 3) := by decide +kernel
theorem dX7_law_21 : decode cX7_law 21 = .ok (.aload_n 0, 1) := by decide +kernel
theorem dX7_law_22 : decode cX7_law 22 = .ok (.getfield 58, 3) := by decide +kernel
theorem dX7_law_25 : decode cX7_law 25 = .ok (.getfield 134, 3) := by decide +kernel
theorem dX7_law_28 : decode cX7_law 28 = .ok (.iload_n 2, 1) := by decide +kernel
theorem dX7_law_29 : decode cX7_law 29 = .ok (.if_icmp .ne 6, 3) := by decide +kernel
theorem dX7_law_32 : decode cX7_law 32 = .ok (.bipush (-2), 2) := by decide +kernel
theorem dX7_law_34 : decode cX7_law 34 = .ok (.ireturn, 1) := by decide +kernel
theorem dX7_law_35 : decode cX7_law 35 = .ok (.bipush 10, 2) := by decide +kernel
theorem dX7_law_37 : decode cX7_law 37 = .ok (.aload_n 0, 1) := by decide +kernel
theorem dX7_law_38 : decode cX7_law 38 = .ok (.getfield 58, 3) := by decide +kernel
theorem dX7_law_41 : decode cX7_law 41 = .ok (.getfield 131, 3) := by decide +kernel
theorem dX7_law_44 : decode cX7_law 44 = .ok (.imul, 1) := by decide +kernel
theorem dX7_law_45 : decode cX7_law 45 = .ok (.aload_n 0, 1) := by decide +kernel
theorem dX7_law_46 : decode cX7_law 46 = .ok (.getfield 58, 3) := by decide +kernel
theorem dX7_law_49 : decode cX7_law 49 = .ok (.getfield 134, 3) := by decide +kernel
theorem dX7_law_52 : decode cX7_law 52 = .ok (.iadd, 1) := by decide +kernel
theorem dX7_law_53 : decode cX7_law 53 = .ok (.istore_n 3, 1) := by decide +kernel
theorem dX7_law_54 : decode cX7_law 54 = .ok (.aload_n 0, 1) := by decide +kernel
theorem dX7_law_55 : decode cX7_law 55 = .ok (.getfield 19, 3) := by decide +kernel
theorem dX7_law_58 : decode cX7_law 58 = .ok (.aload_n 0, 1) := by decide +kernel
theorem dX7_law_59 : decode cX7_law 59 = .ok (.getfield 58, 3) := by decide +kernel
theorem dX7_law_62 : decode cX7_law 62 = .ok (.invokevirtual 120, 3) := by decide +kernel
theorem dX7_law_65 : decode cX7_law 65 = .ok (.aload_n 0, 1) := by decide +kernel
theorem dX7_law_66 : decode cX7_law 66 = .ok (.getfield 58, 3) := by decide +kernel
theorem dX7_law_69 : decode cX7_law 69 = .ok (.iload_n 1, 1) := by decide +kernel
theorem dX7_law_70 : decode cX7_law 70 = .ok (.putfield 131, 3) := by decide +kernel
theorem dX7_law_73 : decode cX7_law 73 = .ok (.aload_n 0, 1) := by decide +kernel
theorem dX7_law_74 : decode cX7_law 74 = .ok (.getfield 58, 3) := by decide +kernel
theorem dX7_law_77 : decode cX7_law 77 = .ok (.iload_n 2, 1) := by decide +kernel
theorem dX7_law_78 : decode cX7_law 78 = .ok (.putfield 134, 3) := by decide +kernel
theorem dX7_law_81 : decode cX7_law 81 = .ok (.aload_n 0, 1) := by decide +kernel
theorem dX7_law_82 : decode cX7_law 82 = .ok (.getfield 58, 3) := by decide +kernel
theorem dX7_law_85 : decode cX7_law 85 = .ok (.invokevirtual 124, 3) := by decide +kernel
theorem dX7_law_88 : decode cX7_law 88 = .ok (.iload_n 3, 1) := by decide +kernel
theorem dX7_law_89 : decode cX7_law 89 = .ok (.ireturn, 1) := by decide +kernel
set_option maxRecDepth 20000 in
theorem ggX7_give_X0_findBest : GoodIn wsX7_give wsX0_findBest := goodIn_r _ [12, 13, 14, 15, 16, 17, 18, 19, 11, 20, 21, 22, 23, 24, 25, 26, 27, 28, 29, 30, 31, 32, 33, 34, 35, 36, 37, 38, 39, 40, 41, 42, 43, 44, 45, 46, 47, 48, 49, 50, 51, 52, 53, 54, 118, 119, 120, 121, 122, 123, 96, 97, 98, 99, 100, 101, 102, 103, 104, 105, 106, 107] (by decide +kernel) (by decide +kernel)
set_option maxRecDepth 20000 in
theorem gX7_give_X0_findBest : GoodIn wsX7_give (wsV RX7 137 RX0 yX0_findBest wsX0_findBest) := goodIn_app (goodIn_of _ (by decide +kernel)) ggX7_give_X0_findBest
set_option maxRecDepth 20000 in
theorem ggX7_give_X2_keep : GoodIn wsX7_give wsX2_keep := goodIn_r _ [59, 60, 61, 62, 63, 64, 53, 65, 66, 67, 68, 69, 70, 71, 72, 40, 41, 42, 73, 74, 75, 76, 77, 78, 79, 80, 81, 124, 125, 126, 108, 109, 110, 111, 112, 113, 114, 115, 116, 117] (by decide +kernel) (by decide +kernel)
set_option maxRecDepth 20000 in
theorem gX7_give_X2_keep : GoodIn wsX7_give (wsV RX7 120 RX2 yX2_keep wsX2_keep) := goodIn_app (goodIn_of _ (by decide +kernel)) ggX7_give_X2_keep
set_option maxRecDepth 20000 in
theorem ggX7_give_X4_register : GoodIn wsX7_give wsX4_register := goodIn_r _ [85, 76, 77, 78, 79, 108, 109, 110, 111, 112, 113, 114, 115, 116, 117] (by decide +kernel) (by decide +kernel)
set_option maxRecDepth 20000 in
theorem gX7_give_X4_register : GoodIn wsX7_give (wsV RX7 124 RX4 yX4_register wsX4_register) := goodIn_app (goodIn_of _ (by decide +kernel)) ggX7_give_X4_register
theorem dX7_give_0 : decode cX7_give 0 = .ok (.aload_n 0, 1) := by decide +kernel
theorem dX7_give_1 : decode cX7_give 1 = .ok (.getfield 26, 3) := by decide +kernel
theorem dX7_give_4 : decode cX7_give 4 = .ok (.aload_n 0, 1) := by decide +kernel
theorem dX7_give_5 : decode cX7_give 5 = .ok (.getfield 54, 3) := by decide +kernel
theorem dX7_give_8 : decode cX7_give 8 = .ok (.invokevirtual 137, 3) := by decide +kernel
theorem dX7_give_11 : decode cX7_give 11 = .ok (.aload_n 0, 1) := by decide +kernel
theorem dX7_give_12 : decode cX7_give 12 = .ok (.getfield 19, 3) := by decide +kernel
theorem dX7_give_15 : decode cX7_give 15 = .ok (.aload_n 0, 1) := by decide +kernel
theorem dX7_give_16 : decode cX7_give 16 = .ok (.getfield 58, 3) := by decide +kernel
theorem dX7_give_19 : decode cX7_give 19 = .ok (.invokevirtual 120, 3) := by decide +kernel
theorem dX7_give_22 : decode cX7_give 22 = .ok (.iconst 0, 1) := by decide +kernel
theorem dX7_give_23 : decode cX7_give 23 = .ok (.istore_n 1, 1) := by decide +kernel
theorem dX7_give_24 : decode cX7_give 24 = .ok (.iconst 0, 1) := by decide +kernel
theorem dX7_give_25 : decode cX7_give 25 = .ok (.istore_n 2, 1) := by decide +kernel
theorem dX7_give_26 : decode cX7_give 26 = .ok (.iload_n 2, 1) := by decide +kernel
theorem dX7_give_27 : decode cX7_give 27 = .ok (.aload_n 0, 1) := by decide +kernel
theorem dX7_give_28 : decode cX7_give 28 = .ok (.getfield 54, 3) := by decide +kernel
theorem dX7_give_31 : decode cX7_give 31 = .ok (.getfield 94, 3) := by decide +kernel
theorem dX7_give_34 : decode cX7_give 34 = .ok (.if_icmp .ge 51, 3) := by decide +kernel
theorem dX7_give_37 : decode cX7_give 37 = .ok (.aload_n 0, 1) := by decide +kernel
theorem dX7_give_38 : decode cX7_give 38 = .ok (.getfield 58, 3) := by decide +kernel
theorem dX7_give_41 : decode cX7_give 41 = .ok (.getfield 117, 3) := by decide +kernel
theorem dX7_give_44 : decode cX7_give 44 = .ok (.iload_n 2, 1) := by decide +kernel
theorem dX7_give_45 : decode cX7_give 45 = .ok (.iaload, 1) := by decide +kernel
theorem dX7_give_46 : decode cX7_give 46 = .ok (.aload_n 0, 1) := by decide +kernel
theorem dX7_give_47 : decode cX7_give 47 = .ok (.getfield 26, 3) := by decide +kernel
theorem dX7_give_50 : decode cX7_give 50 = .ok (.getfield 141, 3) := by decide +kernel
theorem dX7_give_53 : decode cX7_give 53 = .ok (.iload_n 2, 1) := by decide +kernel
theorem dX7_give_54 : decode cX7_give 54 = .ok (.iaload, 1) := by decide +kernel
theorem dX7_give_55 : decode cX7_give 55 = .ok (.if_icmp .eq 6, 3) := by decide +kernel
theorem dX7_give_58 : decode cX7_give 58 = .ok (.iinc 1 1, 3) := by decide +kernel
theorem dX7_give_61 : decode cX7_give 61 = .ok (.aload_n 0, 1) := by decide +kernel
theorem dX7_give_62 : decode cX7_give 62 = .ok (.getfield 58, 3) := by decide +kernel
theorem dX7_give_65 : decode cX7_give 65 = .ok (.getfield 117, 3) := by decide +kernel
theorem dX7_give_68 : decode cX7_give 68 = .ok (.iload_n 2, 1) := by decide +kernel
theorem dX7_give_69 : decode cX7_give 69 = .ok (.aload_n 0, 1) := by decide +kernel
theorem dX7_give_70 : decode cX7_give 70 = .ok (.getfield 26, 3) := by decide +kernel
theorem dX7_give_73 : decode cX7_give 73 = .ok (.getfield 141, 3) := by decide +kernel
theorem dX7_give_76 : decode cX7_give 76 = .ok (.iload_n 2, 1) := by decide +kernel
theorem dX7_give_77 : decode cX7_give 77 = .ok (.iaload, 1) := by decide +kernel
theorem dX7_give_78 : decode cX7_give 78 = .ok (.iastore, 1) := by decide +kernel
theorem dX7_give_79 : decode cX7_give 79 = .ok (.iinc 2 1, 3) := by decide +kernel
theorem dX7_give_82 : decode cX7_give 82 = .ok (.goto (-56), 3) := by decide +kernel
theorem dX7_give_85 : decode cX7_give 85 = .ok (.aload_n 0, 1) := by decide +kernel
theorem dX7_give_86 : decode cX7_give 86 = .ok (.getfield 58, 3) := by decide +kernel
theorem dX7_give_89 : decode cX7_give 89 = .ok (.invokevirtual 124, 3) := by decide +kernel
theorem dX7_give_92 : decode cX7_give 92 = .ok (.iload_n 1, 1) := by decide +kernel
theorem dX7_give_93 : decode cX7_give 93 = .ok (.ireturn, 1) := by decide +kernel
set_option maxRecDepth 20000 in
theorem ggX7_undo_X2_bringBack : GoodIn wsX7_undo wsX2_bringBack := goodIn_r _ [10, 11, 12, 13, 14, 15, 16, 17, 18, 19, 20, 21, 22, 23, 24, 25, 26, 27, 28, 29, 30, 31, 32, 55, 56, 57, 58, 59, 60, 61, 62, 63, 64, 65, 66, 67] (by decide +kernel) (by decide +kernel)
set_option maxRecDepth 20000 in
theorem gX7_undo_X2_bringBack : GoodIn wsX7_undo (wsV RX7 144 RX2 yX2_bringBack wsX2_bringBack) := goodIn_app (goodIn_of _ (by decide +kernel)) ggX7_undo_X2_bringBack
set_option maxRecDepth 20000 in
theorem ggX7_undo_X0_reckon : GoodIn wsX7_undo wsX0_reckon := goodIn_r _ [37, 38, 39, 40, 41, 42, 43, 44, 68, 69, 70, 71, 72, 73, 74, 75, 76, 77, 78, 79, 80, 81, 82, 83, 84, 85, 58, 59, 60, 61, 62, 63, 64, 65, 66, 67] (by decide +kernel) (by decide +kernel)
set_option maxRecDepth 20000 in
theorem gX7_undo_X0_reckon : GoodIn wsX7_undo (wsV RX7 106 RX0 yX0_reckon wsX0_reckon) := goodIn_app (goodIn_of _ (by decide +kernel)) ggX7_undo_X0_reckon
theorem dX7_undo_0 : decode cX7_undo 0 = .ok (.aload_n 0, 1) := by decide +kernel
theorem dX7_undo_1 : decode cX7_undo 1 = .ok (.getfield 19, 3) := by decide +kernel
theorem dX7_undo_4 : decode cX7_undo 4 = .ok (.aload_n 0, 1) := by decide +kernel
theorem dX7_undo_5 : decode cX7_undo 5 = .ok (.getfield 58, 3) := by decide +kernel
theorem dX7_undo_8 : decode cX7_undo 8 = .ok (.invokevirtual 144, 3) := by decide +kernel
theorem dX7_undo_11 : decode cX7_undo 11 = .ok (.ifCond .ne 6, 3) := by decide +kernel
theorem dX7_undo_14 : decode cX7_undo 14 = .ok (.bipush (-2), 2) := by decide +kernel
theorem dX7_undo_16 : decode cX7_undo 16 = .ok (.ireturn, 1) := by decide +kernel
theorem dX7_undo_17 : decode cX7_undo 17 = .ok (.aload_n 0, 1) := by decide +kernel
theorem dX7_undo_18 : decode cX7_undo 18 = .ok (.getfield 26, 3) := by decide +kernel
theorem dX7_undo_21 : decode cX7_undo 21 = .ok (.aload_n 0, 1) := by decide +kernel
theorem dX7_undo_22 : decode cX7_undo 22 = .ok (.getfield 54, 3) := by decide +kernel
theorem dX7_undo_25 : decode cX7_undo 25 = .ok (.aload_n 0, 1) := by decide +kernel
theorem dX7_undo_26 : decode cX7_undo 26 = .ok (.getfield 58, 3) := by decide +kernel
theorem dX7_undo_29 : decode cX7_undo 29 = .ok (.invokevirtual 106, 3) := by decide +kernel
theorem dX7_undo_32 : decode cX7_undo 32 = .ok (.aload_n 0, 1) := by decide +kernel
theorem dX7_undo_33 : decode cX7_undo 33 = .ok (.getfield 19, 3) := by decide +kernel
theorem dX7_undo_36 : decode cX7_undo 36 = .ok (.getfield 103, 3) := by decide +kernel
theorem dX7_undo_39 : decode cX7_undo 39 = .ok (.ireturn, 1) := by decide +kernel
set_option maxRecDepth 20000 in
theorem ggX7_cell_X7_isCell : GoodIn wsX7_cell wsX7_isCell := goodIn_r _ [12, 4, 7, 16, 17, 18, 19, 20, 21, 22, 23, 24, 25, 36, 37, 38, 39, 40, 41, 42, 43, 44, 45, 46, 47] (by decide +kernel) (by decide +kernel)
set_option maxRecDepth 20000 in
theorem gX7_cell_X7_isCell : GoodIn wsX7_cell (wsV RX7 110 RX7 yX7_isCell wsX7_isCell) := goodIn_app (goodIn_of _ (by decide +kernel)) ggX7_cell_X7_isCell
set_option maxRecDepth 20000 in
theorem ggX7_cell_X7_sameArea : GoodIn wsX7_cell wsX7_sameArea := goodIn_r _ [15] (by decide +kernel) (by decide +kernel)
set_option maxRecDepth 20000 in
theorem gX7_cell_X7_sameArea : GoodIn wsX7_cell (va_wsS RX7 154 yX7_sameArea wsX7_sameArea) := goodIn_app (goodIn_of _ (by decide +kernel)) ggX7_cell_X7_sameArea
theorem dX7_cell_0 : decode cX7_cell 0 = .ok (.aload_n 0, 1) := by decide +kernel
theorem dX7_cell_1 : decode cX7_cell 1 = .ok (.iload_n 1, 1) := by decide +kernel
theorem dX7_cell_2 : decode cX7_cell 2 = .ok (.invokevirtual 110, 3) := by decide +kernel
theorem dX7_cell_5 : decode cX7_cell 5 = .ok (.ifCond .ne 5, 3) := by decide +kernel
theorem dX7_cell_8 : decode cX7_cell 8 = .ok (.iconst (-1), 1) := by decide +kernel
theorem dX7_cell_9 : decode cX7_cell 9 = .ok (.ireturn, 1) := by decide +kernel
theorem dX7_cell_10 : decode cX7_cell 10 = .ok (.iload_n 2, 1) := by decide +kernel
theorem dX7_cell_11 : decode cX7_cell 11 = .ok (.tableswitch 102 0 4 #[33, 43, 53, 73, 83], 33) := by decide +kernel
theorem dX7_cell_44 : decode cX7_cell 44 = .ok (.aload_n 0, 1) := by decide +kernel
theorem dX7_cell_45 : decode cX7_cell 45 = .ok (.getfield 58, 3) := by decide +kernel
theorem dX7_cell_48 : decode cX7_cell 48 = .ok (.getfield 113, 3) := by decide +kernel
theorem dX7_cell_51 : decode cX7_cell 51 = .ok (.iload_n 1, 1) := by decide +kernel
theorem dX7_cell_52 : decode cX7_cell 52 = .ok (.iaload, 1) := by decide +kernel
theorem dX7_cell_53 : decode cX7_cell 53 = .ok (.ireturn, 1) := by decide +kernel
theorem dX7_cell_54 : decode cX7_cell 54 = .ok (.aload_n 0, 1) := by decide +kernel
theorem dX7_cell_55 : decode cX7_cell 55 = .ok (.getfield 58, 3) := by decide +kernel
theorem dX7_cell_58 : decode cX7_cell 58 = .ok (.getfield 117, 3) := by decide +kernel
theorem dX7_cell_61 : decode cX7_cell 61 = .ok (.iload_n 1, 1) := by decide +kernel
theorem dX7_cell_62 : decode cX7_cell 62 = .ok (.iaload, 1) := by decide +kernel
theorem dX7_cell_63 : decode cX7_cell 63 = .ok (.ireturn, 1) := by decide +kernel
theorem dX7_cell_64 : decode cX7_cell 64 = .ok (.aload_n 0, 1) := by decide +kernel
theorem dX7_cell_65 : decode cX7_cell 65 = .ok (.getfield 58, 3) := by decide +kernel
theorem dX7_cell_68 : decode cX7_cell 68 = .ok (.getfield 113, 3) := by decide +kernel
theorem dX7_cell_71 : decode cX7_cell 71 = .ok (.iload_n 1, 1) := by decide +kernel
theorem dX7_cell_72 : decode cX7_cell 72 = .ok (.iaload, 1) := by decide +kernel
theorem dX7_cell_73 : decode cX7_cell 73 = .ok (.aload_n 0, 1) := by decide +kernel
theorem dX7_cell_74 : decode cX7_cell 74 = .ok (.getfield 54, 3) := by decide +kernel
theorem dX7_cell_77 : decode cX7_cell 77 = .ok (.getfield 148, 3) := by decide +kernel
theorem dX7_cell_80 : decode cX7_cell 80 = .ok (.iload_n 1, 1) := by decide +kernel
theorem dX7_cell_81 : decode cX7_cell 81 = .ok (.iaload, 1) := by decide +kernel
theorem dX7_cell_82 : decode cX7_cell 82 = .ok (.iadd, 1) := by decide +kernel
theorem dX7_cell_83 : decode cX7_cell 83 = .ok (.ireturn, 1) := by decide +kernel
theorem dX7_cell_84 : decode cX7_cell 84 = .ok (.aload_n 0, 1) := by decide +kernel
theorem dX7_cell_85 : decode cX7_cell 85 = .ok (.getfield 54, 3) := by decide +kernel
theorem dX7_cell_88 : decode cX7_cell 88 = .ok (.getfield 151, 3) := by decide +kernel
theorem dX7_cell_91 : decode cX7_cell 91 = .ok (.iload_n 1, 1) := by decide +kernel
theorem dX7_cell_92 : decode cX7_cell 92 = .ok (.iaload, 1) := by decide +kernel
theorem dX7_cell_93 : decode cX7_cell 93 = .ok (.ireturn, 1) := by decide +kernel
theorem dX7_cell_94 : decode cX7_cell 94 = .ok (.aload_n 0, 1) := by decide +kernel
theorem dX7_cell_95 : decode cX7_cell 95 = .ok (.getfield 54, 3) := by decide +kernel
theorem dX7_cell_98 : decode cX7_cell 98 = .ok (.getfield 94, 3) := by decide +kernel
theorem dX7_cell_101 : decode cX7_cell 101 = .ok (.aload_n 0, 1) := by decide +kernel
theorem dX7_cell_102 : decode cX7_cell 102 = .ok (.getfield 58, 3) := by decide +kernel
theorem dX7_cell_105 : decode cX7_cell 105 = .ok (.getfield 117, 3) := by decide +kernel
theorem dX7_cell_108 : decode cX7_cell 108 = .ok (.iload_n 1, 1) := by decide +kernel
theorem dX7_cell_109 : decode cX7_cell 109 = .ok (.invokestatic 154, 3) := by decide +kernel
theorem dX7_cell_112 : decode cX7_cell 112 = .ok (.ireturn, 1) := by decide +kernel
theorem dX7_cell_113 : decode cX7_cell 113 = .ok (.iconst (-1), 1) := by decide +kernel
theorem dX7_cell_114 : decode cX7_cell 114 = .ok (.ireturn, 1) := by decide +kernel
set_option maxRecDepth 20000 in
theorem ggX7_weight_X7_isCell : GoodIn wsX7_weight wsX7_isCell := goodIn_r _ [7, 1, 8, 9, 10, 11, 12, 13, 14, 15, 16, 17, 18, 19, 20, 21, 22, 23, 24, 25, 26, 27, 28, 29, 30] (by decide +kernel) (by decide +kernel)
set_option maxRecDepth 20000 in
theorem gX7_weight_X7_isCell : GoodIn wsX7_weight (wsV RX7 110 RX7 yX7_isCell wsX7_isCell) := goodIn_app (goodIn_of _ (by decide +kernel)) ggX7_weight_X7_isCell
theorem dX7_weight_0 : decode cX7_weight 0 = .ok (.aload_n 0, 1) := by decide +kernel
theorem dX7_weight_1 : decode cX7_weight 1 = .ok (.iload_n 1, 1) := by decide +kernel
theorem dX7_weight_2 : decode cX7_weight 2 = .ok (.invokevirtual 110, 3) := by decide +kernel
theorem dX7_weight_5 : decode cX7_weight 5 = .ok (.ifCond .eq 16, 3) := by decide +kernel
theorem dX7_weight_8 : decode cX7_weight 8 = .ok (.aload_n 0, 1) := by decide +kernel
theorem dX7_weight_9 : decode cX7_weight 9 = .ok (.iload_n 2, 1) := by decide +kernel
theorem dX7_weight_10 : decode cX7_weight 10 = .ok (.invokevirtual 110, 3) := by decide +kernel
theorem dX7_weight_13 : decode cX7_weight 13 = .ok (.ifCond .eq 8, 3) := by decide +kernel
theorem dX7_weight_16 : decode cX7_weight 16 = .ok (.iload_n 1, 1) := by decide +kernel
theorem dX7_weight_17 : decode cX7_weight 17 = .ok (.iload_n 2, 1) := by decide +kernel
theorem dX7_weight_18 : decode cX7_weight 18 = .ok (.if_icmp .ne 5, 3) := by decide +kernel
theorem dX7_weight_21 : decode cX7_weight 21 = .ok (.iconst (-1), 1) := by decide +kernel
theorem dX7_weight_22 : decode cX7_weight 22 = .ok (.ireturn, 1) := by decide +kernel
theorem dX7_weight_23 : decode cX7_weight 23 = .ok (.aload_n 0, 1) := by decide +kernel
theorem dX7_weight_24 : decode cX7_weight 24 = .ok (.getfield 54, 3) := by decide +kernel
theorem dX7_weight_27 : decode cX7_weight 27 = .ok (.getfield 158, 3) := by decide +kernel
theorem dX7_weight_30 : decode cX7_weight 30 = .ok (.iload_n 1, 1) := by decide +kernel
theorem dX7_weight_31 : decode cX7_weight 31 = .ok (.aaload, 1) := by decide +kernel
theorem dX7_weight_32 : decode cX7_weight 32 = .ok (.iload_n 2, 1) := by decide +kernel
theorem dX7_weight_33 : decode cX7_weight 33 = .ok (.iaload, 1) := by decide +kernel
theorem dX7_weight_34 : decode cX7_weight 34 = .ok (.ireturn, 1) := by decide +kernel
set_option maxRecDepth 20000 in
theorem ggX7_wide_X7_isCell : GoodIn wsX7_wide wsX7_isCell := goodIn_r _ [7, 1, 8, 9, 10, 11, 12, 13, 14, 15, 16, 17, 18, 19, 20, 21, 22, 23, 24, 25, 26, 27, 28, 29, 30] (by decide +kernel) (by decide +kernel)
set_option maxRecDepth 20000 in
theorem gX7_wide_X7_isCell : GoodIn wsX7_wide (wsV RX7 110 RX7 yX7_isCell wsX7_isCell) := goodIn_app (goodIn_of _ (by decide +kernel)) ggX7_wide_X7_isCell
theorem dX7_wide_0 : decode cX7_wide 0 = .ok (.aload_n 0, 1) := by decide +kernel
theorem dX7_wide_1 : decode cX7_wide 1 = .ok (.iload_n 1, 1) := by decide +kernel
theorem dX7_wide_2 : decode cX7_wide 2 = .ok (.invokevirtual 110, 3) := by decide +kernel
theorem dX7_wide_5 : decode cX7_wide 5 = .ok (.ifCond .eq 11, 3) := by decide +kernel
theorem dX7_wide_8 : decode cX7_wide 8 = .ok (.aload_n 0, 1) := by decide +kernel
theorem dX7_wide_9 : decode cX7_wide 9 = .ok (.iload_n 2, 1) := by decide +kernel
theorem dX7_wide_10 : decode cX7_wide 10 = .ok (.invokevirtual 110, 3) := by decide +kernel
theorem dX7_wide_13 : decode cX7_wide 13 = .ok (.ifCond .ne 5, 3) := by decide +kernel
theorem dX7_wide_16 : decode cX7_wide 16 = .ok (.iconst (-1), 1) := by decide +kernel
theorem dX7_wide_17 : decode cX7_wide 17 = .ok (.ireturn, 1) := by decide +kernel
theorem dX7_wide_18 : decode cX7_wide 18 = .ok (.aload_n 0, 1) := by decide +kernel
theorem dX7_wide_19 : decode cX7_wide 19 = .ok (.getfield 54, 3) := by decide +kernel
theorem dX7_wide_22 : decode cX7_wide 22 = .ok (.getfield 162, 3) := by decide +kernel
theorem dX7_wide_25 : decode cX7_wide 25 = .ok (.iload_n 1, 1) := by decide +kernel
theorem dX7_wide_26 : decode cX7_wide 26 = .ok (.aaload, 1) := by decide +kernel
theorem dX7_wide_27 : decode cX7_wide 27 = .ok (.iload_n 2, 1) := by decide +kernel
theorem dX7_wide_28 : decode cX7_wide 28 = .ok (.iaload, 1) := by decide +kernel
theorem dX7_wide_29 : decode cX7_wide 29 = .ok (.ireturn, 1) := by decide +kernel
set_option maxRecDepth 20000 in
theorem ggX7_tick_X7_isCell : GoodIn wsX7_tick wsX7_isCell := goodIn_r _ [8, 2, 9, 65, 66, 67, 68, 69, 70, 71, 72, 73, 74, 75, 76, 77, 78, 79, 80, 81, 82, 83, 84, 85, 86] (by decide +kernel) (by decide +kernel)
set_option maxRecDepth 20000 in
theorem gX7_tick_X7_isCell : GoodIn wsX7_tick (wsV RX7 110 RX7 yX7_isCell wsX7_isCell) := goodIn_app (goodIn_of _ (by decide +kernel)) ggX7_tick_X7_isCell
set_option maxRecDepth 20000 in
theorem ggX7_tick_X4_canGo : GoodIn wsX7_tick wsX4_canGo := goodIn_r _ [14, 15, 16, 17, 18, 7, 19, 87, 88, 89, 90, 91, 92, 93, 94, 95, 96, 75, 76, 77, 78, 79, 80, 81, 82, 83, 84, 85, 86] (by decide +kernel) (by decide +kernel)
set_option maxRecDepth 20000 in
theorem gX7_tick_X4_canGo : GoodIn wsX7_tick (wsV RX7 165 RX4 yX4_canGo wsX4_canGo) := goodIn_app (goodIn_of _ (by decide +kernel)) ggX7_tick_X4_canGo
set_option maxRecDepth 20000 in
theorem ggX7_tick_X2_keep : GoodIn wsX7_tick wsX2_keep := goodIn_r _ [24, 25, 26, 27, 28, 29, 30, 31, 32, 33, 34, 13, 35, 16, 36, 37, 38, 39, 40, 41, 42, 15, 43, 44, 45, 46, 47, 97, 98, 99, 87, 88, 89, 90, 91, 92, 93, 94, 95, 96] (by decide +kernel) (by decide +kernel)
set_option maxRecDepth 20000 in
theorem gX7_tick_X2_keep : GoodIn wsX7_tick (wsV RX7 120 RX2 yX2_keep wsX2_keep) := goodIn_app (goodIn_of _ (by decide +kernel)) ggX7_tick_X2_keep
set_option maxRecDepth 20000 in
theorem ggX7_tick_X4_go : GoodIn wsX7_tick wsX4_go := goodIn_r _ [51, 15, 44, 45, 46, 52, 53, 54, 13, 55, 41, 42, 56, 57, 58, 59, 40, 43, 60, 61, 62, 63, 64, 87, 88, 89, 90, 91, 92, 93, 94, 95, 96, 75, 76, 77, 78, 79, 80, 81, 82, 83, 84, 85, 86] (by decide +kernel) (by decide +kernel)
set_option maxRecDepth 20000 in
theorem gX7_tick_X4_go : GoodIn wsX7_tick (wsV RX7 169 RX4 yX4_go wsX4_go) := goodIn_app (goodIn_of _ (by decide +kernel)) ggX7_tick_X4_go
theorem dX7_tick_0 : decode cX7_tick 0 = .ok (.aload_n 0, 1) := by decide +kernel
theorem dX7_tick_1 : decode cX7_tick 1 = .ok (.iload_n 1, 1) := by decide +kernel
theorem dX7_tick_2 : decode cX7_tick 2 = .ok (.invokevirtual 110, 3) := by decide +kernel
theorem dX7_tick_5 : decode cX7_tick 5 = .ok (.ifCond .ne 5, 3) := by decide +kernel
theorem dX7_tick_8 : decode cX7_tick 8 = .ok (.iconst (-1), 1) := by decide +kernel
theorem dX7_tick_9 : decode cX7_tick 9 = .ok (.ireturn, 1) := by decide +kernel
theorem dX7_tick_10 : decode cX7_tick 10 = .ok (.aload_n 0, 1) := by decide +kernel
theorem dX7_tick_11 : decode cX7_tick 11 = .ok (.getfield 58, 3) := by decide +kernel
theorem dX7_tick_14 : decode cX7_tick 14 = .ok (.aload_n 0, 1) := by decide +kernel
theorem dX7_tick_15 : decode cX7_tick 15 = .ok (.getfield 54, 3) := by decide +kernel
theorem dX7_tick_18 : decode cX7_tick 18 = .ok (.iload_n 1, 1) := by decide +kernel
theorem dX7_tick_19 : decode cX7_tick 19 = .ok (.invokevirtual 165, 3) := by decide +kernel
theorem dX7_tick_22 : decode cX7_tick 22 = .ok (.ifCond .ne 6, 3) := by decide +kernel
theorem dX7_tick_25 : decode cX7_tick 25 = .ok (.bipush (-2), 2) := by decide +kernel
theorem dX7_tick_27 : decode cX7_tick 27 = .ok (.ireturn, 1) := by decide +kernel
theorem dX7_tick_28 : decode cX7_tick 28 = .ok (.aload_n 0, 1) := by decide +kernel
theorem dX7_tick_29 : decode cX7_tick 29 = .ok (.getfield 19, 3) := by decide +kernel
theorem dX7_tick_32 : decode cX7_tick 32 = .ok (.aload_n 0, 1) := by decide +kernel
theorem dX7_tick_33 : decode cX7_tick 33 = .ok (.getfield 58, 3) := by decide +kernel
theorem dX7_tick_36 : decode cX7_tick 36 = .ok (.invokevirtual 120, 3) := by decide +kernel
theorem dX7_tick_39 : decode cX7_tick 39 = .ok (.aload_n 0, 1) := by decide +kernel
theorem dX7_tick_40 : decode cX7_tick 40 = .ok (.getfield 58, 3) := by decide +kernel
theorem dX7_tick_43 : decode cX7_tick 43 = .ok (.aload_n 0, 1) := by decide +kernel
theorem dX7_tick_44 : decode cX7_tick 44 = .ok (.getfield 54, 3) := by decide +kernel
theorem dX7_tick_47 : decode cX7_tick 47 = .ok (.iload_n 1, 1) := by decide +kernel
theorem dX7_tick_48 : decode cX7_tick 48 = .ok (.invokevirtual 169, 3) := by decide +kernel
theorem dX7_tick_51 : decode cX7_tick 51 = .ok (.ifCond .eq 7, 3) := by decide +kernel
theorem dX7_tick_54 : decode cX7_tick 54 = .ok (.iconst 1, 1) := by decide +kernel
theorem dX7_tick_55 : decode cX7_tick 55 = .ok (.goto 4, 3) := by decide +kernel
theorem dX7_tick_58 : decode cX7_tick 58 = .ok (.iconst 0, 1) := by decide +kernel
theorem dX7_tick_59 : decode cX7_tick 59 = .ok (.ireturn, 1) := by decide +kernel
set_option maxRecDepth 20000 in
theorem ggX7_page_X7_seek : GoodIn wsX7_page wsX7_seek := goodIn_r _ [11, 1, 12, 13, 3, 14, 15, 16, 17, 18, 19, 20, 21, 22, 23, 24, 25, 26, 27, 28, 29, 30, 31, 32, 33, 34, 35, 36, 37, 38, 39, 40, 41, 42, 43, 44, 45, 46, 47, 48, 49, 50, 51, 52, 53, 54, 55, 10, 56, 57, 58, 59, 60, 61, 62, 63, 64, 65, 66, 67, 68, 69, 70, 71, 72, 73, 74, 75, 76, 77, 78, 79, 80, 81, 82, 83, 84, 85, 86, 87, 88, 89, 90, 124, 125, 126, 127, 128, 129, 130, 131, 132, 133, 148, 149, 150, 151, 152, 153, 154, 155, 156, 157, 158, 159, 160, 161, 162, 163, 164, 165, 138, 139, 140, 141, 142, 143, 144, 145, 146, 147, 166, 134, 135, 136, 137] (by decide +kernel) (by decide +kernel)
set_option maxRecDepth 20000 in
theorem gX7_page_X7_seek : GoodIn wsX7_page (wsV RX7 172 RX7 yX7_seek wsX7_seek) := goodIn_app (goodIn_of _ (by decide +kernel)) ggX7_page_X7_seek
set_option maxRecDepth 20000 in
theorem ggX7_page_X3_cellsOf : GoodIn wsX7_page wsX3_cellsOf := goodIn_r _ [94, 67, 68, 75, 87, 88, 89, 65, 90, 55, 10, 56, 134, 135, 136, 137] (by decide +kernel) (by decide +kernel)
end
section
set_option maxRecDepth 20000 in
theorem gX7_page_X3_cellsOf : GoodIn wsX7_page (wsV RX7 178 RX3 yX3_cellsOf wsX3_cellsOf) := goodIn_app (goodIn_of _ (by decide +kernel)) ggX7_page_X3_cellsOf
set_option maxRecDepth 20000 in
theorem ggX7_page_J6_bitCount_0f7a4 : GoodIn wsX7_page wsJ6_bitCount_0f7a4 := goodIn_r _ [79, 80, 81, 82] (by decide +kernel) (by decide +kernel)
set_option maxRecDepth 20000 in
theorem gX7_page_J6_bitCount_0f7a4 : GoodIn wsX7_page (va_wsS RX7 182 yJ6_bitCount_0f7a4 wsJ6_bitCount_0f7a4) := goodIn_app (goodIn_of _ (by decide +kernel)) ggX7_page_J6_bitCount_0f7a4
set_option maxRecDepth 20000 in
theorem ggX7_page_X7_holds : GoodIn wsX7_page wsX7_holds := goodIn_r _ [56] (by decide +kernel) (by decide +kernel)
set_option maxRecDepth 20000 in
theorem gX7_page_X7_holds : GoodIn wsX7_page (va_wsS RX7 190 yX7_holds wsX7_holds) := goodIn_app (goodIn_of _ (by decide +kernel)) ggX7_page_X7_holds
set_option maxRecDepth 20000 in
theorem ggX7_page_X2_keep : GoodIn wsX7_page wsX2_keep := goodIn_r _ [101, 102, 103, 104, 105, 25, 26, 27, 106, 107, 108, 39, 109, 110, 111, 112, 113, 114, 42, 41, 45, 115, 43, 116, 117, 118, 119, 167, 168, 169, 138, 139, 140, 141, 142, 143, 144, 145, 146, 147] (by decide +kernel) (by decide +kernel)
set_option maxRecDepth 20000 in
theorem gX7_page_X2_keep : GoodIn wsX7_page (wsV RX7 120 RX2 yX2_keep wsX2_keep) := goodIn_app (goodIn_of _ (by decide +kernel)) ggX7_page_X2_keep
set_option maxRecDepth 20000 in
theorem ggX7_page_X4_register : GoodIn wsX7_page wsX4_register := goodIn_r _ [123, 115, 43, 116, 117, 138, 139, 140, 141, 142, 143, 144, 145, 146, 147] (by decide +kernel) (by decide +kernel)
set_option maxRecDepth 20000 in
theorem gX7_page_X4_register : GoodIn wsX7_page (wsV RX7 124 RX4 yX4_register wsX4_register) := goodIn_app (goodIn_of _ (by decide +kernel)) ggX7_page_X4_register
theorem dX7_page_0 : decode cX7_page 0 = .ok (.aload_n 0, 1) := by decide +kernel
theorem dX7_page_1 : decode cX7_page 1 = .ok (.invokevirtual 172, 3) := by decide +kernel
theorem dX7_page_4 : decode cX7_page 4 = .ok (.iconst 0, 1) := by decide +kernel
theorem dX7_page_5 : decode cX7_page 5 = .ok (.istore_n 1, 1) := by decide +kernel
theorem dX7_page_6 : decode cX7_page 6 = .ok (.iconst 0, 1) := by decide +kernel
theorem dX7_page_7 : decode cX7_page 7 = .ok (.istore_n 2, 1) := by decide +kernel
theorem dX7_page_8 : decode cX7_page 8 = .ok (.iload_n 2, 1) := by decide +kernel
theorem dX7_page_9 : decode cX7_page 9 = .ok (.aload_n 0, 1) := by decide +kernel
theorem dX7_page_10 : decode cX7_page 10 = .ok (.getfield 40, 3) := by decide +kernel
theorem dX7_page_13 : decode cX7_page 13 = .ok (.getfield 175, 3) := by decide +kernel
theorem dX7_page_16 : decode cX7_page 16 = .ok (.if_icmp .ge 42, 3) := by decide +kernel
theorem dX7_page_19 : decode cX7_page 19 = .ok (.aload_n 0, 1) := by decide +kernel
theorem dX7_page_20 : decode cX7_page 20 = .ok (.getfield 40, 3) := by decide +kernel
theorem dX7_page_23 : decode cX7_page 23 = .ok (.iload_n 2, 1) := by decide +kernel
theorem dX7_page_24 : decode cX7_page 24 = .ok (.invokevirtual 178, 3) := by decide +kernel
theorem dX7_page_27 : decode cX7_page 27 = .ok (.istore_n 3, 1) := by decide +kernel
theorem dX7_page_28 : decode cX7_page 28 = .ok (.iload_n 1, 1) := by decide +kernel
theorem dX7_page_29 : decode cX7_page 29 = .ok (.iload_n 3, 1) := by decide +kernel
theorem dX7_page_30 : decode cX7_page 30 = .ok (.invokestatic 182, 3) := by decide +kernel
theorem dX7_page_33 : decode cX7_page 33 = .ok (.iadd, 1) := by decide +kernel
theorem dX7_page_34 : decode cX7_page 34 = .ok (.istore_n 1, 1) := by decide +kernel
theorem dX7_page_35 : decode cX7_page 35 = .ok (.iload_n 3, 1) := by decide +kernel
theorem dX7_page_36 : decode cX7_page 36 = .ok (.aload_n 0, 1) := by decide +kernel
theorem dX7_page_37 : decode cX7_page 37 = .ok (.getfield 58, 3) := by decide +kernel
theorem dX7_page_40 : decode cX7_page 40 = .ok (.getfield 187, 3) := by decide +kernel
theorem dX7_page_43 : decode cX7_page 43 = .ok (.invokestatic 190, 3) := by decide +kernel
theorem dX7_page_46 : decode cX7_page 46 = .ok (.ifCond .eq 6, 3) := by decide +kernel
theorem dX7_page_49 : decode cX7_page 49 = .ok (.goto 9, 3) := by decide +kernel
theorem dX7_page_52 : decode cX7_page 52 = .ok (.iinc 2 1, 3) := by decide +kernel
theorem dX7_page_55 : decode cX7_page 55 = .ok (.goto (-47), 3) := by decide +kernel
theorem dX7_page_58 : decode cX7_page 58 = .ok (.aload_n 0, 1) := by decide +kernel
theorem dX7_page_59 : decode cX7_page 59 = .ok (.getfield 19, 3) := by decide +kernel
theorem dX7_page_62 : decode cX7_page 62 = .ok (.aload_n 0, 1) := by decide +kernel
theorem dX7_page_63 : decode cX7_page 63 = .ok (.getfield 58, 3) := by decide +kernel
theorem dX7_page_66 : decode cX7_page 66 = .ok (.invokevirtual 120, 3) := by decide +kernel
theorem dX7_page_69 : decode cX7_page 69 = .ok (.aload_n 0, 1) := by decide +kernel
theorem dX7_page_70 : decode cX7_page 70 = .ok (.getfield 58, 3) := by decide +kernel
theorem dX7_page_73 : decode cX7_page 73 = .ok (.dup, 1) := by decide +kernel
theorem dX7_page_74 : decode cX7_page 74 = .ok (.getfield 193, 3) := by decide +kernel
theorem dX7_page_77 : decode cX7_page 77 = .ok (.iload_n 1, 1) := by decide +kernel
theorem dX7_page_78 : decode cX7_page 78 = .ok (.iadd, 1) := by decide +kernel
theorem dX7_page_79 : decode cX7_page 79 = .ok (.putfield 193, 3) := by decide +kernel
theorem dX7_page_82 : decode cX7_page 82 = .ok (.aload_n 0, 1) := by decide +kernel
theorem dX7_page_83 : decode cX7_page 83 = .ok (.getfield 58, 3) := by decide +kernel
theorem dX7_page_86 : decode cX7_page 86 = .ok (.invokevirtual 124, 3) := by decide +kernel
theorem dX7_page_89 : decode cX7_page 89 = .ok (.iload_n 1, 1) := by decide +kernel
theorem dX7_page_90 : decode cX7_page 90 = .ok (.ireturn, 1) := by decide +kernel
theorem dX7_handset_0 : decode cX7_handset 0 = .ok (.iload_n 1, 1) := by decide +kernel
theorem dX7_handset_1 : decode cX7_handset 1 = .ok (.tableswitch 123 0 6 #[43, 51, 59, 67, 75, 83, 91], 43) := by decide +kernel
theorem dX7_handset_44 : decode cX7_handset 44 = .ok (.aload_n 0, 1) := by decide +kernel
theorem dX7_handset_45 : decode cX7_handset 45 = .ok (.getfield 58, 3) := by decide +kernel
theorem dX7_handset_48 : decode cX7_handset 48 = .ok (.getfield 187, 3) := by decide +kernel
theorem dX7_handset_51 : decode cX7_handset 51 = .ok (.ireturn, 1) := by decide +kernel
theorem dX7_handset_52 : decode cX7_handset 52 = .ok (.aload_n 0, 1) := by decide +kernel
theorem dX7_handset_53 : decode cX7_handset 53 = .ok (.getfield 58, 3) := by decide +kernel
theorem dX7_handset_56 : decode cX7_handset 56 = .ok (.getfield 196, 3) := by decide +kernel
theorem dX7_handset_59 : decode cX7_handset 59 = .ok (.ireturn, 1) := by decide +kernel
theorem dX7_handset_60 : decode cX7_handset 60 = .ok (.aload_n 0, 1) := by decide +kernel
theorem dX7_handset_61 : decode cX7_handset 61 = .ok (.getfield 58, 3) := by decide +kernel
theorem dX7_handset_64 : decode cX7_handset 64 = .ok (.getfield 199, 3) := by decide +kernel
theorem dX7_handset_67 : decode cX7_handset 67 = .ok (.ireturn, 1) := by decide +kernel
theorem dX7_handset_68 : decode cX7_handset 68 = .ok (.aload_n 0, 1) := by decide +kernel
theorem dX7_handset_69 : decode cX7_handset 69 = .ok (.getfield 58, 3) := by decide +kernel
theorem dX7_handset_72 : decode cX7_handset 72 = .ok (.getfield 202, 3) := by decide +kernel
theorem dX7_handset_75 : decode cX7_handset 75 = .ok (.ireturn, 1) := by decide +kernel
theorem dX7_handset_76 : decode cX7_handset 76 = .ok (.aload_n 0, 1) := by decide +kernel
theorem dX7_handset_77 : decode cX7_handset 77 = .ok (.getfield 58, 3) := by decide +kernel
theorem dX7_handset_80 : decode cX7_handset 80 = .ok (.getfield 205, 3) := by decide +kernel
theorem dX7_handset_83 : decode cX7_handset 83 = .ok (.ireturn, 1) := by decide +kernel
theorem dX7_handset_84 : decode cX7_handset 84 = .ok (.aload_n 0, 1) := by decide +kernel
theorem dX7_handset_85 : decode cX7_handset 85 = .ok (.getfield 58, 3) := by decide +kernel
theorem dX7_handset_88 : decode cX7_handset 88 = .ok (.getfield 193, 3) := by decide +kernel
theorem dX7_handset_91 : decode cX7_handset 91 = .ok (.ireturn, 1) := by decide +kernel
theorem dX7_handset_92 : decode cX7_handset 92 = .ok (.aload_n 0, 1) := by decide +kernel
theorem dX7_handset_93 : decode cX7_handset 93 = .ok (.getfield 54, 3) := by decide +kernel
theorem dX7_handset_96 : decode cX7_handset 96 = .ok (.getfield 208, 3) := by decide +kernel
theorem dX7_handset_99 : decode cX7_handset 99 = .ok (.aload_n 0, 1) := by decide +kernel
theorem dX7_handset_100 : decode cX7_handset 100 = .ok (.getfield 58, 3) := by decide +kernel
theorem dX7_handset_103 : decode cX7_handset 103 = .ok (.getfield 193, 3) := by decide +kernel
theorem dX7_handset_106 : decode cX7_handset 106 = .ok (.imul, 1) := by decide +kernel
theorem dX7_handset_107 : decode cX7_handset 107 = .ok (.aload_n 0, 1) := by decide +kernel
theorem dX7_handset_108 : decode cX7_handset 108 = .ok (.getfield 54, 3) := by decide +kernel
theorem dX7_handset_111 : decode cX7_handset 111 = .ok (.getfield 211, 3) := by decide +kernel
theorem dX7_handset_114 : decode cX7_handset 114 = .ok (.aload_n 0, 1) := by decide +kernel
theorem dX7_handset_115 : decode cX7_handset 115 = .ok (.getfield 58, 3) := by decide +kernel
theorem dX7_handset_118 : decode cX7_handset 118 = .ok (.getfield 205, 3) := by decide +kernel
theorem dX7_handset_121 : decode cX7_handset 121 = .ok (.imul, 1) := by decide +kernel
theorem dX7_handset_122 : decode cX7_handset 122 = .ok (.iadd, 1) := by decide +kernel
theorem dX7_handset_123 : decode cX7_handset 123 = .ok (.ireturn, 1) := by decide +kernel
theorem dX7_handset_124 : decode cX7_handset 124 = .ok (.iconst (-1), 1) := by decide +kernel
theorem dX7_handset_125 : decode cX7_handset 125 = .ok (.ireturn, 1) := by decide +kernel
set_option maxRecDepth 20000 in
theorem ggX7_where_X6_find : GoodIn wsX7_where wsX6_find := goodIn_r _ [8, 9, 10, 11, 12, 13, 14, 15, 16, 17, 18, 19, 20, 7, 21, 22, 23, 24, 25, 26, 27, 28, 29, 30, 31, 32, 33, 34, 35, 36, 37, 38, 39, 40, 41, 42, 43, 44, 45, 46, 47, 48, 49, 60, 61, 62, 63, 64, 65, 66, 67, 68, 69, 70, 71, 72, 73, 74, 75, 76, 77, 78, 79, 80, 81, 82] (by decide +kernel) (by decide +kernel)
set_option maxRecDepth 20000 in
theorem gX7_where_X6_find : GoodIn wsX7_where (wsV RX7 214 RX6 yX6_find wsX6_find) := goodIn_app (goodIn_of _ (by decide +kernel)) ggX7_where_X6_find
theorem dX7_where_0 : decode cX7_where 0 = .ok (.aload_n 0, 1) := by decide +kernel
theorem dX7_where_1 : decode cX7_where 1 = .ok (.getfield 33, 3) := by decide +kernel
theorem dX7_where_4 : decode cX7_where 4 = .ok (.aload_n 0, 1) := by decide +kernel
theorem dX7_where_5 : decode cX7_where 5 = .ok (.getfield 54, 3) := by decide +kernel
theorem dX7_where_8 : decode cX7_where 8 = .ok (.aload_n 0, 1) := by decide +kernel
theorem dX7_where_9 : decode cX7_where 9 = .ok (.getfield 58, 3) := by decide +kernel
theorem dX7_where_12 : decode cX7_where 12 = .ok (.invokevirtual 214, 3) := by decide +kernel
theorem dX7_where_15 : decode cX7_where 15 = .ok (.ireturn, 1) := by decide +kernel
set_option maxRecDepth 20000 in
theorem ggX7_round_X7_seek : GoodIn wsX7_round wsX7_seek := goodIn_r _ [7, 1, 8, 9, 10, 11, 12, 13, 14, 15, 16, 17, 18, 19, 20, 21, 22, 23, 24, 25, 26, 27, 28, 29, 30, 31, 32, 33, 34, 35, 36, 37, 38, 39, 40, 41, 42, 43, 44, 45, 46, 47, 48, 49, 50, 51, 52, 6, 53, 54, 55, 56, 57, 58, 59, 60, 61, 62, 63, 64, 65, 66, 67, 68, 69, 70, 71, 72, 73, 74, 75, 76, 77, 78, 79, 80, 81, 82, 83, 84, 85, 86, 87, 92, 93, 94, 95, 96, 97, 98, 99, 100, 101, 106, 107, 108, 109, 110, 111, 112, 113, 114, 115, 116, 117, 118, 119, 120, 121, 122, 123, 124, 125, 126, 127, 128, 129, 130, 131, 132, 133, 134, 102, 103, 104, 105] (by decide +kernel) (by decide +kernel)
set_option maxRecDepth 20000 in
theorem gX7_round_X7_seek : GoodIn wsX7_round (wsV RX7 172 RX7 yX7_seek wsX7_seek) := goodIn_app (goodIn_of _ (by decide +kernel)) ggX7_round_X7_seek
set_option maxRecDepth 20000 in
theorem ggX7_round_X3_cellsOf : GoodIn wsX7_round wsX3_cellsOf := goodIn_r _ [91, 64, 65, 72, 84, 85, 86, 62, 87, 52, 6, 53, 102, 103, 104, 105] (by decide +kernel) (by decide +kernel)
set_option maxRecDepth 20000 in
theorem gX7_round_X3_cellsOf : GoodIn wsX7_round (wsV RX7 178 RX3 yX3_cellsOf wsX3_cellsOf) := goodIn_app (goodIn_of _ (by decide +kernel)) ggX7_round_X3_cellsOf
theorem dX7_round_0 : decode cX7_round 0 = .ok (.iload_n 1, 1) := by decide +kernel
theorem dX7_round_1 : decode cX7_round 1 = .ok (.iconst (-1), 1) := by decide +kernel
theorem dX7_round_2 : decode cX7_round 2 = .ok (.if_icmp .ge 5, 3) := by decide +kernel
theorem dX7_round_5 : decode cX7_round 5 = .ok (.iconst (-1), 1) := by decide +kernel
theorem dX7_round_6 : decode cX7_round 6 = .ok (.ireturn, 1) := by decide +kernel
theorem dX7_round_7 : decode cX7_round 7 = .ok (.aload_n 0, 1) := by decide +kernel
theorem dX7_round_8 : decode cX7_round 8 = .ok (.invokevirtual 172, 3) := by decide +kernel
theorem dX7_round_11 : decode cX7_round 11 = .ok (.iload_n 1, 1) := by decide +kernel
theorem dX7_round_12 : decode cX7_round 12 = .ok (.iconst (-1), 1) := by decide +kernel
theorem dX7_round_13 : decode cX7_round 13 = .ok (.if_icmp .ne 11, 3) := by decide +kernel
theorem dX7_round_16 : decode cX7_round 16 = .ok (.aload_n 0, 1) := by decide +kernel
theorem dX7_round_17 : decode cX7_round 17 = .ok (.getfield 40, 3) := by decide +kernel
theorem dX7_round_20 : decode cX7_round 20 = .ok (.getfield 175, 3) := by decide +kernel
theorem dX7_round_23 : decode cX7_round 23 = .ok (.ireturn, 1) := by decide +kernel
theorem dX7_round_24 : decode cX7_round 24 = .ok (.iload_n 1, 1) := by decide +kernel
theorem dX7_round_25 : decode cX7_round 25 = .ok (.aload_n 0, 1) := by decide +kernel
theorem dX7_round_26 : decode cX7_round 26 = .ok (.getfield 40, 3) := by decide +kernel
theorem dX7_round_29 : decode cX7_round 29 = .ok (.getfield 175, 3) := by decide +kernel
theorem dX7_round_32 : decode cX7_round 32 = .ok (.if_icmp .ge 14, 3) := by decide +kernel
theorem dX7_round_35 : decode cX7_round 35 = .ok (.aload_n 0, 1) := by decide +kernel
theorem dX7_round_36 : decode cX7_round 36 = .ok (.getfield 40, 3) := by decide +kernel
theorem dX7_round_39 : decode cX7_round 39 = .ok (.iload_n 1, 1) := by decide +kernel
theorem dX7_round_40 : decode cX7_round 40 = .ok (.invokevirtual 178, 3) := by decide +kernel
theorem dX7_round_43 : decode cX7_round 43 = .ok (.goto 5, 3) := by decide +kernel
theorem dX7_round_46 : decode cX7_round 46 = .ok (.bipush (-4), 2) := by decide +kernel
theorem dX7_round_48 : decode cX7_round 48 = .ok (.ireturn, 1) := by decide +kernel
set_option maxRecDepth 20000 in
theorem ggX7_seek_X6_find : GoodIn wsX7_seek wsX6_find := goodIn_r _ [12, 13, 14, 15, 16, 17, 18, 19, 20, 21, 22, 23, 24, 11, 25, 26, 27, 28, 29, 30, 31, 32, 33, 34, 35, 36, 37, 38, 39, 40, 41, 42, 43, 44, 45, 46, 47, 48, 49, 50, 51, 52, 53, 111, 112, 113, 114, 115, 116, 117, 118, 119, 120, 121, 99, 100, 101, 102, 103, 104, 105, 106, 107, 108, 109, 110] (by decide +kernel) (by decide +kernel)
set_option maxRecDepth 20000 in
theorem gX7_seek_X6_find : GoodIn wsX7_seek (wsV RX7 214 RX6 yX6_find wsX6_find) := goodIn_app (goodIn_of _ (by decide +kernel)) ggX7_seek_X6_find
set_option maxRecDepth 20000 in
theorem ggX7_seek_X3_lineUp : GoodIn wsX7_seek wsX3_lineUp := goodIn_r _ [58, 59, 60, 46, 47, 48, 122, 123, 124, 125] (by decide +kernel) (by decide +kernel)
set_option maxRecDepth 20000 in
theorem gX7_seek_X3_lineUp : GoodIn wsX7_seek (wsV RX7 221 RX3 yX3_lineUp wsX3_lineUp) := goodIn_app (goodIn_of _ (by decide +kernel)) ggX7_seek_X3_lineUp
set_option maxRecDepth 20000 in
theorem ggX7_seek_X3_split : GoodIn wsX7_seek wsX3_split := goodIn_r _ [64, 65, 66, 67, 59, 68, 69, 70, 71, 72, 73, 74, 75, 76, 77, 57, 78, 60, 79, 80, 81, 82, 46, 47, 48, 122, 123, 124, 125] (by decide +kernel) (by decide +kernel)
set_option maxRecDepth 20000 in
theorem gX7_seek_X3_split : GoodIn wsX7_seek (wsV RX7 228 RX3 yX3_split wsX3_split) := goodIn_app (goodIn_of _ (by decide +kernel)) ggX7_seek_X3_split
theorem dX7_seek_0 : decode cX7_seek 0 = .ok (.aload_n 0, 1) := by decide +kernel
theorem dX7_seek_1 : decode cX7_seek 1 = .ok (.getfield 40, 3) := by decide +kernel
theorem dX7_seek_4 : decode cX7_seek 4 = .ok (.aload_n 0, 1) := by decide +kernel
theorem dX7_seek_5 : decode cX7_seek 5 = .ok (.getfield 33, 3) := by decide +kernel
theorem dX7_seek_8 : decode cX7_seek 8 = .ok (.aload_n 0, 1) := by decide +kernel
theorem dX7_seek_9 : decode cX7_seek 9 = .ok (.getfield 54, 3) := by decide +kernel
theorem dX7_seek_12 : decode cX7_seek 12 = .ok (.aload_n 0, 1) := by decide +kernel
theorem dX7_seek_13 : decode cX7_seek 13 = .ok (.getfield 58, 3) := by decide +kernel
theorem dX7_seek_16 : decode cX7_seek 16 = .ok (.invokevirtual 214, 3) := by decide +kernel
theorem dX7_seek_19 : decode cX7_seek 19 = .ok (.aload_n 0, 1) := by decide +kernel
theorem dX7_seek_20 : decode cX7_seek 20 = .ok (.getfield 26, 3) := by decide +kernel
theorem dX7_seek_23 : decode cX7_seek 23 = .ok (.getfield 217, 3) := by decide +kernel
theorem dX7_seek_26 : decode cX7_seek 26 = .ok (.invokevirtual 221, 3) := by decide +kernel
theorem dX7_seek_29 : decode cX7_seek 29 = .ok (.aload_n 0, 1) := by decide +kernel
theorem dX7_seek_30 : decode cX7_seek 30 = .ok (.getfield 40, 3) := by decide +kernel
theorem dX7_seek_33 : decode cX7_seek 33 = .ok (.aload_n 0, 1) := by decide +kernel
theorem dX7_seek_34 : decode cX7_seek 34 = .ok (.getfield 54, 3) := by decide +kernel
theorem dX7_seek_37 : decode cX7_seek 37 = .ok (.getfield 225, 3) := by decide +kernel
theorem dX7_seek_40 : decode cX7_seek 40 = .ok (.aload_n 0, 1) := by decide +kernel
theorem dX7_seek_41 : decode cX7_seek 41 = .ok (.getfield 26, 3) := by decide +kernel
theorem dX7_seek_44 : decode cX7_seek 44 = .ok (.getfield 217, 3) := by decide +kernel
theorem dX7_seek_47 : decode cX7_seek 47 = .ok (.invokevirtual 228, 3) := by decide +kernel
theorem dX7_seek_50 : decode cX7_seek 50 = .ok (.return_, 1) := by decide +kernel
set_option maxRecDepth 20000 in
theorem ggX7_chance_X7_isCell : GoodIn wsX7_chance wsX7_isCell := goodIn_r _ [9, 10, 11, 21, 22, 23, 24, 25, 26, 27, 28, 29, 30, 37, 38, 39, 40, 41, 42, 43, 44, 45, 46, 47, 48] (by decide +kernel) (by decide +kernel)
set_option maxRecDepth 20000 in
theorem gX7_chance_X7_isCell : GoodIn wsX7_chance (wsV RX7 110 RX7 yX7_isCell wsX7_isCell) := goodIn_app (goodIn_of _ (by decide +kernel)) ggX7_chance_X7_isCell
set_option maxRecDepth 20000 in
theorem ggX7_chance_X7_isPart : GoodIn wsX7_chance wsX7_isPart := goodIn_r _ [14] (by decide +kernel) (by decide +kernel)
set_option maxRecDepth 20000 in
theorem gX7_chance_X7_isPart : GoodIn wsX7_chance (va_wsS RX7 231 yX7_isPart wsX7_isPart) := goodIn_app (goodIn_of _ (by decide +kernel)) ggX7_chance_X7_isPart
set_option maxRecDepth 20000 in
theorem ggX7_chance_X7_lowest : GoodIn wsX7_chance wsX7_lowest := goodIn_r _ [17, 18, 19, 8, 20] (by decide +kernel) (by decide +kernel)
set_option maxRecDepth 20000 in
theorem gX7_chance_X7_lowest : GoodIn wsX7_chance (va_wsS RX7 240 yX7_lowest wsX7_lowest) := goodIn_app (goodIn_of _ (by decide +kernel)) ggX7_chance_X7_lowest
theorem dX7_chance_0 : decode cX7_chance 0 = .ok (.aload_n 0, 1) := by decide +kernel
theorem dX7_chance_1 : decode cX7_chance 1 = .ok (.iload_n 1, 1) := by decide +kernel
theorem dX7_chance_2 : decode cX7_chance 2 = .ok (.invokevirtual 110, 3) := by decide +kernel
theorem dX7_chance_5 : decode cX7_chance 5 = .ok (.ifCond .eq 10, 3) := by decide +kernel
theorem dX7_chance_8 : decode cX7_chance 8 = .ok (.iload_n 2, 1) := by decide +kernel
theorem dX7_chance_9 : decode cX7_chance 9 = .ok (.invokestatic 231, 3) := by decide +kernel
theorem dX7_chance_12 : decode cX7_chance 12 = .ok (.ifCond .ne 7, 3) := by decide +kernel
theorem dX7_chance_15 : decode cX7_chance 15 = .ok (.ldc2_w 234, 3) := by decide +kernel
theorem dX7_chance_18 : decode cX7_chance 18 = .ok (.lreturn, 1) := by decide +kernel
theorem dX7_chance_19 : decode cX7_chance 19 = .ok (.aload_n 0, 1) := by decide +kernel
theorem dX7_chance_20 : decode cX7_chance 20 = .ok (.getfield 26, 3) := by decide +kernel
theorem dX7_chance_23 : decode cX7_chance 23 = .ok (.getfield 217, 3) := by decide +kernel
theorem dX7_chance_26 : decode cX7_chance 26 = .ok (.iload_n 1, 1) := by decide +kernel
theorem dX7_chance_27 : decode cX7_chance 27 = .ok (.laload, 1) := by decide +kernel
theorem dX7_chance_28 : decode cX7_chance 28 = .ok (.aload_n 0, 1) := by decide +kernel
theorem dX7_chance_29 : decode cX7_chance 29 = .ok (.getfield 26, 3) := by decide +kernel
theorem dX7_chance_32 : decode cX7_chance 32 = .ok (.getfield 236, 3) := by decide +kernel
theorem dX7_chance_35 : decode cX7_chance 35 = .ok (.iload_n 2, 1) := by decide +kernel
theorem dX7_chance_36 : decode cX7_chance 36 = .ok (.invokestatic 240, 3) := by decide +kernel
theorem dX7_chance_39 : decode cX7_chance 39 = .ok (.lreturn, 1) := by decide +kernel
set_option maxRecDepth 20000 in
theorem ggX7_mean_X7_isPart : GoodIn wsX7_mean wsX7_isPart := goodIn_r _ [11] (by decide +kernel) (by decide +kernel)
set_option maxRecDepth 20000 in
theorem gX7_mean_X7_isPart : GoodIn wsX7_mean (va_wsS RX7 231 yX7_isPart wsX7_isPart) := goodIn_app (goodIn_of _ (by decide +kernel)) ggX7_mean_X7_isPart
set_option maxRecDepth 20000 in
theorem ggX7_mean_X0_crosses : GoodIn wsX7_mean wsX0_crosses := goodIn_r _ [16, 17, 18, 19, 75, 76, 77, 78, 79, 80, 81, 82, 83, 84, 85, 86] (by decide +kernel) (by decide +kernel)
set_option maxRecDepth 20000 in
theorem gX7_mean_X0_crosses : GoodIn wsX7_mean (wsV RX7 244 RX0 yX0_crosses wsX0_crosses) := goodIn_app (goodIn_of _ (by decide +kernel)) ggX7_mean_X0_crosses
set_option maxRecDepth 20000 in
theorem ggX7_mean_X7_lowest : GoodIn wsX7_mean wsX7_lowest := goodIn_r _ [22, 23, 24, 10, 25] (by decide +kernel) (by decide +kernel)
set_option maxRecDepth 20000 in
theorem gX7_mean_X7_lowest : GoodIn wsX7_mean (va_wsS RX7 240 yX7_lowest wsX7_lowest) := goodIn_app (goodIn_of _ (by decide +kernel)) ggX7_mean_X7_lowest
set_option maxRecDepth 20000 in
theorem ggX7_mean_X0_movesOn : GoodIn wsX7_mean wsX0_movesOn := goodIn_r _ [29, 17, 18, 30, 75, 76, 77, 78, 79, 80, 81, 82, 83, 84, 85, 86] (by decide +kernel) (by decide +kernel)
set_option maxRecDepth 20000 in
theorem gX7_mean_X0_movesOn : GoodIn wsX7_mean (wsV RX7 248 RX0 yX0_movesOn wsX0_movesOn) := goodIn_app (goodIn_of _ (by decide +kernel)) ggX7_mean_X0_movesOn
set_option maxRecDepth 20000 in
theorem ggX7_mean_X7_rate : GoodIn wsX7_mean wsX7_rate := goodIn_r _ [34, 4, 35, 2, 3, 5, 6, 36, 37, 12, 13, 14, 15, 16, 17, 18, 19, 20, 21, 10, 22, 23, 24, 25, 26, 27, 28, 29, 30, 49, 50, 51, 52, 53, 54, 55, 56, 57, 58, 59, 60, 61, 62, 63, 64, 65, 66, 67, 68, 69, 70, 71, 72, 73, 74, 75, 76, 77, 78, 79, 80, 81, 82, 83, 84, 85, 86] (by decide +kernel) (by decide +kernel)
set_option maxRecDepth 20000 in
theorem gX7_mean_X7_rate : GoodIn wsX7_mean (wsV RX7 252 RX7 yX7_rate wsX7_rate) := goodIn_app (goodIn_of _ (by decide +kernel)) ggX7_mean_X7_rate
set_option maxRecDepth 20000 in
theorem ggX7_mean_X0_expense : GoodIn wsX7_mean wsX0_expense := goodIn_r _ [41, 17, 42, 43, 44, 45, 46, 10, 47, 48, 13, 14, 15, 16, 18, 19, 75, 76, 77, 78, 79, 80, 81, 82, 83, 84, 85, 86, 69, 70, 71, 72, 73, 74] (by decide +kernel) (by decide +kernel)
set_option maxRecDepth 20000 in
theorem gX7_mean_X0_expense : GoodIn wsX7_mean (wsV RX7 256 RX0 yX0_expense wsX0_expense) := goodIn_app (goodIn_of _ (by decide +kernel)) ggX7_mean_X0_expense
theorem dX7_mean_0 : decode cX7_mean 0 = .ok (.iload_n 2, 1) := by decide +kernel
theorem dX7_mean_1 : decode cX7_mean 1 = .ok (.invokestatic 231, 3) := by decide +kernel
theorem dX7_mean_4 : decode cX7_mean 4 = .ok (.ifCond .ne 7, 3) := by decide +kernel
theorem dX7_mean_7 : decode cX7_mean 7 = .ok (.ldc2_w 234, 3) := by decide +kernel
theorem dX7_mean_10 : decode cX7_mean 10 = .ok (.lreturn, 1) := by decide +kernel
theorem dX7_mean_11 : decode cX7_mean 11 = .ok (.iload_n 1, 1) := by decide +kernel
theorem dX7_mean_12 : decode cX7_mean 12 = .ok (.tableswitch 125 0 3 #[32, 62, 85, 91], 32) := by decide +kernel
theorem dX7_mean_44 : decode cX7_mean 44 = .ok (.aload_n 0, 1) := by decide +kernel
theorem dX7_mean_45 : decode cX7_mean 45 = .ok (.getfield 26, 3) := by decide +kernel
theorem dX7_mean_48 : decode cX7_mean 48 = .ok (.aload_n 0, 1) := by decide +kernel
theorem dX7_mean_49 : decode cX7_mean 49 = .ok (.getfield 54, 3) := by decide +kernel
theorem dX7_mean_52 : decode cX7_mean 52 = .ok (.aload_n 0, 1) := by decide +kernel
theorem dX7_mean_53 : decode cX7_mean 53 = .ok (.getfield 58, 3) := by decide +kernel
theorem dX7_mean_56 : decode cX7_mean 56 = .ok (.getfield 117, 3) := by decide +kernel
theorem dX7_mean_59 : decode cX7_mean 59 = .ok (.invokevirtual 244, 3) := by decide +kernel
theorem dX7_mean_62 : decode cX7_mean 62 = .ok (.aload_n 0, 1) := by decide +kernel
theorem dX7_mean_63 : decode cX7_mean 63 = .ok (.getfield 26, 3) := by decide +kernel
theorem dX7_mean_66 : decode cX7_mean 66 = .ok (.getfield 236, 3) := by decide +kernel
theorem dX7_mean_69 : decode cX7_mean 69 = .ok (.iload_n 2, 1) := by decide +kernel
theorem dX7_mean_70 : decode cX7_mean 70 = .ok (.invokestatic 240, 3) := by decide +kernel
theorem dX7_mean_73 : decode cX7_mean 73 = .ok (.lreturn, 1) := by decide +kernel
theorem dX7_mean_74 : decode cX7_mean 74 = .ok (.aload_n 0, 1) := by decide +kernel
theorem dX7_mean_75 : decode cX7_mean 75 = .ok (.getfield 26, 3) := by decide +kernel
theorem dX7_mean_78 : decode cX7_mean 78 = .ok (.aload_n 0, 1) := by decide +kernel
theorem dX7_mean_79 : decode cX7_mean 79 = .ok (.getfield 54, 3) := by decide +kernel
theorem dX7_mean_82 : decode cX7_mean 82 = .ok (.invokevirtual 248, 3) := by decide +kernel
theorem dX7_mean_85 : decode cX7_mean 85 = .ok (.aload_n 0, 1) := by decide +kernel
theorem dX7_mean_86 : decode cX7_mean 86 = .ok (.getfield 26, 3) := by decide +kernel
theorem dX7_mean_89 : decode cX7_mean 89 = .ok (.getfield 236, 3) := by decide +kernel
theorem dX7_mean_92 : decode cX7_mean 92 = .ok (.iload_n 2, 1) := by decide +kernel
theorem dX7_mean_93 : decode cX7_mean 93 = .ok (.invokestatic 240, 3) := by decide +kernel
theorem dX7_mean_96 : decode cX7_mean 96 = .ok (.lreturn, 1) := by decide +kernel
theorem dX7_mean_97 : decode cX7_mean 97 = .ok (.aload_n 0, 1) := by decide +kernel
theorem dX7_mean_98 : decode cX7_mean 98 = .ok (.iload_n 2, 1) := by decide +kernel
theorem dX7_mean_99 : decode cX7_mean 99 = .ok (.invokevirtual 252, 3) := by decide +kernel
theorem dX7_mean_102 : decode cX7_mean 102 = .ok (.lreturn, 1) := by decide +kernel
theorem dX7_mean_103 : decode cX7_mean 103 = .ok (.aload_n 0, 1) := by decide +kernel
theorem dX7_mean_104 : decode cX7_mean 104 = .ok (.getfield 26, 3) := by decide +kernel
theorem dX7_mean_107 : decode cX7_mean 107 = .ok (.aload_n 0, 1) := by decide +kernel
theorem dX7_mean_108 : decode cX7_mean 108 = .ok (.getfield 54, 3) := by decide +kernel
theorem dX7_mean_111 : decode cX7_mean 111 = .ok (.aload_n 0, 1) := by decide +kernel
theorem dX7_mean_112 : decode cX7_mean 112 = .ok (.getfield 58, 3) := by decide +kernel
theorem dX7_mean_115 : decode cX7_mean 115 = .ok (.getfield 117, 3) := by decide +kernel
theorem dX7_mean_118 : decode cX7_mean 118 = .ok (.invokevirtual 256, 3) := by decide +kernel
theorem dX7_mean_121 : decode cX7_mean 121 = .ok (.ldc2_w 259, 3) := by decide +kernel
theorem dX7_mean_124 : decode cX7_mean 124 = .ok (.aload_n 0, 1) := by decide +kernel
theorem dX7_mean_125 : decode cX7_mean 125 = .ok (.getfield 26, 3) := by decide +kernel
theorem dX7_mean_128 : decode cX7_mean 128 = .ok (.getfield 236, 3) := by decide +kernel
theorem dX7_mean_131 : decode cX7_mean 131 = .ok (.lmul, 1) := by decide +kernel
theorem dX7_mean_132 : decode cX7_mean 132 = .ok (.iload_n 2, 1) := by decide +kernel
theorem dX7_mean_133 : decode cX7_mean 133 = .ok (.invokestatic 240, 3) := by decide +kernel
theorem dX7_mean_136 : decode cX7_mean 136 = .ok (.lreturn, 1) := by decide +kernel
theorem dX7_mean_137 : decode cX7_mean 137 = .ok (.ldc2_w 234, 3) := by decide +kernel
theorem dX7_mean_140 : decode cX7_mean 140 = .ok (.lreturn, 1) := by decide +kernel
set_option maxRecDepth 20000 in
theorem ggX7_rate_X0_crosses : GoodIn wsX7_rate wsX0_crosses := goodIn_r _ [13, 14, 15, 16, 55, 56, 57, 58, 59, 60, 61, 62, 63, 64, 65, 66] (by decide +kernel) (by decide +kernel)
set_option maxRecDepth 20000 in
theorem gX7_rate_X0_crosses : GoodIn wsX7_rate (wsV RX7 244 RX0 yX0_crosses wsX0_crosses) := goodIn_app (goodIn_of _ (by decide +kernel)) ggX7_rate_X0_crosses
set_option maxRecDepth 20000 in
theorem ggX7_rate_X7_lowest : GoodIn wsX7_rate wsX7_lowest := goodIn_r _ [20, 21, 22, 19, 23] (by decide +kernel) (by decide +kernel)
set_option maxRecDepth 20000 in
theorem gX7_rate_X7_lowest : GoodIn wsX7_rate (va_wsS RX7 240 yX7_lowest wsX7_lowest) := goodIn_app (goodIn_of _ (by decide +kernel)) ggX7_rate_X7_lowest
set_option maxRecDepth 20000 in
theorem ggX7_rate_X0_movesOn : GoodIn wsX7_rate wsX0_movesOn := goodIn_r _ [27, 14, 15, 28, 55, 56, 57, 58, 59, 60, 61, 62, 63, 64, 65, 66] (by decide +kernel) (by decide +kernel)
set_option maxRecDepth 20000 in
theorem gX7_rate_X0_movesOn : GoodIn wsX7_rate (wsV RX7 248 RX0 yX0_movesOn wsX0_movesOn) := goodIn_app (goodIn_of _ (by decide +kernel)) ggX7_rate_X0_movesOn
theorem dX7_rate_0 : decode cX7_rate 0 = .ok (.aload_n 0, 1) := by decide +kernel
theorem dX7_rate_1 : decode cX7_rate 1 = .ok (.getfield 58, 3) := by decide +kernel
theorem dX7_rate_4 : decode cX7_rate 4 = .ok (.getfield 131, 3) := by decide +kernel
theorem dX7_rate_7 : decode cX7_rate 7 = .ok (.tableswitch 101 0 2 #[25, 55, 87], 25) := by decide +kernel
theorem dX7_rate_32 : decode cX7_rate 32 = .ok (.aload_n 0, 1) := by decide +kernel
theorem dX7_rate_33 : decode cX7_rate 33 = .ok (.getfield 26, 3) := by decide +kernel
theorem dX7_rate_36 : decode cX7_rate 36 = .ok (.aload_n 0, 1) := by decide +kernel
theorem dX7_rate_37 : decode cX7_rate 37 = .ok (.getfield 54, 3) := by decide +kernel
theorem dX7_rate_40 : decode cX7_rate 40 = .ok (.aload_n 0, 1) := by decide +kernel
theorem dX7_rate_41 : decode cX7_rate 41 = .ok (.getfield 58, 3) := by decide +kernel
theorem dX7_rate_44 : decode cX7_rate 44 = .ok (.getfield 117, 3) := by decide +kernel
theorem dX7_rate_47 : decode cX7_rate 47 = .ok (.invokevirtual 244, 3) := by decide +kernel
theorem dX7_rate_50 : decode cX7_rate 50 = .ok (.aload_n 0, 1) := by decide +kernel
theorem dX7_rate_51 : decode cX7_rate 51 = .ok (.getfield 26, 3) := by decide +kernel
theorem dX7_rate_54 : decode cX7_rate 54 = .ok (.getfield 236, 3) := by decide +kernel
theorem dX7_rate_57 : decode cX7_rate 57 = .ok (.iload_n 1, 1) := by decide +kernel
theorem dX7_rate_58 : decode cX7_rate 58 = .ok (.invokestatic 240, 3) := by decide +kernel
theorem dX7_rate_61 : decode cX7_rate 61 = .ok (.lreturn, 1) := by decide +kernel
theorem dX7_rate_62 : decode cX7_rate 62 = .ok (.aload_n 0, 1) := by decide +kernel
theorem dX7_rate_63 : decode cX7_rate 63 = .ok (.getfield 26, 3) := by decide +kernel
theorem dX7_rate_66 : decode cX7_rate 66 = .ok (.aload_n 0, 1) := by decide +kernel
theorem dX7_rate_67 : decode cX7_rate 67 = .ok (.getfield 54, 3) := by decide +kernel
theorem dX7_rate_70 : decode cX7_rate 70 = .ok (.invokevirtual 248, 3) := by decide +kernel
theorem dX7_rate_73 : decode cX7_rate 73 = .ok (.aload_n 0, 1) := by decide +kernel
theorem dX7_rate_74 : decode cX7_rate 74 = .ok (.getfield 58, 3) := by decide +kernel
theorem dX7_rate_77 : decode cX7_rate 77 = .ok (.getfield 134, 3) := by decide +kernel
theorem dX7_rate_80 : decode cX7_rate 80 = .ok (.i2l, 1) := by decide +kernel
theorem dX7_rate_81 : decode cX7_rate 81 = .ok (.aload_n 0, 1) := by decide +kernel
theorem dX7_rate_82 : decode cX7_rate 82 = .ok (.getfield 26, 3) := by decide +kernel
theorem dX7_rate_85 : decode cX7_rate 85 = .ok (.getfield 236, 3) := by decide +kernel
theorem dX7_rate_88 : decode cX7_rate 88 = .ok (.lmul, 1) := by decide +kernel
theorem dX7_rate_89 : decode cX7_rate 89 = .ok (.iload_n 1, 1) := by decide +kernel
theorem dX7_rate_90 : decode cX7_rate 90 = .ok (.invokestatic 240, 3) := by decide +kernel
theorem dX7_rate_93 : decode cX7_rate 93 = .ok (.lreturn, 1) := by decide +kernel
theorem dX7_rate_94 : decode cX7_rate 94 = .ok (.lconst 1, 1) := by decide +kernel
theorem dX7_rate_95 : decode cX7_rate 95 = .ok (.aload_n 0, 1) := by decide +kernel
theorem dX7_rate_96 : decode cX7_rate 96 = .ok (.getfield 58, 3) := by decide +kernel
theorem dX7_rate_99 : decode cX7_rate 99 = .ok (.getfield 134, 3) := by decide +kernel
theorem dX7_rate_102 : decode cX7_rate 102 = .ok (.i2l, 1) := by decide +kernel
theorem dX7_rate_103 : decode cX7_rate 103 = .ok (.iload_n 1, 1) := by decide +kernel
theorem dX7_rate_104 : decode cX7_rate 104 = .ok (.invokestatic 240, 3) := by decide +kernel
theorem dX7_rate_107 : decode cX7_rate 107 = .ok (.lreturn, 1) := by decide +kernel
theorem dX7_rate_108 : decode cX7_rate 108 = .ok (.ldc2_w 261, 3) := by decide +kernel
theorem dX7_rate_111 : decode cX7_rate 111 = .ok (.lreturn, 1) := by decide +kernel
set_option maxRecDepth 20000 in
theorem ggX7_best_X7_isCell : GoodIn wsX7_best wsX7_isCell := goodIn_r _ [8, 2, 9, 56, 57, 58, 59, 60, 61, 62, 63, 64, 65, 72, 73, 74, 75, 76, 77, 78, 79, 80, 81, 82, 83] (by decide +kernel) (by decide +kernel)
set_option maxRecDepth 20000 in
theorem gX7_best_X7_isCell : GoodIn wsX7_best (wsV RX7 110 RX7 yX7_isCell wsX7_isCell) := goodIn_app (goodIn_of _ (by decide +kernel)) ggX7_best_X7_isCell
set_option maxRecDepth 20000 in
theorem ggX7_best_X0_findBest : GoodIn wsX7_best wsX0_findBest := goodIn_r _ [14, 15, 16, 17, 18, 19, 20, 21, 13, 22, 23, 24, 25, 26, 27, 7, 28, 29, 30, 31, 32, 33, 34, 35, 36, 37, 38, 39, 40, 41, 42, 43, 44, 45, 46, 47, 48, 49, 50, 51, 52, 53, 54, 55, 66, 67, 68, 69, 70, 71, 72, 73, 74, 75, 76, 77, 78, 79, 80, 81, 82, 83] (by decide +kernel) (by decide +kernel)
set_option maxRecDepth 20000 in
theorem gX7_best_X0_findBest : GoodIn wsX7_best (wsV RX7 137 RX0 yX0_findBest wsX0_findBest) := goodIn_app (goodIn_of _ (by decide +kernel)) ggX7_best_X0_findBest
theorem dX7_best_0 : decode cX7_best 0 = .ok (.aload_n 0, 1) := by decide +kernel
theorem dX7_best_1 : decode cX7_best 1 = .ok (.iload_n 1, 1) := by decide +kernel
theorem dX7_best_2 : decode cX7_best 2 = .ok (.invokevirtual 110, 3) := by decide +kernel
theorem dX7_best_5 : decode cX7_best 5 = .ok (.ifCond .ne 5, 3) := by decide +kernel
theorem dX7_best_8 : decode cX7_best 8 = .ok (.iconst (-1), 1) := by decide +kernel
theorem dX7_best_9 : decode cX7_best 9 = .ok (.ireturn, 1) := by decide +kernel
theorem dX7_best_10 : decode cX7_best 10 = .ok (.aload_n 0, 1) := by decide +kernel
theorem dX7_best_11 : decode cX7_best 11 = .ok (.getfield 26, 3) := by decide +kernel
theorem dX7_best_14 : decode cX7_best 14 = .ok (.aload_n 0, 1) := by decide +kernel
theorem dX7_best_15 : decode cX7_best 15 = .ok (.getfield 54, 3) := by decide +kernel
theorem dX7_best_18 : decode cX7_best 18 = .ok (.invokevirtual 137, 3) := by decide +kernel
theorem dX7_best_21 : decode cX7_best 21 = .ok (.aload_n 0, 1) := by decide +kernel
theorem dX7_best_22 : decode cX7_best 22 = .ok (.getfield 26, 3) := by decide +kernel
theorem dX7_best_25 : decode cX7_best 25 = .ok (.getfield 141, 3) := by decide +kernel
theorem dX7_best_28 : decode cX7_best 28 = .ok (.iload_n 1, 1) := by decide +kernel
theorem dX7_best_29 : decode cX7_best 29 = .ok (.iaload, 1) := by decide +kernel
theorem dX7_best_30 : decode cX7_best 30 = .ok (.ireturn, 1) := by decide +kernel
set_option maxRecDepth 20000 in
theorem ggX7_least_X7_isPart : GoodIn wsX7_least wsX7_isPart := goodIn_r _ [10] (by decide +kernel) (by decide +kernel)
set_option maxRecDepth 20000 in
theorem gX7_least_X7_isPart : GoodIn wsX7_least (va_wsS RX7 231 yX7_isPart wsX7_isPart) := goodIn_app (goodIn_of _ (by decide +kernel)) ggX7_least_X7_isPart
set_option maxRecDepth 20000 in
theorem ggX7_least_X0_findBest : GoodIn wsX7_least wsX0_findBest := goodIn_r _ [15, 16, 17, 18, 19, 20, 21, 22, 14, 23, 24, 25, 26, 27, 28, 9, 29, 30, 31, 32, 33, 34, 35, 36, 37, 38, 39, 40, 41, 42, 43, 44, 45, 46, 47, 48, 49, 50, 51, 52, 53, 54, 55, 56, 73, 74, 75, 76, 77, 78, 79, 80, 81, 82, 83, 84, 85, 86, 87, 88, 89, 90] (by decide +kernel) (by decide +kernel)
set_option maxRecDepth 20000 in
theorem gX7_least_X0_findBest : GoodIn wsX7_least (wsV RX7 137 RX0 yX0_findBest wsX0_findBest) := goodIn_app (goodIn_of _ (by decide +kernel)) ggX7_least_X0_findBest
set_option maxRecDepth 20000 in
theorem ggX7_least_X7_lowest : GoodIn wsX7_least wsX7_lowest := goodIn_r _ [59, 60, 61, 9, 62] (by decide +kernel) (by decide +kernel)
set_option maxRecDepth 20000 in
theorem gX7_least_X7_lowest : GoodIn wsX7_least (va_wsS RX7 240 yX7_lowest wsX7_lowest) := goodIn_app (goodIn_of _ (by decide +kernel)) ggX7_least_X7_lowest
theorem dX7_least_0 : decode cX7_least 0 = .ok (.iload_n 1, 1) := by decide +kernel
theorem dX7_least_1 : decode cX7_least 1 = .ok (.invokestatic 231, 3) := by decide +kernel
theorem dX7_least_4 : decode cX7_least 4 = .ok (.ifCond .ne 7, 3) := by decide +kernel
theorem dX7_least_7 : decode cX7_least 7 = .ok (.ldc2_w 234, 3) := by decide +kernel
theorem dX7_least_10 : decode cX7_least 10 = .ok (.lreturn, 1) := by decide +kernel
theorem dX7_least_11 : decode cX7_least 11 = .ok (.aload_n 0, 1) := by decide +kernel
theorem dX7_least_12 : decode cX7_least 12 = .ok (.getfield 26, 3) := by decide +kernel
theorem dX7_least_15 : decode cX7_least 15 = .ok (.aload_n 0, 1) := by decide +kernel
theorem dX7_least_16 : decode cX7_least 16 = .ok (.getfield 54, 3) := by decide +kernel
theorem dX7_least_19 : decode cX7_least 19 = .ok (.invokevirtual 137, 3) := by decide +kernel
theorem dX7_least_22 : decode cX7_least 22 = .ok (.aload_n 0, 1) := by decide +kernel
theorem dX7_least_23 : decode cX7_least 23 = .ok (.getfield 26, 3) := by decide +kernel
theorem dX7_least_26 : decode cX7_least 26 = .ok (.getfield 263, 3) := by decide +kernel
theorem dX7_least_29 : decode cX7_least 29 = .ok (.ldc2_w 259, 3) := by decide +kernel
theorem dX7_least_32 : decode cX7_least 32 = .ok (.aload_n 0, 1) := by decide +kernel
theorem dX7_least_33 : decode cX7_least 33 = .ok (.getfield 26, 3) := by decide +kernel
theorem dX7_least_36 : decode cX7_least 36 = .ok (.getfield 236, 3) := by decide +kernel
theorem dX7_least_39 : decode cX7_least 39 = .ok (.lmul, 1) := by decide +kernel
theorem dX7_least_40 : decode cX7_least 40 = .ok (.iload_n 1, 1) := by decide +kernel
theorem dX7_least_41 : decode cX7_least 41 = .ok (.invokestatic 240, 3) := by decide +kernel
theorem dX7_least_44 : decode cX7_least 44 = .ok (.lreturn, 1) := by decide +kernel
set_option maxRecDepth 20000 in
theorem ggX7_walk_X4_copyFrom : GoodIn wsX7_walk wsX4_copyFrom := goodIn_r _ [9, 10, 11, 12, 13, 14, 15, 16, 17, 18, 19, 20, 21, 22, 23, 65, 66, 67, 68, 69, 70, 71, 72, 73, 74] (by decide +kernel) (by decide +kernel)
set_option maxRecDepth 20000 in
theorem gX7_walk_X4_copyFrom : GoodIn wsX7_walk (wsV RX7 266 RX4 yX4_copyFrom wsX4_copyFrom) := goodIn_app (goodIn_of _ (by decide +kernel)) ggX7_walk_X4_copyFrom
set_option maxRecDepth 20000 in
theorem ggX7_walk_X7_draw : GoodIn wsX7_walk wsX7_draw := goodIn_r _ [27, 28, 29, 30] (by decide +kernel) (by decide +kernel)
set_option maxRecDepth 20000 in
theorem gX7_walk_X7_draw : GoodIn wsX7_walk (va_wsS RX7 269 yX7_draw wsX7_draw) := goodIn_app (goodIn_of _ (by decide +kernel)) ggX7_walk_X7_draw
set_option maxRecDepth 20000 in
theorem ggX7_walk_X4_drawnCell : GoodIn wsX7_walk wsX4_drawnCell := goodIn_r _ [34, 10, 18, 35, 36, 37, 65, 66, 67, 68, 69, 70, 71, 72, 73, 74, 75, 76, 77, 78, 79, 80, 81, 82, 83, 84, 85, 86] (by decide +kernel) (by decide +kernel)
set_option maxRecDepth 20000 in
theorem gX7_walk_X4_drawnCell : GoodIn wsX7_walk (wsV RX7 273 RX4 yX4_drawnCell wsX4_drawnCell) := goodIn_app (goodIn_of _ (by decide +kernel)) ggX7_walk_X4_drawnCell
set_option maxRecDepth 20000 in
theorem ggX7_walk_X4_go : GoodIn wsX7_walk wsX4_go := goodIn_r _ [41, 18, 20, 21, 22, 42, 43, 44, 8, 45, 16, 17, 46, 47, 48, 49, 15, 19, 50, 51, 52, 53, 54, 65, 66, 67, 68, 69, 70, 71, 72, 73, 74, 75, 76, 77, 78, 79, 80, 81, 82, 83, 84, 85, 86] (by decide +kernel) (by decide +kernel)
set_option maxRecDepth 20000 in
theorem gX7_walk_X4_go : GoodIn wsX7_walk (wsV RX7 169 RX4 yX4_go wsX4_go) := goodIn_app (goodIn_of _ (by decide +kernel)) ggX7_walk_X4_go
theorem dX7_walk_0 : decode cX7_walk 0 = .ok (.iload_n 1, 1) := by decide +kernel
theorem dX7_walk_1 : decode cX7_walk 1 = .ok (.ifCond .lt 30, 3) := by decide +kernel
theorem dX7_walk_4 : decode cX7_walk 4 = .ok (.iload_n 1, 1) := by decide +kernel
theorem dX7_walk_5 : decode cX7_walk 5 = .ok (.sipush 9999, 3) := by decide +kernel
theorem dX7_walk_8 : decode cX7_walk 8 = .ok (.if_icmp .gt 23, 3) := by decide +kernel
theorem dX7_walk_11 : decode cX7_walk 11 = .ok (.iload_n 2, 1) := by decide +kernel
theorem dX7_walk_12 : decode cX7_walk 12 = .ok (.iconst 1, 1) := by decide +kernel
theorem dX7_walk_13 : decode cX7_walk 13 = .ok (.if_icmp .lt 18, 3) := by decide +kernel
theorem dX7_walk_16 : decode cX7_walk 16 = .ok (.iload_n 2, 1) := by decide +kernel
theorem dX7_walk_17 : decode cX7_walk 17 = .ok (.bipush 60, 2) := by decide +kernel
theorem dX7_walk_19 : decode cX7_walk 19 = .ok (.if_icmp .gt 12, 3) := by decide +kernel
theorem dX7_walk_22 : decode cX7_walk 22 = .ok (.iload_n 3, 1) := by decide +kernel
theorem dX7_walk_23 : decode cX7_walk 23 = .ok (.ifCond .lt 8, 3) := by decide +kernel
theorem dX7_walk_26 : decode cX7_walk 26 = .ok (.iload_n 3, 1) := by decide +kernel
theorem dX7_walk_27 : decode cX7_walk 27 = .ok (.iconst 2, 1) := by decide +kernel
theorem dX7_walk_28 : decode cX7_walk 28 = .ok (.if_icmp .le 5, 3) := by decide +kernel
theorem dX7_walk_31 : decode cX7_walk 31 = .ok (.iconst (-1), 1) := by decide +kernel
theorem dX7_walk_32 : decode cX7_walk 32 = .ok (.ireturn, 1) := by decide +kernel
theorem dX7_walk_33 : decode cX7_walk 33 = .ok (.aload_n 0, 1) := by decide +kernel
theorem dX7_walk_34 : decode cX7_walk 34 = .ok (.getfield 47, 3) := by decide +kernel
theorem dX7_walk_37 : decode cX7_walk 37 = .ok (.aload_n 0, 1) := by decide +kernel
theorem dX7_walk_38 : decode cX7_walk 38 = .ok (.getfield 58, 3) := by decide +kernel
theorem dX7_walk_41 : decode cX7_walk 41 = .ok (.invokevirtual 266, 3) := by decide +kernel
theorem dX7_walk_44 : decode cX7_walk 44 = .ok (.iconst 0, 1) := by decide +kernel
theorem dX7_walk_45 : decode cX7_walk 45 = .ok (.istore 4, 2) := by decide +kernel
theorem dX7_walk_47 : decode cX7_walk 47 = .ok (.iconst 0, 1) := by decide +kernel
theorem dX7_walk_48 : decode cX7_walk 48 = .ok (.istore 5, 2) := by decide +kernel
theorem dX7_walk_50 : decode cX7_walk 50 = .ok (.iconst 0, 1) := by decide +kernel
theorem dX7_walk_51 : decode cX7_walk 51 = .ok (.istore 6, 2) := by decide +kernel
theorem dX7_walk_53 : decode cX7_walk 53 = .ok (.iload 6, 2) := by decide +kernel
theorem dX7_walk_55 : decode cX7_walk 55 = .ok (.iload_n 2, 1) := by decide +kernel
theorem dX7_walk_56 : decode cX7_walk 56 = .ok (.if_icmp .ge 62, 3) := by decide +kernel
theorem dX7_walk_59 : decode cX7_walk 59 = .ok (.aload_n 0, 1) := by decide +kernel
theorem dX7_walk_60 : decode cX7_walk 60 = .ok (.getfield 47, 3) := by decide +kernel
theorem dX7_walk_63 : decode cX7_walk 63 = .ok (.aload_n 0, 1) := by decide +kernel
theorem dX7_walk_64 : decode cX7_walk 64 = .ok (.getfield 54, 3) := by decide +kernel
theorem dX7_walk_67 : decode cX7_walk 67 = .ok (.iload_n 1, 1) := by decide +kernel
theorem dX7_walk_68 : decode cX7_walk 68 = .ok (.iload 6, 2) := by decide +kernel
theorem dX7_walk_70 : decode cX7_walk 70 = .ok (.invokestatic 269, 3) := by decide +kernel
theorem dX7_walk_73 : decode cX7_walk 73 = .ok (.invokevirtual 273, 3) := by decide +kernel
theorem dX7_walk_76 : decode cX7_walk 76 = .ok (.istore 7, 2) := by decide +kernel
theorem dX7_walk_78 : decode cX7_walk 78 = .ok (.iload 7, 2) := by decide +kernel
theorem dX7_walk_80 : decode cX7_walk 80 = .ok (.aload_n 0, 1) := by decide +kernel
theorem dX7_walk_81 : decode cX7_walk 81 = .ok (.getfield 47, 3) := by decide +kernel
theorem dX7_walk_84 : decode cX7_walk 84 = .ok (.getfield 187, 3) := by decide +kernel
theorem dX7_walk_87 : decode cX7_walk 87 = .ok (.if_icmp .eq 6, 3) := by decide +kernel
theorem dX7_walk_90 : decode cX7_walk 90 = .ok (.iinc 5 1, 3) := by decide +kernel
theorem dX7_walk_93 : decode cX7_walk 93 = .ok (.aload_n 0, 1) := by decide +kernel
theorem dX7_walk_94 : decode cX7_walk 94 = .ok (.getfield 47, 3) := by decide +kernel
theorem dX7_walk_97 : decode cX7_walk 97 = .ok (.aload_n 0, 1) := by decide +kernel
theorem dX7_walk_98 : decode cX7_walk 98 = .ok (.getfield 54, 3) := by decide +kernel
theorem dX7_walk_101 : decode cX7_walk 101 = .ok (.iload 7, 2) := by decide +kernel
theorem dX7_walk_103 : decode cX7_walk 103 = .ok (.invokevirtual 169, 3) := by decide +kernel
theorem dX7_walk_106 : decode cX7_walk 106 = .ok (.ifCond .eq 6, 3) := by decide +kernel
theorem dX7_walk_109 : decode cX7_walk 109 = .ok (.iinc 4 1, 3) := by decide +kernel
theorem dX7_walk_112 : decode cX7_walk 112 = .ok (.iinc 6 1, 3) := by decide +kernel
theorem dX7_walk_115 : decode cX7_walk 115 = .ok (.goto (-62), 3) := by decide +kernel
theorem dX7_walk_118 : decode cX7_walk 118 = .ok (.iload_n 3, 1) := by decide +kernel
theorem dX7_walk_119 : decode cX7_walk 119 = .ok (.ifCond .ne 11, 3) := by decide +kernel
theorem dX7_walk_122 : decode cX7_walk 122 = .ok (.aload_n 0, 1) := by decide +kernel
theorem dX7_walk_123 : decode cX7_walk 123 = .ok (.getfield 47, 3) := by decide +kernel
theorem dX7_walk_126 : decode cX7_walk 126 = .ok (.getfield 187, 3) := by decide +kernel
theorem dX7_walk_129 : decode cX7_walk 129 = .ok (.ireturn, 1) := by decide +kernel
theorem dX7_walk_130 : decode cX7_walk 130 = .ok (.iload_n 3, 1) := by decide +kernel
theorem dX7_walk_131 : decode cX7_walk 131 = .ok (.iconst 1, 1) := by decide +kernel
theorem dX7_walk_132 : decode cX7_walk 132 = .ok (.if_icmp .ne 8, 3) := by decide +kernel
theorem dX7_walk_135 : decode cX7_walk 135 = .ok (.iload 4, 2) := by decide +kernel
theorem dX7_walk_137 : decode cX7_walk 137 = .ok (.goto 5, 3) := by decide +kernel
theorem dX7_walk_140 : decode cX7_walk 140 = .ok (.iload 5, 2) := by decide +kernel
theorem dX7_walk_142 : decode cX7_walk 142 = .ok (.ireturn, 1) := by decide +kernel
theorem dX7_count_0 : decode cX7_count 0 = .ok (.iload_n 1, 1) := by decide +kernel
theorem dX7_count_1 : decode cX7_count 1 = .ok (.tableswitch 135 0 9 #[55, 63, 71, 79, 87, 95, 103, 111, 119, 127], 55) := by decide +kernel
theorem dX7_count_56 : decode cX7_count 56 = .ok (.aload_n 0, 1) := by decide +kernel
theorem dX7_count_57 : decode cX7_count 57 = .ok (.getfield 54, 3) := by decide +kernel
theorem dX7_count_60 : decode cX7_count 60 = .ok (.getfield 94, 3) := by decide +kernel
theorem dX7_count_63 : decode cX7_count 63 = .ok (.ireturn, 1) := by decide +kernel
theorem dX7_count_64 : decode cX7_count 64 = .ok (.aload_n 0, 1) := by decide +kernel
theorem dX7_count_65 : decode cX7_count 65 = .ok (.getfield 54, 3) := by decide +kernel
theorem dX7_count_68 : decode cX7_count 68 = .ok (.getfield 277, 3) := by decide +kernel
theorem dX7_count_71 : decode cX7_count 71 = .ok (.ireturn, 1) := by decide +kernel
theorem dX7_count_72 : decode cX7_count 72 = .ok (.aload_n 0, 1) := by decide +kernel
theorem dX7_count_73 : decode cX7_count 73 = .ok (.getfield 58, 3) := by decide +kernel
theorem dX7_count_76 : decode cX7_count 76 = .ok (.getfield 131, 3) := by decide +kernel
theorem dX7_count_79 : decode cX7_count 79 = .ok (.ireturn, 1) := by decide +kernel
theorem dX7_count_80 : decode cX7_count 80 = .ok (.aload_n 0, 1) := by decide +kernel
theorem dX7_count_81 : decode cX7_count 81 = .ok (.getfield 58, 3) := by decide +kernel
theorem dX7_count_84 : decode cX7_count 84 = .ok (.getfield 134, 3) := by decide +kernel
theorem dX7_count_87 : decode cX7_count 87 = .ok (.ireturn, 1) := by decide +kernel
theorem dX7_count_88 : decode cX7_count 88 = .ok (.aload_n 0, 1) := by decide +kernel
theorem dX7_count_89 : decode cX7_count 89 = .ok (.getfield 54, 3) := by decide +kernel
theorem dX7_count_92 : decode cX7_count 92 = .ok (.getfield 225, 3) := by decide +kernel
theorem dX7_count_95 : decode cX7_count 95 = .ok (.ireturn, 1) := by decide +kernel
theorem dX7_count_96 : decode cX7_count 96 = .ok (.aload_n 0, 1) := by decide +kernel
theorem dX7_count_97 : decode cX7_count 97 = .ok (.getfield 54, 3) := by decide +kernel
theorem dX7_count_100 : decode cX7_count 100 = .ok (.getfield 208, 3) := by decide +kernel
theorem dX7_count_103 : decode cX7_count 103 = .ok (.ireturn, 1) := by decide +kernel
theorem dX7_count_104 : decode cX7_count 104 = .ok (.aload_n 0, 1) := by decide +kernel
theorem dX7_count_105 : decode cX7_count 105 = .ok (.getfield 54, 3) := by decide +kernel
theorem dX7_count_108 : decode cX7_count 108 = .ok (.getfield 211, 3) := by decide +kernel
theorem dX7_count_111 : decode cX7_count 111 = .ok (.ireturn, 1) := by decide +kernel
theorem dX7_count_112 : decode cX7_count 112 = .ok (.aload_n 0, 1) := by decide +kernel
theorem dX7_count_113 : decode cX7_count 113 = .ok (.getfield 54, 3) := by decide +kernel
theorem dX7_count_116 : decode cX7_count 116 = .ok (.getfield 280, 3) := by decide +kernel
theorem dX7_count_119 : decode cX7_count 119 = .ok (.ireturn, 1) := by decide +kernel
theorem dX7_count_120 : decode cX7_count 120 = .ok (.aload_n 0, 1) := by decide +kernel
theorem dX7_count_121 : decode cX7_count 121 = .ok (.getfield 19, 3) := by decide +kernel
theorem dX7_count_124 : decode cX7_count 124 = .ok (.getfield 103, 3) := by decide +kernel
theorem dX7_count_127 : decode cX7_count 127 = .ok (.ireturn, 1) := by decide +kernel
theorem dX7_count_128 : decode cX7_count 128 = .ok (.aload_n 0, 1) := by decide +kernel
theorem dX7_count_129 : decode cX7_count 129 = .ok (.getfield 10, 3) := by decide +kernel
theorem dX7_count_132 : decode cX7_count 132 = .ok (.getfield 87, 3) := by decide +kernel
theorem dX7_count_135 : decode cX7_count 135 = .ok (.ireturn, 1) := by decide +kernel
theorem dX7_count_136 : decode cX7_count 136 = .ok (.iconst (-1), 1) := by decide +kernel
theorem dX7_count_137 : decode cX7_count 137 = .ok (.ireturn, 1) := by decide +kernel
theorem dX7_isCell_0 : decode cX7_isCell 0 = .ok (.iload_n 1, 1) := by decide +kernel
theorem dX7_isCell_1 : decode cX7_isCell 1 = .ok (.ifCond .lt 18, 3) := by decide +kernel
theorem dX7_isCell_4 : decode cX7_isCell 4 = .ok (.iload_n 1, 1) := by decide +kernel
theorem dX7_isCell_5 : decode cX7_isCell 5 = .ok (.aload_n 0, 1) := by decide +kernel
theorem dX7_isCell_6 : decode cX7_isCell 6 = .ok (.getfield 54, 3) := by decide +kernel
theorem dX7_isCell_9 : decode cX7_isCell 9 = .ok (.getfield 94, 3) := by decide +kernel
theorem dX7_isCell_12 : decode cX7_isCell 12 = .ok (.if_icmp .ge 7, 3) := by decide +kernel
theorem dX7_isCell_15 : decode cX7_isCell 15 = .ok (.iconst 1, 1) := by decide +kernel
theorem dX7_isCell_16 : decode cX7_isCell 16 = .ok (.goto 4, 3) := by decide +kernel
theorem dX7_isCell_19 : decode cX7_isCell 19 = .ok (.iconst 0, 1) := by decide +kernel
theorem dX7_isCell_20 : decode cX7_isCell 20 = .ok (.ireturn, 1) := by decide +kernel
theorem dX7_isPart_0 : decode cX7_isPart 0 = .ok (.iload_n 0, 1) := by decide +kernel
theorem dX7_isPart_1 : decode cX7_isPart 1 = .ok (.ifCond .eq 8, 3) := by decide +kernel
theorem dX7_isPart_4 : decode cX7_isPart 4 = .ok (.iload_n 0, 1) := by decide +kernel
theorem dX7_isPart_5 : decode cX7_isPart 5 = .ok (.iconst 1, 1) := by decide +kernel
theorem dX7_isPart_6 : decode cX7_isPart 6 = .ok (.if_icmp .ne 7, 3) := by decide +kernel
theorem dX7_isPart_9 : decode cX7_isPart 9 = .ok (.iconst 1, 1) := by decide +kernel
theorem dX7_isPart_10 : decode cX7_isPart 10 = .ok (.goto 4, 3) := by decide +kernel
theorem dX7_isPart_13 : decode cX7_isPart 13 = .ok (.iconst 0, 1) := by decide +kernel
theorem dX7_isPart_14 : decode cX7_isPart 14 = .ok (.ireturn, 1) := by decide +kernel
theorem dX7_isLaw_0 : decode cX7_isLaw 0 = .ok (.iload_n 0, 1) := by decide +kernel
theorem dX7_isLaw_1 : decode cX7_isLaw 1 = .ok (.ifCond .ne 13, 3) := by decide +kernel
theorem dX7_isLaw_4 : decode cX7_isLaw 4 = .ok (.iload_n 1, 1) := by decide +kernel
theorem dX7_isLaw_5 : decode cX7_isLaw 5 = .ok (.ifCond .ne 7, 3) := by decide +kernel
theorem dX7_isLaw_8 : decode cX7_isLaw 8 = .ok (.iconst 1, 1) := by decide +kernel
theorem dX7_isLaw_9 : decode cX7_isLaw 9 = .ok (.goto 4, 3) := by decide +kernel
theorem dX7_isLaw_12 : decode cX7_isLaw 12 = .ok (.iconst 0, 1) := by decide +kernel
theorem dX7_isLaw_13 : decode cX7_isLaw 13 = .ok (.ireturn, 1) := by decide +kernel
theorem dX7_isLaw_14 : decode cX7_isLaw 14 = .ok (.iload_n 0, 1) := by decide +kernel
theorem dX7_isLaw_15 : decode cX7_isLaw 15 = .ok (.iconst 1, 1) := by decide +kernel
theorem dX7_isLaw_16 : decode cX7_isLaw 16 = .ok (.if_icmp .lt 23, 3) := by decide +kernel
theorem dX7_isLaw_19 : decode cX7_isLaw 19 = .ok (.iload_n 0, 1) := by decide +kernel
theorem dX7_isLaw_20 : decode cX7_isLaw 20 = .ok (.iconst 3, 1) := by decide +kernel
theorem dX7_isLaw_21 : decode cX7_isLaw 21 = .ok (.if_icmp .gt 18, 3) := by decide +kernel
theorem dX7_isLaw_24 : decode cX7_isLaw 24 = .ok (.iload_n 1, 1) := by decide +kernel
theorem dX7_isLaw_25 : decode cX7_isLaw 25 = .ok (.iconst 1, 1) := by decide +kernel
theorem dX7_isLaw_26 : decode cX7_isLaw 26 = .ok (.if_icmp .lt 13, 3) := by decide +kernel
theorem dX7_isLaw_29 : decode cX7_isLaw 29 = .ok (.iload_n 1, 1) := by decide +kernel
theorem dX7_isLaw_30 : decode cX7_isLaw 30 = .ok (.bipush 9, 2) := by decide +kernel
theorem dX7_isLaw_32 : decode cX7_isLaw 32 = .ok (.if_icmp .gt 7, 3) := by decide +kernel
theorem dX7_isLaw_35 : decode cX7_isLaw 35 = .ok (.iconst 1, 1) := by decide +kernel
theorem dX7_isLaw_36 : decode cX7_isLaw 36 = .ok (.goto 4, 3) := by decide +kernel
theorem dX7_isLaw_39 : decode cX7_isLaw 39 = .ok (.iconst 0, 1) := by decide +kernel
theorem dX7_isLaw_40 : decode cX7_isLaw 40 = .ok (.ireturn, 1) := by decide +kernel
theorem dX7_holds_0 : decode cX7_holds 0 = .ok (.iload_n 0, 1) := by decide +kernel
theorem dX7_holds_1 : decode cX7_holds 1 = .ok (.iload_n 1, 1) := by decide +kernel
theorem dX7_holds_2 : decode cX7_holds 2 = .ok (.ishr, 1) := by decide +kernel
theorem dX7_holds_3 : decode cX7_holds 3 = .ok (.iconst 1, 1) := by decide +kernel
theorem dX7_holds_4 : decode cX7_holds 4 = .ok (.iand, 1) := by decide +kernel
theorem dX7_holds_5 : decode cX7_holds 5 = .ok (.ifCond .eq 7, 3) := by decide +kernel
theorem dX7_holds_8 : decode cX7_holds 8 = .ok (.iconst 1, 1) := by decide +kernel
theorem dX7_holds_9 : decode cX7_holds 9 = .ok (.goto 4, 3) := by decide +kernel
theorem dX7_holds_12 : decode cX7_holds 12 = .ok (.iconst 0, 1) := by decide +kernel
theorem dX7_holds_13 : decode cX7_holds 13 = .ok (.ireturn, 1) := by decide +kernel
theorem dX7_sameArea_0 : decode cX7_sameArea 0 = .ok (.iconst 0, 1) := by decide +kernel
theorem dX7_sameArea_1 : decode cX7_sameArea 1 = .ok (.istore_n 3, 1) := by decide +kernel
theorem dX7_sameArea_2 : decode cX7_sameArea 2 = .ok (.iconst 0, 1) := by decide +kernel
theorem dX7_sameArea_3 : decode cX7_sameArea 3 = .ok (.istore 4, 2) := by decide +kernel
theorem dX7_sameArea_5 : decode cX7_sameArea 5 = .ok (.iload 4, 2) := by decide +kernel
theorem dX7_sameArea_7 : decode cX7_sameArea 7 = .ok (.iload_n 0, 1) := by decide +kernel
theorem dX7_sameArea_8 : decode cX7_sameArea 8 = .ok (.if_icmp .ge 22, 3) := by decide +kernel
theorem dX7_sameArea_11 : decode cX7_sameArea 11 = .ok (.aload_n 1, 1) := by decide +kernel
theorem dX7_sameArea_12 : decode cX7_sameArea 12 = .ok (.iload 4, 2) := by decide +kernel
theorem dX7_sameArea_14 : decode cX7_sameArea 14 = .ok (.iaload, 1) := by decide +kernel
theorem dX7_sameArea_15 : decode cX7_sameArea 15 = .ok (.aload_n 1, 1) := by decide +kernel
theorem dX7_sameArea_16 : decode cX7_sameArea 16 = .ok (.iload_n 2, 1) := by decide +kernel
theorem dX7_sameArea_17 : decode cX7_sameArea 17 = .ok (.iaload, 1) := by decide +kernel
theorem dX7_sameArea_18 : decode cX7_sameArea 18 = .ok (.if_icmp .ne 6, 3) := by decide +kernel
theorem dX7_sameArea_21 : decode cX7_sameArea 21 = .ok (.iinc 3 1, 3) := by decide +kernel
theorem dX7_sameArea_24 : decode cX7_sameArea 24 = .ok (.iinc 4 1, 3) := by decide +kernel
theorem dX7_sameArea_27 : decode cX7_sameArea 27 = .ok (.goto (-22), 3) := by decide +kernel
theorem dX7_sameArea_30 : decode cX7_sameArea 30 = .ok (.iload_n 3, 1) := by decide +kernel
theorem dX7_sameArea_31 : decode cX7_sameArea 31 = .ok (.ireturn, 1) := by decide +kernel
theorem dX7_draw_0 : decode cX7_draw 0 = .ok (.ldc2_w 283, 3) := by decide +kernel
theorem dX7_draw_3 : decode cX7_draw 3 = .ok (.iload_n 0, 1) := by decide +kernel
theorem dX7_draw_4 : decode cX7_draw 4 = .ok (.i2l, 1) := by decide +kernel
theorem dX7_draw_5 : decode cX7_draw 5 = .ok (.lmul, 1) := by decide +kernel
theorem dX7_draw_6 : decode cX7_draw 6 = .ok (.ldc2_w 285, 3) := by decide +kernel
theorem dX7_draw_9 : decode cX7_draw 9 = .ok (.iload_n 1, 1) := by decide +kernel
theorem dX7_draw_10 : decode cX7_draw 10 = .ok (.i2l, 1) := by decide +kernel
theorem dX7_draw_11 : decode cX7_draw 11 = .ok (.lmul, 1) := by decide +kernel
theorem dX7_draw_12 : decode cX7_draw 12 = .ok (.ladd, 1) := by decide +kernel
theorem dX7_draw_13 : decode cX7_draw 13 = .ok (.lconst 1, 1) := by decide +kernel
theorem dX7_draw_14 : decode cX7_draw 14 = .ok (.ladd, 1) := by decide +kernel
theorem dX7_draw_15 : decode cX7_draw 15 = .ok (.lstore_n 2, 1) := by decide +kernel
theorem dX7_draw_16 : decode cX7_draw 16 = .ok (.lload_n 2, 1) := by decide +kernel
theorem dX7_draw_17 : decode cX7_draw 17 = .ok (.lload_n 2, 1) := by decide +kernel
theorem dX7_draw_18 : decode cX7_draw 18 = .ok (.lmul, 1) := by decide +kernel
theorem dX7_draw_19 : decode cX7_draw 19 = .ok (.ldc2_w 287, 3) := by decide +kernel
theorem dX7_draw_22 : decode cX7_draw 22 = .ok (.lrem, 1) := by decide +kernel
theorem dX7_draw_23 : decode cX7_draw 23 = .ok (.l2i, 1) := by decide +kernel
theorem dX7_draw_24 : decode cX7_draw 24 = .ok (.ireturn, 1) := by decide +kernel
set_option maxRecDepth 20000 in
theorem ggX7_lowest_X7_greatestShared : GoodIn wsX7_lowest wsX7_greatestShared := goodIn_r _ [4] (by decide +kernel) (by decide +kernel)
set_option maxRecDepth 20000 in
theorem gX7_lowest_X7_greatestShared : GoodIn wsX7_lowest (va_wsS RX7 289 yX7_greatestShared wsX7_greatestShared) := goodIn_app (goodIn_of _ (by decide +kernel)) ggX7_lowest_X7_greatestShared
theorem dX7_lowest_0 : decode cX7_lowest 0 = .ok (.lload_n 0, 1) := by decide +kernel
theorem dX7_lowest_1 : decode cX7_lowest 1 = .ok (.lload_n 2, 1) := by decide +kernel
theorem dX7_lowest_2 : decode cX7_lowest 2 = .ok (.invokestatic 289, 3) := by decide +kernel
theorem dX7_lowest_5 : decode cX7_lowest 5 = .ok (.lstore 5, 2) := by decide +kernel
theorem dX7_lowest_7 : decode cX7_lowest 7 = .ok (.lload 5, 2) := by decide +kernel
theorem dX7_lowest_9 : decode cX7_lowest 9 = .ok (.lconst 0, 1) := by decide +kernel
theorem dX7_lowest_10 : decode cX7_lowest 10 = .ok (.lcmp, 1) := by decide +kernel
theorem dX7_lowest_11 : decode cX7_lowest 11 = .ok (.ifCond .ne 7, 3) := by decide +kernel
theorem dX7_lowest_14 : decode cX7_lowest 14 = .ok (.iload 4, 2) := by decide +kernel
theorem dX7_lowest_16 : decode cX7_lowest 16 = .ok (.i2l, 1) := by decide +kernel
theorem dX7_lowest_17 : decode cX7_lowest 17 = .ok (.lreturn, 1) := by decide +kernel
theorem dX7_lowest_18 : decode cX7_lowest 18 = .ok (.iload 4, 2) := by decide +kernel
theorem dX7_lowest_20 : decode cX7_lowest 20 = .ok (.ifCond .ne 7, 3) := by decide +kernel
theorem dX7_lowest_23 : decode cX7_lowest 23 = .ok (.lload_n 0, 1) := by decide +kernel
theorem dX7_lowest_24 : decode cX7_lowest 24 = .ok (.goto 4, 3) := by decide +kernel
theorem dX7_lowest_27 : decode cX7_lowest 27 = .ok (.lload_n 2, 1) := by decide +kernel
theorem dX7_lowest_28 : decode cX7_lowest 28 = .ok (.lload 5, 2) := by decide +kernel
theorem dX7_lowest_30 : decode cX7_lowest 30 = .ok (.ldiv, 1) := by decide +kernel
theorem dX7_lowest_31 : decode cX7_lowest 31 = .ok (.lreturn, 1) := by decide +kernel
theorem dX7_greatestShared_0 : decode cX7_greatestShared 0 = .ok (.iconst 0, 1) := by decide +kernel
theorem dX7_greatestShared_1 : decode cX7_greatestShared 1 = .ok (.istore 4, 2) := by decide +kernel
theorem dX7_greatestShared_3 : decode cX7_greatestShared 3 = .ok (.iload 4, 2) := by decide +kernel
theorem dX7_greatestShared_5 : decode cX7_greatestShared 5 = .ok (.sipush 200, 3) := by decide +kernel
theorem dX7_greatestShared_8 : decode cX7_greatestShared 8 = .ok (.if_icmp .ge 25, 3) := by decide +kernel
theorem dX7_greatestShared_11 : decode cX7_greatestShared 11 = .ok (.lload_n 2, 1) := by decide +kernel
theorem dX7_greatestShared_12 : decode cX7_greatestShared 12 = .ok (.lconst 0, 1) := by decide +kernel
theorem dX7_greatestShared_13 : decode cX7_greatestShared 13 = .ok (.lcmp, 1) := by decide +kernel
theorem dX7_greatestShared_14 : decode cX7_greatestShared 14 = .ok (.ifCond .eq 19, 3) := by decide +kernel
theorem dX7_greatestShared_17 : decode cX7_greatestShared 17 = .ok (.lload_n 0, 1) := by decide +kernel
theorem dX7_greatestShared_18 : decode cX7_greatestShared 18 = .ok (.lload_n 2, 1) := by decide +kernel
theorem dX7_greatestShared_19 : decode cX7_greatestShared 19 = .ok (.lrem, 1) := by decide +kernel
theorem dX7_greatestShared_20 : decode cX7_greatestShared 20 = .ok (.lstore 5, 2) := by decide +kernel
theorem dX7_greatestShared_22 : decode cX7_greatestShared 22 = .ok (.lload_n 2, 1) := by decide +kernel
theorem dX7_greatestShared_23 : decode cX7_greatestShared 23 = .ok (.lstore_n 0, 1) := by decide +kernel
theorem dX7_greatestShared_24 : decode cX7_greatestShared 24 = .ok (.lload 5, 2) := by decide +kernel
theorem dX7_greatestShared_26 : decode cX7_greatestShared 26 = .ok (.lstore_n 2, 1) := by decide +kernel
theorem dX7_greatestShared_27 : decode cX7_greatestShared 27 = .ok (.iinc 4 1, 3) := by decide +kernel
theorem dX7_greatestShared_30 : decode cX7_greatestShared 30 = .ok (.goto (-27), 3) := by decide +kernel
theorem dX7_greatestShared_33 : decode cX7_greatestShared 33 = .ok (.lload_n 0, 1) := by decide +kernel
theorem dX7_greatestShared_34 : decode cX7_greatestShared 34 = .ok (.lreturn, 1) := by decide +kernel
set_option maxRecDepth 20000 in
theorem ggX8_init_X8_clears : GoodIn wsX8_init wsX8_clears := goodIn_r _ [27, 22, 28, 10, 12, 11, 40, 41, 42, 43, 44, 45, 46, 47, 48, 49, 50, 51, 52, 53, 54, 55, 56, 57, 58, 59, 60, 61, 62, 63, 64, 65] (by decide +kernel) (by decide +kernel)
set_option maxRecDepth 20000 in
theorem gX8_init_X8_clears : GoodIn wsX8_init (wsV RX8 59 RX8 yX8_clears wsX8_clears) := goodIn_app (goodIn_of _ (by decide +kernel)) ggX8_init_X8_clears
set_option maxRecDepth 20000 in
theorem ggX8_init_X8_joinOf : GoodIn wsX8_init wsX8_joinOf := goodIn_r _ [32, 10, 28, 40, 41, 42, 43, 44, 45, 46, 47, 48, 49, 50, 51, 52, 53, 54, 55, 56, 57, 58, 59, 60, 61, 62, 63, 64, 65] (by decide +kernel) (by decide +kernel)
set_option maxRecDepth 20000 in
theorem gX8_init_X8_joinOf : GoodIn wsX8_init (wsV RX8 66 RX8 yX8_joinOf wsX8_joinOf) := goodIn_app (goodIn_of _ (by decide +kernel)) ggX8_init_X8_joinOf
set_option maxRecDepth 20000 in
theorem ggX8_init_X8_takes : GoodIn wsX8_init wsX8_takes := goodIn_r _ [36, 22, 37, 28, 38, 6, 10, 8, 12, 7, 11, 39, 40, 41, 42, 43, 44, 45, 46, 47, 48, 49, 50, 51, 52, 53, 54, 55, 56, 57, 58, 59, 60, 61, 62, 63, 64, 65] (by decide +kernel) (by decide +kernel)
set_option maxRecDepth 20000 in
theorem gX8_init_X8_takes : GoodIn wsX8_init (wsV RX8 70 RX8 yX8_takes wsX8_takes) := goodIn_app (goodIn_of _ (by decide +kernel)) ggX8_init_X8_takes
theorem dX8_init_0 : decode cX8_init 0 = .ok (.aload_n 0, 1) := by decide +kernel
theorem dX8_init_1 : decode cX8_init 1 = .ok (.invokespecial 1, 3) := by decide +kernel
theorem dX8_init_4 : decode cX8_init 4 = .ok (.aload_n 0, 1) := by decide +kernel
theorem dX8_init_5 : decode cX8_init 5 = .ok (.sipush 200, 3) := by decide +kernel
theorem dX8_init_8 : decode cX8_init 8 = .ok (.newarray .int, 2) := by decide +kernel
theorem dX8_init_10 : decode cX8_init 10 = .ok (.putfield 7, 3) := by decide +kernel
theorem dX8_init_13 : decode cX8_init 13 = .ok (.aload_n 0, 1) := by decide +kernel
theorem dX8_init_14 : decode cX8_init 14 = .ok (.bipush 36, 2) := by decide +kernel
theorem dX8_init_16 : decode cX8_init 16 = .ok (.newarray .int, 2) := by decide +kernel
theorem dX8_init_18 : decode cX8_init 18 = .ok (.putfield 13, 3) := by decide +kernel
theorem dX8_init_21 : decode cX8_init 21 = .ok (.aload_n 0, 1) := by decide +kernel
theorem dX8_init_22 : decode cX8_init 22 = .ok (.iconst 4, 1) := by decide +kernel
theorem dX8_init_23 : decode cX8_init 23 = .ok (.newarray .int, 2) := by decide +kernel
theorem dX8_init_25 : decode cX8_init 25 = .ok (.putfield 16, 3) := by decide +kernel
theorem dX8_init_28 : decode cX8_init 28 = .ok (.aload_n 0, 1) := by decide +kernel
theorem dX8_init_29 : decode cX8_init 29 = .ok (.bipush 20, 2) := by decide +kernel
theorem dX8_init_31 : decode cX8_init 31 = .ok (.newarray .int, 2) := by decide +kernel
theorem dX8_init_33 : decode cX8_init 33 = .ok (.putfield 19, 3) := by decide +kernel
theorem dX8_init_36 : decode cX8_init 36 = .ok (.aload_n 0, 1) := by decide +kernel
theorem dX8_init_37 : decode cX8_init 37 = .ok (.bipush 120, 2) := by decide +kernel
theorem dX8_init_39 : decode cX8_init 39 = .ok (.newarray .int, 2) := by decide +kernel
theorem dX8_init_41 : decode cX8_init 41 = .ok (.putfield 22, 3) := by decide +kernel
theorem dX8_init_44 : decode cX8_init 44 = .ok (.aload_n 0, 1) := by decide +kernel
theorem dX8_init_45 : decode cX8_init 45 = .ok (.bipush 36, 2) := by decide +kernel
theorem dX8_init_47 : decode cX8_init 47 = .ok (.newarray .int, 2) := by decide +kernel
theorem dX8_init_49 : decode cX8_init 49 = .ok (.putfield 25, 3) := by decide +kernel
theorem dX8_init_52 : decode cX8_init 52 = .ok (.aload_n 0, 1) := by decide +kernel
theorem dX8_init_53 : decode cX8_init 53 = .ok (.iconst 4, 1) := by decide +kernel
theorem dX8_init_54 : decode cX8_init 54 = .ok (.newarray .int, 2) := by decide +kernel
theorem dX8_init_56 : decode cX8_init 56 = .ok (.putfield 28, 3) := by decide +kernel
theorem dX8_init_59 : decode cX8_init 59 = .ok (.aload_n 0, 1) := by decide +kernel
theorem dX8_init_60 : decode cX8_init 60 = .ok (.bipush 20, 2) := by decide +kernel
theorem dX8_init_62 : decode cX8_init 62 = .ok (.newarray .int, 2) := by decide +kernel
theorem dX8_init_64 : decode cX8_init 64 = .ok (.putfield 31, 3) := by decide +kernel
theorem dX8_init_67 : decode cX8_init 67 = .ok (.aload_n 0, 1) := by decide +kernel
theorem dX8_init_68 : decode cX8_init 68 = .ok (.bipush 10, 2) := by decide +kernel
theorem dX8_init_70 : decode cX8_init 70 = .ok (.newarray .int, 2) := by decide +kernel
theorem dX8_init_72 : decode cX8_init 72 = .ok (.putfield 34, 3) := by decide +kernel
theorem dX8_init_75 : decode cX8_init 75 = .ok (.aload_n 0, 1) := by decide +kernel
theorem dX8_init_76 : decode cX8_init 76 = .ok (.bipush 10, 2) := by decide +kernel
theorem dX8_init_78 : decode cX8_init 78 = .ok (.newarray .int, 2) := by decide +kernel
theorem dX8_init_80 : decode cX8_init 80 = .ok (.putfield 37, 3) := by decide +kernel
theorem dX8_init_83 : decode cX8_init 83 = .ok (.aload_n 0, 1) := by decide +kernel
theorem dX8_init_84 : decode cX8_init 84 = .ok (.bipush 6, 2) := by decide +kernel
theorem dX8_init_86 : decode cX8_init 86 = .ok (.newarray .long, 2) := by decide +kernel
theorem dX8_init_88 : decode cX8_init 88 = .ok (.putfield 40, 3) := by decide +kernel
theorem dX8_init_91 : decode cX8_init 91 = .ok (.aload_n 0, 1) := by decide +kernel
theorem dX8_init_92 : decode cX8_init 92 = .ok (.bipush 25, 2) := by decide +kernel
theorem dX8_init_94 : decode cX8_init 94 = .ok (.newarray .long, 2) := by decide +kernel
theorem dX8_init_96 : decode cX8_init 96 = .ok (.putfield 44, 3) := by decide +kernel
theorem dX8_init_99 : decode cX8_init 99 = .ok (.aload_n 0, 1) := by decide +kernel
theorem dX8_init_100 : decode cX8_init 100 = .ok (.bipush 6, 2) := by decide +kernel
theorem dX8_init_102 : decode cX8_init 102 = .ok (.newarray .int, 2) := by decide +kernel
theorem dX8_init_104 : decode cX8_init 104 = .ok (.putfield 47, 3) := by decide +kernel
theorem dX8_init_107 : decode cX8_init 107 = .ok (.aload_n 0, 1) := by decide +kernel
theorem dX8_init_108 : decode cX8_init 108 = .ok (.bipush 6, 2) := by decide +kernel
theorem dX8_init_110 : decode cX8_init 110 = .ok (.newarray .int, 2) := by decide +kernel
theorem dX8_init_112 : decode cX8_init 112 = .ok (.putfield 50, 3) := by decide +kernel
theorem dX8_init_115 : decode cX8_init 115 = .ok (.aload_n 0, 1) := by decide +kernel
theorem dX8_init_116 : decode cX8_init 116 = .ok (.bipush 6, 2) := by decide +kernel
theorem dX8_init_118 : decode cX8_init 118 = .ok (.newarray .int, 2) := by decide +kernel
theorem dX8_init_120 : decode cX8_init 120 = .ok (.putfield 53, 3) := by decide +kernel
theorem dX8_init_123 : decode cX8_init 123 = .ok (.aload_n 0, 1) := by decide +kernel
theorem dX8_init_124 : decode cX8_init 124 = .ok (.bipush 20, 2) := by decide +kernel
theorem dX8_init_126 : decode cX8_init 126 = .ok (.newarray .int, 2) := by decide +kernel
theorem dX8_init_128 : decode cX8_init 128 = .ok (.putfield 56, 3) := by decide +kernel
theorem dX8_init_131 : decode cX8_init 131 = .ok (.aload_n 0, 1) := by decide +kernel
theorem dX8_init_132 : decode cX8_init 132 = .ok (.invokevirtual 59, 3) := by decide +kernel
theorem dX8_init_135 : decode cX8_init 135 = .ok (.aload_n 0, 1) := by decide +kernel
theorem dX8_init_136 : decode cX8_init 136 = .ok (.bipush 6, 2) := by decide +kernel
theorem dX8_init_138 : decode cX8_init 138 = .ok (.putfield 62, 3) := by decide +kernel
theorem dX8_init_141 : decode cX8_init 141 = .ok (.aload_n 0, 1) := by decide +kernel
theorem dX8_init_142 : decode cX8_init 142 = .ok (.iconst 0, 1) := by decide +kernel
theorem dX8_init_143 : decode cX8_init 143 = .ok (.iconst 1, 1) := by decide +kernel
theorem dX8_init_144 : decode cX8_init 144 = .ok (.iconst 2, 1) := by decide +kernel
theorem dX8_init_145 : decode cX8_init 145 = .ok (.iconst 1, 1) := by decide +kernel
theorem dX8_init_146 : decode cX8_init 146 = .ok (.invokevirtual 66, 3) := by decide +kernel
theorem dX8_init_149 : decode cX8_init 149 = .ok (.aload_n 0, 1) := by decide +kernel
theorem dX8_init_150 : decode cX8_init 150 = .ok (.iconst 1, 1) := by decide +kernel
theorem dX8_init_151 : decode cX8_init 151 = .ok (.iconst 2, 1) := by decide +kernel
theorem dX8_init_152 : decode cX8_init 152 = .ok (.iconst 1, 1) := by decide +kernel
theorem dX8_init_153 : decode cX8_init 153 = .ok (.iconst 1, 1) := by decide +kernel
theorem dX8_init_154 : decode cX8_init 154 = .ok (.invokevirtual 66, 3) := by decide +kernel
theorem dX8_init_157 : decode cX8_init 157 = .ok (.aload_n 0, 1) := by decide +kernel
theorem dX8_init_158 : decode cX8_init 158 = .ok (.iconst 2, 1) := by decide +kernel
theorem dX8_init_159 : decode cX8_init 159 = .ok (.iconst 3, 1) := by decide +kernel
theorem dX8_init_160 : decode cX8_init 160 = .ok (.iconst 3, 1) := by decide +kernel
theorem dX8_init_161 : decode cX8_init 161 = .ok (.iconst 1, 1) := by decide +kernel
theorem dX8_init_162 : decode cX8_init 162 = .ok (.invokevirtual 66, 3) := by decide +kernel
theorem dX8_init_165 : decode cX8_init 165 = .ok (.aload_n 0, 1) := by decide +kernel
theorem dX8_init_166 : decode cX8_init 166 = .ok (.iconst 3, 1) := by decide +kernel
theorem dX8_init_167 : decode cX8_init 167 = .ok (.iconst 4, 1) := by decide +kernel
theorem dX8_init_168 : decode cX8_init 168 = .ok (.iconst 1, 1) := by decide +kernel
theorem dX8_init_169 : decode cX8_init 169 = .ok (.iconst 2, 1) := by decide +kernel
theorem dX8_init_170 : decode cX8_init 170 = .ok (.invokevirtual 66, 3) := by decide +kernel
theorem dX8_init_173 : decode cX8_init 173 = .ok (.aload_n 0, 1) := by decide +kernel
theorem dX8_init_174 : decode cX8_init 174 = .ok (.iconst 4, 1) := by decide +kernel
theorem dX8_init_175 : decode cX8_init 175 = .ok (.iconst 5, 1) := by decide +kernel
theorem dX8_init_176 : decode cX8_init 176 = .ok (.iconst 1, 1) := by decide +kernel
theorem dX8_init_177 : decode cX8_init 177 = .ok (.iconst 1, 1) := by decide +kernel
theorem dX8_init_178 : decode cX8_init 178 = .ok (.invokevirtual 66, 3) := by decide +kernel
theorem dX8_init_181 : decode cX8_init 181 = .ok (.aload_n 0, 1) := by decide +kernel
theorem dX8_init_182 : decode cX8_init 182 = .ok (.iconst 5, 1) := by decide +kernel
theorem dX8_init_183 : decode cX8_init 183 = .ok (.iconst 0, 1) := by decide +kernel
theorem dX8_init_184 : decode cX8_init 184 = .ok (.iconst 2, 1) := by decide +kernel
theorem dX8_init_185 : decode cX8_init 185 = .ok (.iconst 2, 1) := by decide +kernel
theorem dX8_init_186 : decode cX8_init 186 = .ok (.invokevirtual 66, 3) := by decide +kernel
theorem dX8_init_189 : decode cX8_init 189 = .ok (.aload_n 0, 1) := by decide +kernel
theorem dX8_init_190 : decode cX8_init 190 = .ok (.iconst 1, 1) := by decide +kernel
theorem dX8_init_191 : decode cX8_init 191 = .ok (.iconst 4, 1) := by decide +kernel
theorem dX8_init_192 : decode cX8_init 192 = .ok (.iconst 1, 1) := by decide +kernel
theorem dX8_init_193 : decode cX8_init 193 = .ok (.iconst 1, 1) := by decide +kernel
theorem dX8_init_194 : decode cX8_init 194 = .ok (.invokevirtual 66, 3) := by decide +kernel
theorem dX8_init_197 : decode cX8_init 197 = .ok (.aload_n 0, 1) := by decide +kernel
theorem dX8_init_198 : decode cX8_init 198 = .ok (.getfield 31, 3) := by decide +kernel
theorem dX8_init_201 : decode cX8_init 201 = .ok (.iconst 2, 1) := by decide +kernel
theorem dX8_init_202 : decode cX8_init 202 = .ok (.iconst 4, 1) := by decide +kernel
theorem dX8_init_203 : decode cX8_init 203 = .ok (.iastore, 1) := by decide +kernel
theorem dX8_init_204 : decode cX8_init 204 = .ok (.aload_n 0, 1) := by decide +kernel
theorem dX8_init_205 : decode cX8_init 205 = .ok (.getfield 31, 3) := by decide +kernel
theorem dX8_init_208 : decode cX8_init 208 = .ok (.bipush 9, 2) := by decide +kernel
theorem dX8_init_210 : decode cX8_init 210 = .ok (.iconst 1, 1) := by decide +kernel
theorem dX8_init_211 : decode cX8_init 211 = .ok (.iastore, 1) := by decide +kernel
theorem dX8_init_212 : decode cX8_init 212 = .ok (.aload_n 0, 1) := by decide +kernel
theorem dX8_init_213 : decode cX8_init 213 = .ok (.getfield 31, 3) := by decide +kernel
theorem dX8_init_216 : decode cX8_init 216 = .ok (.bipush 10, 2) := by decide +kernel
theorem dX8_init_218 : decode cX8_init 218 = .ok (.iconst 1, 1) := by decide +kernel
theorem dX8_init_219 : decode cX8_init 219 = .ok (.iastore, 1) := by decide +kernel
theorem dX8_init_220 : decode cX8_init 220 = .ok (.aload_n 0, 1) := by decide +kernel
theorem dX8_init_221 : decode cX8_init 221 = .ok (.getfield 31, 3) := by decide +kernel
end
section
theorem dX8_init_224 : decode cX8_init 224 = .ok (.bipush 11, 2) := by decide +kernel
theorem dX8_init_226 : decode cX8_init 226 = .ok (.iconst 1, 1) := by decide +kernel
theorem dX8_init_227 : decode cX8_init 227 = .ok (.iastore, 1) := by decide +kernel
theorem dX8_init_228 : decode cX8_init 228 = .ok (.aload_n 0, 1) := by decide +kernel
theorem dX8_init_229 : decode cX8_init 229 = .ok (.invokevirtual 70, 3) := by decide +kernel
theorem dX8_init_232 : decode cX8_init 232 = .ok (.return_, 1) := by decide +kernel
theorem dX8_joinOf_0 : decode cX8_joinOf 0 = .ok (.aload_n 0, 1) := by decide +kernel
theorem dX8_joinOf_1 : decode cX8_joinOf 1 = .ok (.getfield 25, 3) := by decide +kernel
theorem dX8_joinOf_4 : decode cX8_joinOf 4 = .ok (.bipush 6, 2) := by decide +kernel
theorem dX8_joinOf_6 : decode cX8_joinOf 6 = .ok (.iload_n 1, 1) := by decide +kernel
theorem dX8_joinOf_7 : decode cX8_joinOf 7 = .ok (.imul, 1) := by decide +kernel
theorem dX8_joinOf_8 : decode cX8_joinOf 8 = .ok (.iload_n 2, 1) := by decide +kernel
theorem dX8_joinOf_9 : decode cX8_joinOf 9 = .ok (.iadd, 1) := by decide +kernel
theorem dX8_joinOf_10 : decode cX8_joinOf 10 = .ok (.iload_n 3, 1) := by decide +kernel
theorem dX8_joinOf_11 : decode cX8_joinOf 11 = .ok (.iastore, 1) := by decide +kernel
theorem dX8_joinOf_12 : decode cX8_joinOf 12 = .ok (.aload_n 0, 1) := by decide +kernel
theorem dX8_joinOf_13 : decode cX8_joinOf 13 = .ok (.getfield 25, 3) := by decide +kernel
theorem dX8_joinOf_16 : decode cX8_joinOf 16 = .ok (.bipush 6, 2) := by decide +kernel
theorem dX8_joinOf_18 : decode cX8_joinOf 18 = .ok (.iload_n 2, 1) := by decide +kernel
theorem dX8_joinOf_19 : decode cX8_joinOf 19 = .ok (.imul, 1) := by decide +kernel
theorem dX8_joinOf_20 : decode cX8_joinOf 20 = .ok (.iload_n 1, 1) := by decide +kernel
theorem dX8_joinOf_21 : decode cX8_joinOf 21 = .ok (.iadd, 1) := by decide +kernel
theorem dX8_joinOf_22 : decode cX8_joinOf 22 = .ok (.iload 4, 2) := by decide +kernel
theorem dX8_joinOf_24 : decode cX8_joinOf 24 = .ok (.iastore, 1) := by decide +kernel
theorem dX8_joinOf_25 : decode cX8_joinOf 25 = .ok (.aload_n 0, 1) := by decide +kernel
theorem dX8_joinOf_26 : decode cX8_joinOf 26 = .ok (.dup, 1) := by decide +kernel
theorem dX8_joinOf_27 : decode cX8_joinOf 27 = .ok (.getfield 73, 3) := by decide +kernel
theorem dX8_joinOf_30 : decode cX8_joinOf 30 = .ok (.iconst 1, 1) := by decide +kernel
theorem dX8_joinOf_31 : decode cX8_joinOf 31 = .ok (.iadd, 1) := by decide +kernel
theorem dX8_joinOf_32 : decode cX8_joinOf 32 = .ok (.putfield 73, 3) := by decide +kernel
theorem dX8_joinOf_35 : decode cX8_joinOf 35 = .ok (.return_, 1) := by decide +kernel
theorem dX8_isIn_0 : decode cX8_isIn 0 = .ok (.iload_n 0, 1) := by decide +kernel
theorem dX8_isIn_1 : decode cX8_isIn 1 = .ok (.iload_n 1, 1) := by decide +kernel
theorem dX8_isIn_2 : decode cX8_isIn 2 = .ok (.if_icmp .lt 12, 3) := by decide +kernel
theorem dX8_isIn_5 : decode cX8_isIn 5 = .ok (.iload_n 0, 1) := by decide +kernel
theorem dX8_isIn_6 : decode cX8_isIn 6 = .ok (.iload_n 2, 1) := by decide +kernel
theorem dX8_isIn_7 : decode cX8_isIn 7 = .ok (.if_icmp .gt 7, 3) := by decide +kernel
theorem dX8_isIn_10 : decode cX8_isIn 10 = .ok (.iconst 1, 1) := by decide +kernel
theorem dX8_isIn_11 : decode cX8_isIn 11 = .ok (.goto 4, 3) := by decide +kernel
theorem dX8_isIn_14 : decode cX8_isIn 14 = .ok (.iconst 0, 1) := by decide +kernel
theorem dX8_isIn_15 : decode cX8_isIn 15 = .ok (.ireturn, 1) := by decide +kernel
theorem dX8_clears_0 : decode cX8_clears 0 = .ok (.aload_n 0, 1) := by decide +kernel
theorem dX8_clears_1 : decode cX8_clears 1 = .ok (.iconst 0, 1) := by decide +kernel
theorem dX8_clears_2 : decode cX8_clears 2 = .ok (.putfield 62, 3) := by decide +kernel
theorem dX8_clears_5 : decode cX8_clears 5 = .ok (.aload_n 0, 1) := by decide +kernel
theorem dX8_clears_6 : decode cX8_clears 6 = .ok (.iconst 0, 1) := by decide +kernel
theorem dX8_clears_7 : decode cX8_clears 7 = .ok (.putfield 73, 3) := by decide +kernel
theorem dX8_clears_10 : decode cX8_clears 10 = .ok (.iconst 0, 1) := by decide +kernel
theorem dX8_clears_11 : decode cX8_clears 11 = .ok (.istore_n 1, 1) := by decide +kernel
theorem dX8_clears_12 : decode cX8_clears 12 = .ok (.iload_n 1, 1) := by decide +kernel
theorem dX8_clears_13 : decode cX8_clears 13 = .ok (.bipush 36, 2) := by decide +kernel
theorem dX8_clears_15 : decode cX8_clears 15 = .ok (.if_icmp .ge 16, 3) := by decide +kernel
theorem dX8_clears_18 : decode cX8_clears 18 = .ok (.aload_n 0, 1) := by decide +kernel
theorem dX8_clears_19 : decode cX8_clears 19 = .ok (.getfield 25, 3) := by decide +kernel
theorem dX8_clears_22 : decode cX8_clears 22 = .ok (.iload_n 1, 1) := by decide +kernel
theorem dX8_clears_23 : decode cX8_clears 23 = .ok (.iconst 0, 1) := by decide +kernel
theorem dX8_clears_24 : decode cX8_clears 24 = .ok (.iastore, 1) := by decide +kernel
theorem dX8_clears_25 : decode cX8_clears 25 = .ok (.iinc 1 1, 3) := by decide +kernel
theorem dX8_clears_28 : decode cX8_clears 28 = .ok (.goto (-16), 3) := by decide +kernel
theorem dX8_clears_31 : decode cX8_clears 31 = .ok (.iconst 0, 1) := by decide +kernel
theorem dX8_clears_32 : decode cX8_clears 32 = .ok (.istore_n 1, 1) := by decide +kernel
theorem dX8_clears_33 : decode cX8_clears 33 = .ok (.iload_n 1, 1) := by decide +kernel
theorem dX8_clears_34 : decode cX8_clears 34 = .ok (.bipush 20, 2) := by decide +kernel
theorem dX8_clears_36 : decode cX8_clears 36 = .ok (.if_icmp .ge 26, 3) := by decide +kernel
theorem dX8_clears_39 : decode cX8_clears 39 = .ok (.aload_n 0, 1) := by decide +kernel
theorem dX8_clears_40 : decode cX8_clears 40 = .ok (.getfield 31, 3) := by decide +kernel
theorem dX8_clears_43 : decode cX8_clears 43 = .ok (.iload_n 1, 1) := by decide +kernel
theorem dX8_clears_44 : decode cX8_clears 44 = .ok (.iload_n 1, 1) := by decide +kernel
theorem dX8_clears_45 : decode cX8_clears 45 = .ok (.bipush 6, 2) := by decide +kernel
theorem dX8_clears_47 : decode cX8_clears 47 = .ok (.if_icmp .ge 7, 3) := by decide +kernel
theorem dX8_clears_50 : decode cX8_clears 50 = .ok (.iconst 1, 1) := by decide +kernel
theorem dX8_clears_51 : decode cX8_clears 51 = .ok (.goto 4, 3) := by decide +kernel
theorem dX8_clears_54 : decode cX8_clears 54 = .ok (.iconst 0, 1) := by decide +kernel
theorem dX8_clears_55 : decode cX8_clears 55 = .ok (.iastore, 1) := by decide +kernel
theorem dX8_clears_56 : decode cX8_clears 56 = .ok (.iinc 1 1, 3) := by decide +kernel
theorem dX8_clears_59 : decode cX8_clears 59 = .ok (.goto (-26), 3) := by decide +kernel
theorem dX8_clears_62 : decode cX8_clears 62 = .ok (.aload_n 0, 1) := by decide +kernel
theorem dX8_clears_63 : decode cX8_clears 63 = .ok (.getfield 28, 3) := by decide +kernel
theorem dX8_clears_66 : decode cX8_clears 66 = .ok (.iconst 0, 1) := by decide +kernel
theorem dX8_clears_67 : decode cX8_clears 67 = .ok (.iconst 2, 1) := by decide +kernel
theorem dX8_clears_68 : decode cX8_clears 68 = .ok (.iastore, 1) := by decide +kernel
theorem dX8_clears_69 : decode cX8_clears 69 = .ok (.aload_n 0, 1) := by decide +kernel
theorem dX8_clears_70 : decode cX8_clears 70 = .ok (.getfield 28, 3) := by decide +kernel
theorem dX8_clears_73 : decode cX8_clears 73 = .ok (.iconst 1, 1) := by decide +kernel
theorem dX8_clears_74 : decode cX8_clears 74 = .ok (.iconst 1, 1) := by decide +kernel
theorem dX8_clears_75 : decode cX8_clears 75 = .ok (.iastore, 1) := by decide +kernel
theorem dX8_clears_76 : decode cX8_clears 76 = .ok (.aload_n 0, 1) := by decide +kernel
theorem dX8_clears_77 : decode cX8_clears 77 = .ok (.getfield 28, 3) := by decide +kernel
theorem dX8_clears_80 : decode cX8_clears 80 = .ok (.iconst 2, 1) := by decide +kernel
theorem dX8_clears_81 : decode cX8_clears 81 = .ok (.iconst 5, 1) := by decide +kernel
theorem dX8_clears_82 : decode cX8_clears 82 = .ok (.iastore, 1) := by decide +kernel
theorem dX8_clears_83 : decode cX8_clears 83 = .ok (.aload_n 0, 1) := by decide +kernel
theorem dX8_clears_84 : decode cX8_clears 84 = .ok (.getfield 28, 3) := by decide +kernel
theorem dX8_clears_87 : decode cX8_clears 87 = .ok (.iconst 3, 1) := by decide +kernel
theorem dX8_clears_88 : decode cX8_clears 88 = .ok (.bipush 10, 2) := by decide +kernel
theorem dX8_clears_90 : decode cX8_clears 90 = .ok (.iastore, 1) := by decide +kernel
theorem dX8_clears_91 : decode cX8_clears 91 = .ok (.return_, 1) := by decide +kernel
theorem dX8_takes_0 : decode cX8_takes 0 = .ok (.aload_n 0, 1) := by decide +kernel
theorem dX8_takes_1 : decode cX8_takes 1 = .ok (.aload_n 0, 1) := by decide +kernel
theorem dX8_takes_2 : decode cX8_takes 2 = .ok (.getfield 62, 3) := by decide +kernel
theorem dX8_takes_5 : decode cX8_takes 5 = .ok (.putfield 76, 3) := by decide +kernel
theorem dX8_takes_8 : decode cX8_takes 8 = .ok (.aload_n 0, 1) := by decide +kernel
theorem dX8_takes_9 : decode cX8_takes 9 = .ok (.aload_n 0, 1) := by decide +kernel
theorem dX8_takes_10 : decode cX8_takes 10 = .ok (.getfield 73, 3) := by decide +kernel
theorem dX8_takes_13 : decode cX8_takes 13 = .ok (.putfield 79, 3) := by decide +kernel
theorem dX8_takes_16 : decode cX8_takes 16 = .ok (.iconst 0, 1) := by decide +kernel
theorem dX8_takes_17 : decode cX8_takes 17 = .ok (.istore_n 1, 1) := by decide +kernel
theorem dX8_takes_18 : decode cX8_takes 18 = .ok (.iload_n 1, 1) := by decide +kernel
theorem dX8_takes_19 : decode cX8_takes 19 = .ok (.bipush 36, 2) := by decide +kernel
theorem dX8_takes_21 : decode cX8_takes 21 = .ok (.if_icmp .ge 21, 3) := by decide +kernel
theorem dX8_takes_24 : decode cX8_takes 24 = .ok (.aload_n 0, 1) := by decide +kernel
theorem dX8_takes_25 : decode cX8_takes 25 = .ok (.getfield 13, 3) := by decide +kernel
theorem dX8_takes_28 : decode cX8_takes 28 = .ok (.iload_n 1, 1) := by decide +kernel
theorem dX8_takes_29 : decode cX8_takes 29 = .ok (.aload_n 0, 1) := by decide +kernel
theorem dX8_takes_30 : decode cX8_takes 30 = .ok (.getfield 25, 3) := by decide +kernel
theorem dX8_takes_33 : decode cX8_takes 33 = .ok (.iload_n 1, 1) := by decide +kernel
theorem dX8_takes_34 : decode cX8_takes 34 = .ok (.iaload, 1) := by decide +kernel
theorem dX8_takes_35 : decode cX8_takes 35 = .ok (.iastore, 1) := by decide +kernel
theorem dX8_takes_36 : decode cX8_takes 36 = .ok (.iinc 1 1, 3) := by decide +kernel
theorem dX8_takes_39 : decode cX8_takes 39 = .ok (.goto (-21), 3) := by decide +kernel
theorem dX8_takes_42 : decode cX8_takes 42 = .ok (.iconst 0, 1) := by decide +kernel
theorem dX8_takes_43 : decode cX8_takes 43 = .ok (.istore_n 1, 1) := by decide +kernel
theorem dX8_takes_44 : decode cX8_takes 44 = .ok (.iload_n 1, 1) := by decide +kernel
theorem dX8_takes_45 : decode cX8_takes 45 = .ok (.bipush 20, 2) := by decide +kernel
theorem dX8_takes_47 : decode cX8_takes 47 = .ok (.if_icmp .ge 21, 3) := by decide +kernel
theorem dX8_takes_50 : decode cX8_takes 50 = .ok (.aload_n 0, 1) := by decide +kernel
theorem dX8_takes_51 : decode cX8_takes 51 = .ok (.getfield 19, 3) := by decide +kernel
theorem dX8_takes_54 : decode cX8_takes 54 = .ok (.iload_n 1, 1) := by decide +kernel
theorem dX8_takes_55 : decode cX8_takes 55 = .ok (.aload_n 0, 1) := by decide +kernel
theorem dX8_takes_56 : decode cX8_takes 56 = .ok (.getfield 31, 3) := by decide +kernel
theorem dX8_takes_59 : decode cX8_takes 59 = .ok (.iload_n 1, 1) := by decide +kernel
theorem dX8_takes_60 : decode cX8_takes 60 = .ok (.iaload, 1) := by decide +kernel
theorem dX8_takes_61 : decode cX8_takes 61 = .ok (.iastore, 1) := by decide +kernel
theorem dX8_takes_62 : decode cX8_takes 62 = .ok (.iinc 1 1, 3) := by decide +kernel
theorem dX8_takes_65 : decode cX8_takes 65 = .ok (.goto (-21), 3) := by decide +kernel
theorem dX8_takes_68 : decode cX8_takes 68 = .ok (.iconst 0, 1) := by decide +kernel
theorem dX8_takes_69 : decode cX8_takes 69 = .ok (.istore_n 1, 1) := by decide +kernel
theorem dX8_takes_70 : decode cX8_takes 70 = .ok (.iload_n 1, 1) := by decide +kernel
theorem dX8_takes_71 : decode cX8_takes 71 = .ok (.iconst 4, 1) := by decide +kernel
theorem dX8_takes_72 : decode cX8_takes 72 = .ok (.if_icmp .ge 21, 3) := by decide +kernel
theorem dX8_takes_75 : decode cX8_takes 75 = .ok (.aload_n 0, 1) := by decide +kernel
theorem dX8_takes_76 : decode cX8_takes 76 = .ok (.getfield 16, 3) := by decide +kernel
theorem dX8_takes_79 : decode cX8_takes 79 = .ok (.iload_n 1, 1) := by decide +kernel
theorem dX8_takes_80 : decode cX8_takes 80 = .ok (.aload_n 0, 1) := by decide +kernel
theorem dX8_takes_81 : decode cX8_takes 81 = .ok (.getfield 28, 3) := by decide +kernel
theorem dX8_takes_84 : decode cX8_takes 84 = .ok (.iload_n 1, 1) := by decide +kernel
theorem dX8_takes_85 : decode cX8_takes 85 = .ok (.iaload, 1) := by decide +kernel
theorem dX8_takes_86 : decode cX8_takes 86 = .ok (.iastore, 1) := by decide +kernel
theorem dX8_takes_87 : decode cX8_takes 87 = .ok (.iinc 1 1, 3) := by decide +kernel
theorem dX8_takes_90 : decode cX8_takes 90 = .ok (.goto (-20), 3) := by decide +kernel
theorem dX8_takes_93 : decode cX8_takes 93 = .ok (.aload_n 0, 1) := by decide +kernel
theorem dX8_takes_94 : decode cX8_takes 94 = .ok (.iconst 0, 1) := by decide +kernel
theorem dX8_takes_95 : decode cX8_takes 95 = .ok (.putfield 82, 3) := by decide +kernel
theorem dX8_takes_98 : decode cX8_takes 98 = .ok (.return_, 1) := by decide +kernel
theorem dX8_letterAt_0 : decode cX8_letterAt 0 = .ok (.iload_n 1, 1) := by decide +kernel
theorem dX8_letterAt_1 : decode cX8_letterAt 1 = .ok (.aload_n 0, 1) := by decide +kernel
theorem dX8_letterAt_2 : decode cX8_letterAt 2 = .ok (.getfield 85, 3) := by decide +kernel
theorem dX8_letterAt_5 : decode cX8_letterAt 5 = .ok (.if_icmp .ge 12, 3) := by decide +kernel
theorem dX8_letterAt_8 : decode cX8_letterAt 8 = .ok (.aload_n 0, 1) := by decide +kernel
theorem dX8_letterAt_9 : decode cX8_letterAt 9 = .ok (.getfield 7, 3) := by decide +kernel
theorem dX8_letterAt_12 : decode cX8_letterAt 12 = .ok (.iload_n 1, 1) := by decide +kernel
theorem dX8_letterAt_13 : decode cX8_letterAt 13 = .ok (.iaload, 1) := by decide +kernel
theorem dX8_letterAt_14 : decode cX8_letterAt 14 = .ok (.goto 4, 3) := by decide +kernel
theorem dX8_letterAt_17 : decode cX8_letterAt 17 = .ok (.iconst 0, 1) := by decide +kernel
theorem dX8_letterAt_18 : decode cX8_letterAt 18 = .ok (.ireturn, 1) := by decide +kernel
set_option maxRecDepth 20000 in
theorem ggX8_number_X8_letterAt : GoodIn wsX8_number wsX8_letterAt := goodIn_r _ [8, 9, 3, 13, 14, 15, 16, 17, 18, 19, 20, 21, 22, 23, 24, 25, 26, 27, 28, 29, 30, 31, 32, 33, 34, 35, 36, 37, 38] (by decide +kernel) (by decide +kernel)
set_option maxRecDepth 20000 in
theorem gX8_number_X8_letterAt : GoodIn wsX8_number (wsV RX8 94 RX8 yX8_letterAt wsX8_letterAt) := goodIn_app (goodIn_of _ (by decide +kernel)) ggX8_number_X8_letterAt
set_option maxRecDepth 20000 in
theorem ggX8_number_X8_isIn : GoodIn wsX8_number wsX8_isIn := goodIn_r _ [12] (by decide +kernel) (by decide +kernel)
set_option maxRecDepth 20000 in
theorem gX8_number_X8_isIn : GoodIn wsX8_number (va_wsS RX8 98 yX8_isIn wsX8_isIn) := goodIn_app (goodIn_of _ (by decide +kernel)) ggX8_number_X8_isIn
theorem dX8_number_0 : decode cX8_number 0 = .ok (.aload_n 0, 1) := by decide +kernel
theorem dX8_number_1 : decode cX8_number 1 = .ok (.iconst 0, 1) := by decide +kernel
theorem dX8_number_2 : decode cX8_number 2 = .ok (.putfield 88, 3) := by decide +kernel
theorem dX8_number_5 : decode cX8_number 5 = .ok (.aload_n 0, 1) := by decide +kernel
theorem dX8_number_6 : decode cX8_number 6 = .ok (.iload_n 1, 1) := by decide +kernel
theorem dX8_number_7 : decode cX8_number 7 = .ok (.putfield 91, 3) := by decide +kernel
theorem dX8_number_10 : decode cX8_number 10 = .ok (.aload_n 0, 1) := by decide +kernel
theorem dX8_number_11 : decode cX8_number 11 = .ok (.getfield 91, 3) := by decide +kernel
theorem dX8_number_14 : decode cX8_number 14 = .ok (.iload_n 1, 1) := by decide +kernel
theorem dX8_number_15 : decode cX8_number 15 = .ok (.iconst 2, 1) := by decide +kernel
theorem dX8_number_16 : decode cX8_number 16 = .ok (.iadd, 1) := by decide +kernel
theorem dX8_number_17 : decode cX8_number 17 = .ok (.if_icmp .ge 66, 3) := by decide +kernel
theorem dX8_number_20 : decode cX8_number 20 = .ok (.aload_n 0, 1) := by decide +kernel
theorem dX8_number_21 : decode cX8_number 21 = .ok (.aload_n 0, 1) := by decide +kernel
theorem dX8_number_22 : decode cX8_number 22 = .ok (.getfield 91, 3) := by decide +kernel
theorem dX8_number_25 : decode cX8_number 25 = .ok (.invokevirtual 94, 3) := by decide +kernel
theorem dX8_number_28 : decode cX8_number 28 = .ok (.bipush 48, 2) := by decide +kernel
theorem dX8_number_30 : decode cX8_number 30 = .ok (.if_icmp .lt 53, 3) := by decide +kernel
theorem dX8_number_33 : decode cX8_number 33 = .ok (.aload_n 0, 1) := by decide +kernel
theorem dX8_number_34 : decode cX8_number 34 = .ok (.aload_n 0, 1) := by decide +kernel
theorem dX8_number_35 : decode cX8_number 35 = .ok (.getfield 91, 3) := by decide +kernel
theorem dX8_number_38 : decode cX8_number 38 = .ok (.invokevirtual 94, 3) := by decide +kernel
theorem dX8_number_41 : decode cX8_number 41 = .ok (.bipush 57, 2) := by decide +kernel
theorem dX8_number_43 : decode cX8_number 43 = .ok (.if_icmp .gt 40, 3) := by decide +kernel
theorem dX8_number_46 : decode cX8_number 46 = .ok (.aload_n 0, 1) := by decide +kernel
theorem dX8_number_47 : decode cX8_number 47 = .ok (.bipush 10, 2) := by decide +kernel
theorem dX8_number_49 : decode cX8_number 49 = .ok (.aload_n 0, 1) := by decide +kernel
theorem dX8_number_50 : decode cX8_number 50 = .ok (.getfield 88, 3) := by decide +kernel
theorem dX8_number_53 : decode cX8_number 53 = .ok (.imul, 1) := by decide +kernel
theorem dX8_number_54 : decode cX8_number 54 = .ok (.aload_n 0, 1) := by decide +kernel
theorem dX8_number_55 : decode cX8_number 55 = .ok (.getfield 7, 3) := by decide +kernel
theorem dX8_number_58 : decode cX8_number 58 = .ok (.aload_n 0, 1) := by decide +kernel
theorem dX8_number_59 : decode cX8_number 59 = .ok (.getfield 91, 3) := by decide +kernel
theorem dX8_number_62 : decode cX8_number 62 = .ok (.iaload, 1) := by decide +kernel
theorem dX8_number_63 : decode cX8_number 63 = .ok (.iadd, 1) := by decide +kernel
theorem dX8_number_64 : decode cX8_number 64 = .ok (.bipush 48, 2) := by decide +kernel
theorem dX8_number_66 : decode cX8_number 66 = .ok (.isub, 1) := by decide +kernel
theorem dX8_number_67 : decode cX8_number 67 = .ok (.putfield 88, 3) := by decide +kernel
theorem dX8_number_70 : decode cX8_number 70 = .ok (.aload_n 0, 1) := by decide +kernel
theorem dX8_number_71 : decode cX8_number 71 = .ok (.dup, 1) := by decide +kernel
theorem dX8_number_72 : decode cX8_number 72 = .ok (.getfield 91, 3) := by decide +kernel
theorem dX8_number_75 : decode cX8_number 75 = .ok (.iconst 1, 1) := by decide +kernel
theorem dX8_number_76 : decode cX8_number 76 = .ok (.iadd, 1) := by decide +kernel
theorem dX8_number_77 : decode cX8_number 77 = .ok (.putfield 91, 3) := by decide +kernel
theorem dX8_number_80 : decode cX8_number 80 = .ok (.goto (-70), 3) := by decide +kernel
theorem dX8_number_83 : decode cX8_number 83 = .ok (.aload_n 0, 1) := by decide +kernel
theorem dX8_number_84 : decode cX8_number 84 = .ok (.getfield 91, 3) := by decide +kernel
theorem dX8_number_87 : decode cX8_number 87 = .ok (.iload_n 1, 1) := by decide +kernel
theorem dX8_number_88 : decode cX8_number 88 = .ok (.if_icmp .le 19, 3) := by decide +kernel
theorem dX8_number_91 : decode cX8_number 91 = .ok (.aload_n 0, 1) := by decide +kernel
theorem dX8_number_92 : decode cX8_number 92 = .ok (.getfield 88, 3) := by decide +kernel
theorem dX8_number_95 : decode cX8_number 95 = .ok (.iload_n 2, 1) := by decide +kernel
theorem dX8_number_96 : decode cX8_number 96 = .ok (.iload_n 3, 1) := by decide +kernel
theorem dX8_number_97 : decode cX8_number 97 = .ok (.invokestatic 98, 3) := by decide +kernel
theorem dX8_number_100 : decode cX8_number 100 = .ok (.ifCond .eq 7, 3) := by decide +kernel
theorem dX8_number_103 : decode cX8_number 103 = .ok (.iconst 1, 1) := by decide +kernel
theorem dX8_number_104 : decode cX8_number 104 = .ok (.goto 4, 3) := by decide +kernel
theorem dX8_number_107 : decode cX8_number 107 = .ok (.iconst 0, 1) := by decide +kernel
theorem dX8_number_108 : decode cX8_number 108 = .ok (.ireturn, 1) := by decide +kernel
set_option maxRecDepth 20000 in
theorem ggX8_more_X8_letterAt : GoodIn wsX8_more wsX8_letterAt := goodIn_r _ [6, 7, 8, 17, 18, 19, 20, 21, 22, 23, 24, 25, 26, 27, 28, 29, 30, 31, 32, 33, 34, 35, 36, 37, 38, 39, 40, 41, 42] (by decide +kernel) (by decide +kernel)
set_option maxRecDepth 20000 in
theorem gX8_more_X8_letterAt : GoodIn wsX8_more (wsV RX8 94 RX8 yX8_letterAt wsX8_letterAt) := goodIn_app (goodIn_of _ (by decide +kernel)) ggX8_more_X8_letterAt
set_option maxRecDepth 20000 in
theorem ggX8_more_X8_number : GoodIn wsX8_more wsX8_number := goodIn_r _ [12, 13, 1, 8, 2, 3, 4, 5, 6, 7, 14, 15, 16, 17, 18, 19, 20, 21, 22, 23, 24, 25, 26, 27, 28, 29, 30, 31, 32, 33, 34, 35, 36, 37, 38, 39, 40, 41, 42] (by decide +kernel) (by decide +kernel)
set_option maxRecDepth 20000 in
theorem gX8_more_X8_number : GoodIn wsX8_more (wsV RX8 102 RX8 yX8_number wsX8_number) := goodIn_app (goodIn_of _ (by decide +kernel)) ggX8_more_X8_number
theorem dX8_more_0 : decode cX8_more 0 = .ok (.aload_n 0, 1) := by decide +kernel
theorem dX8_more_1 : decode cX8_more 1 = .ok (.aload_n 0, 1) := by decide +kernel
theorem dX8_more_2 : decode cX8_more 2 = .ok (.getfield 91, 3) := by decide +kernel
theorem dX8_more_5 : decode cX8_more 5 = .ok (.invokevirtual 94, 3) := by decide +kernel
theorem dX8_more_8 : decode cX8_more 8 = .ok (.bipush 44, 2) := by decide +kernel
theorem dX8_more_10 : decode cX8_more 10 = .ok (.if_icmp .ne 22, 3) := by decide +kernel
theorem dX8_more_13 : decode cX8_more 13 = .ok (.aload_n 0, 1) := by decide +kernel
theorem dX8_more_14 : decode cX8_more 14 = .ok (.aload_n 0, 1) := by decide +kernel
theorem dX8_more_15 : decode cX8_more 15 = .ok (.getfield 91, 3) := by decide +kernel
theorem dX8_more_18 : decode cX8_more 18 = .ok (.iconst 1, 1) := by decide +kernel
theorem dX8_more_19 : decode cX8_more 19 = .ok (.iadd, 1) := by decide +kernel
theorem dX8_more_20 : decode cX8_more 20 = .ok (.iload_n 1, 1) := by decide +kernel
theorem dX8_more_21 : decode cX8_more 21 = .ok (.iload_n 2, 1) := by decide +kernel
theorem dX8_more_22 : decode cX8_more 22 = .ok (.invokevirtual 102, 3) := by decide +kernel
theorem dX8_more_25 : decode cX8_more 25 = .ok (.ifCond .eq 7, 3) := by decide +kernel
theorem dX8_more_28 : decode cX8_more 28 = .ok (.iconst 1, 1) := by decide +kernel
theorem dX8_more_29 : decode cX8_more 29 = .ok (.goto 4, 3) := by decide +kernel
theorem dX8_more_32 : decode cX8_more 32 = .ok (.iconst 0, 1) := by decide +kernel
theorem dX8_more_33 : decode cX8_more 33 = .ok (.ireturn, 1) := by decide +kernel
set_option maxRecDepth 20000 in
theorem ggX8_readsJoin_X8_number : GoodIn wsX8_readsJoin wsX8_number := goodIn_r _ [8, 2, 9, 10, 11, 12, 13, 7, 14, 15, 16, 17, 18, 28, 29, 30, 31, 32, 33, 34, 35, 36, 37, 38, 39, 40, 41, 42, 43, 44, 45, 46, 47, 48, 49, 50, 51, 52, 53] (by decide +kernel) (by decide +kernel)
set_option maxRecDepth 20000 in
theorem gX8_readsJoin_X8_number : GoodIn wsX8_readsJoin (wsV RX8 102 RX8 yX8_number wsX8_number) := goodIn_app (goodIn_of _ (by decide +kernel)) ggX8_readsJoin_X8_number
set_option maxRecDepth 20000 in
theorem ggX8_readsJoin_X8_more : GoodIn wsX8_readsJoin wsX8_more := goodIn_r _ [22, 9, 11, 12, 13, 7, 14, 15, 10, 4, 5, 6, 8, 2, 16, 17, 18, 28, 29, 30, 31, 32, 33, 34, 35, 36, 37, 38, 39, 40, 41, 42, 43, 44, 45, 46, 47, 48, 49, 50, 51, 52, 53] (by decide +kernel) (by decide +kernel)
set_option maxRecDepth 20000 in
theorem gX8_readsJoin_X8_more : GoodIn wsX8_readsJoin (wsV RX8 105 RX8 yX8_more wsX8_more) := goodIn_app (goodIn_of _ (by decide +kernel)) ggX8_readsJoin_X8_more
set_option maxRecDepth 20000 in
theorem ggX8_readsJoin_X8_joinOf : GoodIn wsX8_readsJoin wsX8_joinOf := goodIn_r _ [26, 3, 27, 28, 29, 30, 31, 32, 33, 34, 35, 36, 37, 38, 39, 40, 41, 42, 43, 44, 45, 46, 47, 48, 49, 50, 51, 52, 53] (by decide +kernel) (by decide +kernel)
set_option maxRecDepth 20000 in
theorem gX8_readsJoin_X8_joinOf : GoodIn wsX8_readsJoin (wsV RX8 66 RX8 yX8_joinOf wsX8_joinOf) := goodIn_app (goodIn_of _ (by decide +kernel)) ggX8_readsJoin_X8_joinOf
theorem dX8_readsJoin_0 : decode cX8_readsJoin 0 = .ok (.aload_n 0, 1) := by decide +kernel
theorem dX8_readsJoin_1 : decode cX8_readsJoin 1 = .ok (.iload_n 1, 1) := by decide +kernel
theorem dX8_readsJoin_2 : decode cX8_readsJoin 2 = .ok (.iconst 0, 1) := by decide +kernel
theorem dX8_readsJoin_3 : decode cX8_readsJoin 3 = .ok (.aload_n 0, 1) := by decide +kernel
theorem dX8_readsJoin_4 : decode cX8_readsJoin 4 = .ok (.getfield 62, 3) := by decide +kernel
theorem dX8_readsJoin_7 : decode cX8_readsJoin 7 = .ok (.iconst 1, 1) := by decide +kernel
theorem dX8_readsJoin_8 : decode cX8_readsJoin 8 = .ok (.isub, 1) := by decide +kernel
theorem dX8_readsJoin_9 : decode cX8_readsJoin 9 = .ok (.invokevirtual 102, 3) := by decide +kernel
theorem dX8_readsJoin_12 : decode cX8_readsJoin 12 = .ok (.ifCond .ne 5, 3) := by decide +kernel
theorem dX8_readsJoin_15 : decode cX8_readsJoin 15 = .ok (.iconst 0, 1) := by decide +kernel
theorem dX8_readsJoin_16 : decode cX8_readsJoin 16 = .ok (.ireturn, 1) := by decide +kernel
theorem dX8_readsJoin_17 : decode cX8_readsJoin 17 = .ok (.aload_n 0, 1) := by decide +kernel
theorem dX8_readsJoin_18 : decode cX8_readsJoin 18 = .ok (.getfield 88, 3) := by decide +kernel
theorem dX8_readsJoin_21 : decode cX8_readsJoin 21 = .ok (.istore_n 2, 1) := by decide +kernel
theorem dX8_readsJoin_22 : decode cX8_readsJoin 22 = .ok (.aload_n 0, 1) := by decide +kernel
theorem dX8_readsJoin_23 : decode cX8_readsJoin 23 = .ok (.iconst 0, 1) := by decide +kernel
theorem dX8_readsJoin_24 : decode cX8_readsJoin 24 = .ok (.aload_n 0, 1) := by decide +kernel
theorem dX8_readsJoin_25 : decode cX8_readsJoin 25 = .ok (.getfield 62, 3) := by decide +kernel
theorem dX8_readsJoin_28 : decode cX8_readsJoin 28 = .ok (.iconst 1, 1) := by decide +kernel
theorem dX8_readsJoin_29 : decode cX8_readsJoin 29 = .ok (.isub, 1) := by decide +kernel
theorem dX8_readsJoin_30 : decode cX8_readsJoin 30 = .ok (.invokevirtual 105, 3) := by decide +kernel
theorem dX8_readsJoin_33 : decode cX8_readsJoin 33 = .ok (.ifCond .ne 5, 3) := by decide +kernel
theorem dX8_readsJoin_36 : decode cX8_readsJoin 36 = .ok (.iconst 0, 1) := by decide +kernel
theorem dX8_readsJoin_37 : decode cX8_readsJoin 37 = .ok (.ireturn, 1) := by decide +kernel
theorem dX8_readsJoin_38 : decode cX8_readsJoin 38 = .ok (.aload_n 0, 1) := by decide +kernel
theorem dX8_readsJoin_39 : decode cX8_readsJoin 39 = .ok (.getfield 88, 3) := by decide +kernel
theorem dX8_readsJoin_42 : decode cX8_readsJoin 42 = .ok (.istore_n 3, 1) := by decide +kernel
theorem dX8_readsJoin_43 : decode cX8_readsJoin 43 = .ok (.iload_n 2, 1) := by decide +kernel
theorem dX8_readsJoin_44 : decode cX8_readsJoin 44 = .ok (.iload_n 3, 1) := by decide +kernel
theorem dX8_readsJoin_45 : decode cX8_readsJoin 45 = .ok (.if_icmp .eq 26, 3) := by decide +kernel
theorem dX8_readsJoin_48 : decode cX8_readsJoin 48 = .ok (.aload_n 0, 1) := by decide +kernel
theorem dX8_readsJoin_49 : decode cX8_readsJoin 49 = .ok (.getfield 25, 3) := by decide +kernel
theorem dX8_readsJoin_52 : decode cX8_readsJoin 52 = .ok (.bipush 6, 2) := by decide +kernel
theorem dX8_readsJoin_54 : decode cX8_readsJoin 54 = .ok (.iload_n 2, 1) := by decide +kernel
theorem dX8_readsJoin_55 : decode cX8_readsJoin 55 = .ok (.imul, 1) := by decide +kernel
theorem dX8_readsJoin_56 : decode cX8_readsJoin 56 = .ok (.iload_n 3, 1) := by decide +kernel
theorem dX8_readsJoin_57 : decode cX8_readsJoin 57 = .ok (.iadd, 1) := by decide +kernel
theorem dX8_readsJoin_58 : decode cX8_readsJoin 58 = .ok (.iaload, 1) := by decide +kernel
theorem dX8_readsJoin_59 : decode cX8_readsJoin 59 = .ok (.ifCond .gt 12, 3) := by decide +kernel
theorem dX8_readsJoin_62 : decode cX8_readsJoin 62 = .ok (.aload_n 0, 1) := by decide +kernel
theorem dX8_readsJoin_63 : decode cX8_readsJoin 63 = .ok (.iconst 1, 1) := by decide +kernel
theorem dX8_readsJoin_64 : decode cX8_readsJoin 64 = .ok (.iconst 4, 1) := by decide +kernel
theorem dX8_readsJoin_65 : decode cX8_readsJoin 65 = .ok (.invokevirtual 105, 3) := by decide +kernel
theorem dX8_readsJoin_68 : decode cX8_readsJoin 68 = .ok (.ifCond .ne 5, 3) := by decide +kernel
theorem dX8_readsJoin_71 : decode cX8_readsJoin 71 = .ok (.iconst 0, 1) := by decide +kernel
theorem dX8_readsJoin_72 : decode cX8_readsJoin 72 = .ok (.ireturn, 1) := by decide +kernel
theorem dX8_readsJoin_73 : decode cX8_readsJoin 73 = .ok (.aload_n 0, 1) := by decide +kernel
theorem dX8_readsJoin_74 : decode cX8_readsJoin 74 = .ok (.getfield 88, 3) := by decide +kernel
theorem dX8_readsJoin_77 : decode cX8_readsJoin 77 = .ok (.istore 4, 2) := by decide +kernel
theorem dX8_readsJoin_79 : decode cX8_readsJoin 79 = .ok (.aload_n 0, 1) := by decide +kernel
theorem dX8_readsJoin_80 : decode cX8_readsJoin 80 = .ok (.iconst 1, 1) := by decide +kernel
theorem dX8_readsJoin_81 : decode cX8_readsJoin 81 = .ok (.iconst 4, 1) := by decide +kernel
theorem dX8_readsJoin_82 : decode cX8_readsJoin 82 = .ok (.invokevirtual 105, 3) := by decide +kernel
theorem dX8_readsJoin_85 : decode cX8_readsJoin 85 = .ok (.ifCond .ne 5, 3) := by decide +kernel
theorem dX8_readsJoin_88 : decode cX8_readsJoin 88 = .ok (.iconst 0, 1) := by decide +kernel
theorem dX8_readsJoin_89 : decode cX8_readsJoin 89 = .ok (.ireturn, 1) := by decide +kernel
theorem dX8_readsJoin_90 : decode cX8_readsJoin 90 = .ok (.aload_n 0, 1) := by decide +kernel
theorem dX8_readsJoin_91 : decode cX8_readsJoin 91 = .ok (.iload_n 2, 1) := by decide +kernel
theorem dX8_readsJoin_92 : decode cX8_readsJoin 92 = .ok (.iload_n 3, 1) := by decide +kernel
theorem dX8_readsJoin_93 : decode cX8_readsJoin 93 = .ok (.iload 4, 2) := by decide +kernel
theorem dX8_readsJoin_95 : decode cX8_readsJoin 95 = .ok (.aload_n 0, 1) := by decide +kernel
theorem dX8_readsJoin_96 : decode cX8_readsJoin 96 = .ok (.getfield 88, 3) := by decide +kernel
theorem dX8_readsJoin_99 : decode cX8_readsJoin 99 = .ok (.invokevirtual 66, 3) := by decide +kernel
theorem dX8_readsJoin_102 : decode cX8_readsJoin 102 = .ok (.iconst 1, 1) := by decide +kernel
theorem dX8_readsJoin_103 : decode cX8_readsJoin 103 = .ok (.ireturn, 1) := by decide +kernel
set_option maxRecDepth 20000 in
theorem ggX8_readsCell_X8_number : GoodIn wsX8_readsCell wsX8_number := goodIn_r _ [8, 2, 9, 10, 11, 12, 13, 7, 14, 15, 16, 17, 18, 23, 24, 25, 26, 27, 28, 29, 30, 31, 32, 33, 34, 35, 36, 37, 38, 39, 40, 41, 42, 43, 44, 45, 46, 47, 48] (by decide +kernel) (by decide +kernel)
set_option maxRecDepth 20000 in
theorem gX8_readsCell_X8_number : GoodIn wsX8_readsCell (wsV RX8 102 RX8 yX8_number wsX8_number) := goodIn_app (goodIn_of _ (by decide +kernel)) ggX8_readsCell_X8_number
set_option maxRecDepth 20000 in
theorem ggX8_readsCell_X8_more : GoodIn wsX8_readsCell wsX8_more := goodIn_r _ [22, 9, 11, 12, 13, 7, 14, 15, 10, 4, 5, 6, 8, 2, 16, 17, 18, 23, 24, 25, 26, 27, 28, 29, 30, 31, 32, 33, 34, 35, 36, 37, 38, 39, 40, 41, 42, 43, 44, 45, 46, 47, 48] (by decide +kernel) (by decide +kernel)
set_option maxRecDepth 20000 in
theorem gX8_readsCell_X8_more : GoodIn wsX8_readsCell (wsV RX8 105 RX8 yX8_more wsX8_more) := goodIn_app (goodIn_of _ (by decide +kernel)) ggX8_readsCell_X8_more
theorem dX8_readsCell_0 : decode cX8_readsCell 0 = .ok (.aload_n 0, 1) := by decide +kernel
theorem dX8_readsCell_1 : decode cX8_readsCell 1 = .ok (.iload_n 1, 1) := by decide +kernel
theorem dX8_readsCell_2 : decode cX8_readsCell 2 = .ok (.iconst 0, 1) := by decide +kernel
theorem dX8_readsCell_3 : decode cX8_readsCell 3 = .ok (.aload_n 0, 1) := by decide +kernel
theorem dX8_readsCell_4 : decode cX8_readsCell 4 = .ok (.getfield 62, 3) := by decide +kernel
theorem dX8_readsCell_7 : decode cX8_readsCell 7 = .ok (.iconst 1, 1) := by decide +kernel
theorem dX8_readsCell_8 : decode cX8_readsCell 8 = .ok (.isub, 1) := by decide +kernel
theorem dX8_readsCell_9 : decode cX8_readsCell 9 = .ok (.invokevirtual 102, 3) := by decide +kernel
theorem dX8_readsCell_12 : decode cX8_readsCell 12 = .ok (.ifCond .ne 5, 3) := by decide +kernel
theorem dX8_readsCell_15 : decode cX8_readsCell 15 = .ok (.iconst 0, 1) := by decide +kernel
theorem dX8_readsCell_16 : decode cX8_readsCell 16 = .ok (.ireturn, 1) := by decide +kernel
theorem dX8_readsCell_17 : decode cX8_readsCell 17 = .ok (.aload_n 0, 1) := by decide +kernel
theorem dX8_readsCell_18 : decode cX8_readsCell 18 = .ok (.getfield 88, 3) := by decide +kernel
theorem dX8_readsCell_21 : decode cX8_readsCell 21 = .ok (.istore_n 3, 1) := by decide +kernel
theorem dX8_readsCell_22 : decode cX8_readsCell 22 = .ok (.aload_n 0, 1) := by decide +kernel
theorem dX8_readsCell_23 : decode cX8_readsCell 23 = .ok (.iconst 0, 1) := by decide +kernel
theorem dX8_readsCell_24 : decode cX8_readsCell 24 = .ok (.iload_n 2, 1) := by decide +kernel
theorem dX8_readsCell_25 : decode cX8_readsCell 25 = .ok (.ifCond .ne 8, 3) := by decide +kernel
theorem dX8_readsCell_28 : decode cX8_readsCell 28 = .ok (.bipush 9, 2) := by decide +kernel
theorem dX8_readsCell_30 : decode cX8_readsCell 30 = .ok (.goto 4, 3) := by decide +kernel
theorem dX8_readsCell_33 : decode cX8_readsCell 33 = .ok (.iconst 5, 1) := by decide +kernel
theorem dX8_readsCell_34 : decode cX8_readsCell 34 = .ok (.invokevirtual 105, 3) := by decide +kernel
theorem dX8_readsCell_37 : decode cX8_readsCell 37 = .ok (.istore 4, 2) := by decide +kernel
theorem dX8_readsCell_39 : decode cX8_readsCell 39 = .ok (.aload_n 0, 1) := by decide +kernel
theorem dX8_readsCell_40 : decode cX8_readsCell 40 = .ok (.getfield 31, 3) := by decide +kernel
theorem dX8_readsCell_43 : decode cX8_readsCell 43 = .ok (.bipush 6, 2) := by decide +kernel
theorem dX8_readsCell_45 : decode cX8_readsCell 45 = .ok (.iload_n 2, 1) := by decide +kernel
theorem dX8_readsCell_46 : decode cX8_readsCell 46 = .ok (.imul, 1) := by decide +kernel
theorem dX8_readsCell_47 : decode cX8_readsCell 47 = .ok (.iload_n 3, 1) := by decide +kernel
theorem dX8_readsCell_48 : decode cX8_readsCell 48 = .ok (.iadd, 1) := by decide +kernel
theorem dX8_readsCell_49 : decode cX8_readsCell 49 = .ok (.aload_n 0, 1) := by decide +kernel
theorem dX8_readsCell_50 : decode cX8_readsCell 50 = .ok (.getfield 88, 3) := by decide +kernel
theorem dX8_readsCell_53 : decode cX8_readsCell 53 = .ok (.iastore, 1) := by decide +kernel
theorem dX8_readsCell_54 : decode cX8_readsCell 54 = .ok (.iload 4, 2) := by decide +kernel
theorem dX8_readsCell_56 : decode cX8_readsCell 56 = .ok (.ireturn, 1) := by decide +kernel
set_option maxRecDepth 20000 in
theorem ggX8_isLaw_X8_isIn : GoodIn wsX8_isLaw wsX8_isIn := goodIn_r _ [4] (by decide +kernel) (by decide +kernel)
set_option maxRecDepth 20000 in
theorem gX8_isLaw_X8_isIn : GoodIn wsX8_isLaw (va_wsS RX8 98 yX8_isIn wsX8_isIn) := goodIn_app (goodIn_of _ (by decide +kernel)) ggX8_isLaw_X8_isIn
theorem dX8_isLaw_0 : decode cX8_isLaw 0 = .ok (.iload_n 0, 1) := by decide +kernel
theorem dX8_isLaw_1 : decode cX8_isLaw 1 = .ok (.ifCond .ne 15, 3) := by decide +kernel
theorem dX8_isLaw_4 : decode cX8_isLaw 4 = .ok (.iload_n 1, 1) := by decide +kernel
theorem dX8_isLaw_5 : decode cX8_isLaw 5 = .ok (.ifCond .ne 7, 3) := by decide +kernel
theorem dX8_isLaw_8 : decode cX8_isLaw 8 = .ok (.iconst 1, 1) := by decide +kernel
theorem dX8_isLaw_9 : decode cX8_isLaw 9 = .ok (.goto 31, 3) := by decide +kernel
theorem dX8_isLaw_12 : decode cX8_isLaw 12 = .ok (.iconst 0, 1) := by decide +kernel
theorem dX8_isLaw_13 : decode cX8_isLaw 13 = .ok (.goto 27, 3) := by decide +kernel
theorem dX8_isLaw_16 : decode cX8_isLaw 16 = .ok (.iload_n 0, 1) := by decide +kernel
theorem dX8_isLaw_17 : decode cX8_isLaw 17 = .ok (.iconst 1, 1) := by decide +kernel
theorem dX8_isLaw_18 : decode cX8_isLaw 18 = .ok (.iconst 3, 1) := by decide +kernel
theorem dX8_isLaw_19 : decode cX8_isLaw 19 = .ok (.invokestatic 98, 3) := by decide +kernel
theorem dX8_isLaw_22 : decode cX8_isLaw 22 = .ok (.ifCond .eq 17, 3) := by decide +kernel
theorem dX8_isLaw_25 : decode cX8_isLaw 25 = .ok (.iload_n 1, 1) := by decide +kernel
theorem dX8_isLaw_26 : decode cX8_isLaw 26 = .ok (.iconst 1, 1) := by decide +kernel
theorem dX8_isLaw_27 : decode cX8_isLaw 27 = .ok (.bipush 9, 2) := by decide +kernel
theorem dX8_isLaw_29 : decode cX8_isLaw 29 = .ok (.invokestatic 98, 3) := by decide +kernel
theorem dX8_isLaw_32 : decode cX8_isLaw 32 = .ok (.ifCond .eq 7, 3) := by decide +kernel
theorem dX8_isLaw_35 : decode cX8_isLaw 35 = .ok (.iconst 1, 1) := by decide +kernel
theorem dX8_isLaw_36 : decode cX8_isLaw 36 = .ok (.goto 4, 3) := by decide +kernel
theorem dX8_isLaw_39 : decode cX8_isLaw 39 = .ok (.iconst 0, 1) := by decide +kernel
theorem dX8_isLaw_40 : decode cX8_isLaw 40 = .ok (.ireturn, 1) := by decide +kernel
set_option maxRecDepth 20000 in
theorem ggX8_readsLaw_X8_number : GoodIn wsX8_readsLaw wsX8_number := goodIn_r _ [7, 1, 8, 9, 10, 11, 12, 6, 13, 14, 15, 16, 17, 25, 26, 27, 28, 29, 30, 31, 32, 33, 34, 35, 36, 37, 38, 39, 40, 41, 42, 43, 44, 45, 46, 47, 48, 49, 50] (by decide +kernel) (by decide +kernel)
set_option maxRecDepth 20000 in
theorem gX8_readsLaw_X8_number : GoodIn wsX8_readsLaw (wsV RX8 102 RX8 yX8_number wsX8_number) := goodIn_app (goodIn_of _ (by decide +kernel)) ggX8_readsLaw_X8_number
set_option maxRecDepth 20000 in
theorem ggX8_readsLaw_X8_more : GoodIn wsX8_readsLaw wsX8_more := goodIn_r _ [21, 8, 10, 11, 12, 6, 13, 14, 9, 3, 4, 5, 7, 1, 15, 16, 17, 25, 26, 27, 28, 29, 30, 31, 32, 33, 34, 35, 36, 37, 38, 39, 40, 41, 42, 43, 44, 45, 46, 47, 48, 49, 50] (by decide +kernel) (by decide +kernel)
set_option maxRecDepth 20000 in
theorem gX8_readsLaw_X8_more : GoodIn wsX8_readsLaw (wsV RX8 105 RX8 yX8_more wsX8_more) := goodIn_app (goodIn_of _ (by decide +kernel)) ggX8_readsLaw_X8_more
set_option maxRecDepth 20000 in
theorem ggX8_readsLaw_X8_isLaw : GoodIn wsX8_readsLaw wsX8_isLaw := goodIn_r _ [24, 15, 16, 6, 17] (by decide +kernel) (by decide +kernel)
set_option maxRecDepth 20000 in
theorem gX8_readsLaw_X8_isLaw : GoodIn wsX8_readsLaw (va_wsS RX8 109 yX8_isLaw wsX8_isLaw) := goodIn_app (goodIn_of _ (by decide +kernel)) ggX8_readsLaw_X8_isLaw
theorem dX8_readsLaw_0 : decode cX8_readsLaw 0 = .ok (.aload_n 0, 1) := by decide +kernel
theorem dX8_readsLaw_1 : decode cX8_readsLaw 1 = .ok (.iload_n 1, 1) := by decide +kernel
theorem dX8_readsLaw_2 : decode cX8_readsLaw 2 = .ok (.iconst 0, 1) := by decide +kernel
theorem dX8_readsLaw_3 : decode cX8_readsLaw 3 = .ok (.iconst 3, 1) := by decide +kernel
theorem dX8_readsLaw_4 : decode cX8_readsLaw 4 = .ok (.invokevirtual 102, 3) := by decide +kernel
theorem dX8_readsLaw_7 : decode cX8_readsLaw 7 = .ok (.ifCond .ne 5, 3) := by decide +kernel
theorem dX8_readsLaw_10 : decode cX8_readsLaw 10 = .ok (.iconst 0, 1) := by decide +kernel
theorem dX8_readsLaw_11 : decode cX8_readsLaw 11 = .ok (.ireturn, 1) := by decide +kernel
theorem dX8_readsLaw_12 : decode cX8_readsLaw 12 = .ok (.aload_n 0, 1) := by decide +kernel
theorem dX8_readsLaw_13 : decode cX8_readsLaw 13 = .ok (.getfield 88, 3) := by decide +kernel
theorem dX8_readsLaw_16 : decode cX8_readsLaw 16 = .ok (.istore_n 2, 1) := by decide +kernel
theorem dX8_readsLaw_17 : decode cX8_readsLaw 17 = .ok (.aload_n 0, 1) := by decide +kernel
theorem dX8_readsLaw_18 : decode cX8_readsLaw 18 = .ok (.iconst 0, 1) := by decide +kernel
theorem dX8_readsLaw_19 : decode cX8_readsLaw 19 = .ok (.bipush 9, 2) := by decide +kernel
theorem dX8_readsLaw_21 : decode cX8_readsLaw 21 = .ok (.invokevirtual 105, 3) := by decide +kernel
theorem dX8_readsLaw_24 : decode cX8_readsLaw 24 = .ok (.ifCond .eq 18, 3) := by decide +kernel
theorem dX8_readsLaw_27 : decode cX8_readsLaw 27 = .ok (.iload_n 2, 1) := by decide +kernel
theorem dX8_readsLaw_28 : decode cX8_readsLaw 28 = .ok (.aload_n 0, 1) := by decide +kernel
theorem dX8_readsLaw_29 : decode cX8_readsLaw 29 = .ok (.getfield 88, 3) := by decide +kernel
theorem dX8_readsLaw_32 : decode cX8_readsLaw 32 = .ok (.invokestatic 109, 3) := by decide +kernel
theorem dX8_readsLaw_35 : decode cX8_readsLaw 35 = .ok (.ifCond .eq 7, 3) := by decide +kernel
theorem dX8_readsLaw_38 : decode cX8_readsLaw 38 = .ok (.iconst 1, 1) := by decide +kernel
theorem dX8_readsLaw_39 : decode cX8_readsLaw 39 = .ok (.goto 4, 3) := by decide +kernel
theorem dX8_readsLaw_42 : decode cX8_readsLaw 42 = .ok (.iconst 0, 1) := by decide +kernel
theorem dX8_readsLaw_43 : decode cX8_readsLaw 43 = .ok (.istore_n 3, 1) := by decide +kernel
theorem dX8_readsLaw_44 : decode cX8_readsLaw 44 = .ok (.aload_n 0, 1) := by decide +kernel
theorem dX8_readsLaw_45 : decode cX8_readsLaw 45 = .ok (.getfield 31, 3) := by decide +kernel
theorem dX8_readsLaw_48 : decode cX8_readsLaw 48 = .ok (.bipush 12, 2) := by decide +kernel
theorem dX8_readsLaw_50 : decode cX8_readsLaw 50 = .ok (.iload_n 2, 1) := by decide +kernel
theorem dX8_readsLaw_51 : decode cX8_readsLaw 51 = .ok (.iastore, 1) := by decide +kernel
theorem dX8_readsLaw_52 : decode cX8_readsLaw 52 = .ok (.aload_n 0, 1) := by decide +kernel
theorem dX8_readsLaw_53 : decode cX8_readsLaw 53 = .ok (.getfield 31, 3) := by decide +kernel
theorem dX8_readsLaw_56 : decode cX8_readsLaw 56 = .ok (.bipush 13, 2) := by decide +kernel
theorem dX8_readsLaw_58 : decode cX8_readsLaw 58 = .ok (.aload_n 0, 1) := by decide +kernel
theorem dX8_readsLaw_59 : decode cX8_readsLaw 59 = .ok (.getfield 88, 3) := by decide +kernel
theorem dX8_readsLaw_62 : decode cX8_readsLaw 62 = .ok (.iastore, 1) := by decide +kernel
theorem dX8_readsLaw_63 : decode cX8_readsLaw 63 = .ok (.iload_n 3, 1) := by decide +kernel
theorem dX8_readsLaw_64 : decode cX8_readsLaw 64 = .ok (.ireturn, 1) := by decide +kernel
set_option maxRecDepth 20000 in
theorem ggX8_readsPrice_X8_number : GoodIn wsX8_readsPrice wsX8_number := goodIn_r _ [7, 2, 8, 9, 10, 11, 12, 6, 13, 14, 15, 16, 17, 22, 23, 24, 25, 26, 27, 28, 29, 30, 31, 32, 33, 34, 35, 36, 37, 38, 39, 40, 41, 42, 43, 44, 45, 46, 47] (by decide +kernel) (by decide +kernel)
set_option maxRecDepth 20000 in
theorem gX8_readsPrice_X8_number : GoodIn wsX8_readsPrice (wsV RX8 102 RX8 yX8_number wsX8_number) := goodIn_app (goodIn_of _ (by decide +kernel)) ggX8_readsPrice_X8_number
set_option maxRecDepth 20000 in
theorem ggX8_readsPrice_X8_more : GoodIn wsX8_readsPrice wsX8_more := goodIn_r _ [21, 8, 10, 11, 12, 6, 13, 14, 9, 3, 4, 5, 7, 2, 15, 16, 17, 22, 23, 24, 25, 26, 27, 28, 29, 30, 31, 32, 33, 34, 35, 36, 37, 38, 39, 40, 41, 42, 43, 44, 45, 46, 47] (by decide +kernel) (by decide +kernel)
set_option maxRecDepth 20000 in
theorem gX8_readsPrice_X8_more : GoodIn wsX8_readsPrice (wsV RX8 105 RX8 yX8_more wsX8_more) := goodIn_app (goodIn_of _ (by decide +kernel)) ggX8_readsPrice_X8_more
theorem dX8_readsPrice_0 : decode cX8_readsPrice 0 = .ok (.iconst 0, 1) := by decide +kernel
theorem dX8_readsPrice_1 : decode cX8_readsPrice 1 = .ok (.istore_n 2, 1) := by decide +kernel
theorem dX8_readsPrice_2 : decode cX8_readsPrice 2 = .ok (.iload_n 2, 1) := by decide +kernel
theorem dX8_readsPrice_3 : decode cX8_readsPrice 3 = .ok (.iconst 4, 1) := by decide +kernel
theorem dX8_readsPrice_4 : decode cX8_readsPrice 4 = .ok (.if_icmp .ge 71, 3) := by decide +kernel
theorem dX8_readsPrice_7 : decode cX8_readsPrice 7 = .ok (.iload_n 2, 1) := by decide +kernel
theorem dX8_readsPrice_8 : decode cX8_readsPrice 8 = .ok (.ifCond .ne 7, 3) := by decide +kernel
theorem dX8_readsPrice_11 : decode cX8_readsPrice 11 = .ok (.iconst 1, 1) := by decide +kernel
theorem dX8_readsPrice_12 : decode cX8_readsPrice 12 = .ok (.goto 4, 3) := by decide +kernel
theorem dX8_readsPrice_15 : decode cX8_readsPrice 15 = .ok (.iconst 0, 1) := by decide +kernel
theorem dX8_readsPrice_16 : decode cX8_readsPrice 16 = .ok (.istore_n 3, 1) := by decide +kernel
theorem dX8_readsPrice_17 : decode cX8_readsPrice 17 = .ok (.iload_n 2, 1) := by decide +kernel
theorem dX8_readsPrice_18 : decode cX8_readsPrice 18 = .ok (.ifCond .ne 7, 3) := by decide +kernel
theorem dX8_readsPrice_21 : decode cX8_readsPrice 21 = .ok (.iconst 4, 1) := by decide +kernel
theorem dX8_readsPrice_22 : decode cX8_readsPrice 22 = .ok (.goto 5, 3) := by decide +kernel
theorem dX8_readsPrice_25 : decode cX8_readsPrice 25 = .ok (.bipush 99, 2) := by decide +kernel
theorem dX8_readsPrice_27 : decode cX8_readsPrice 27 = .ok (.istore 4, 2) := by decide +kernel
theorem dX8_readsPrice_29 : decode cX8_readsPrice 29 = .ok (.iload_n 2, 1) := by decide +kernel
theorem dX8_readsPrice_30 : decode cX8_readsPrice 30 = .ok (.ifCond .ne 17, 3) := by decide +kernel
theorem dX8_readsPrice_33 : decode cX8_readsPrice 33 = .ok (.aload_n 0, 1) := by decide +kernel
theorem dX8_readsPrice_34 : decode cX8_readsPrice 34 = .ok (.iload_n 1, 1) := by decide +kernel
theorem dX8_readsPrice_35 : decode cX8_readsPrice 35 = .ok (.iload_n 3, 1) := by decide +kernel
theorem dX8_readsPrice_36 : decode cX8_readsPrice 36 = .ok (.iload 4, 2) := by decide +kernel
theorem dX8_readsPrice_38 : decode cX8_readsPrice 38 = .ok (.invokevirtual 102, 3) := by decide +kernel
theorem dX8_readsPrice_41 : decode cX8_readsPrice 41 = .ok (.ifCond .eq 16, 3) := by decide +kernel
theorem dX8_readsPrice_44 : decode cX8_readsPrice 44 = .ok (.goto 15, 3) := by decide +kernel
theorem dX8_readsPrice_47 : decode cX8_readsPrice 47 = .ok (.aload_n 0, 1) := by decide +kernel
theorem dX8_readsPrice_48 : decode cX8_readsPrice 48 = .ok (.iload_n 3, 1) := by decide +kernel
theorem dX8_readsPrice_49 : decode cX8_readsPrice 49 = .ok (.iload 4, 2) := by decide +kernel
theorem dX8_readsPrice_51 : decode cX8_readsPrice 51 = .ok (.invokevirtual 105, 3) := by decide +kernel
theorem dX8_readsPrice_54 : decode cX8_readsPrice 54 = .ok (.ifCond .ne 5, 3) := by decide +kernel
theorem dX8_readsPrice_57 : decode cX8_readsPrice 57 = .ok (.iconst 0, 1) := by decide +kernel
theorem dX8_readsPrice_58 : decode cX8_readsPrice 58 = .ok (.ireturn, 1) := by decide +kernel
theorem dX8_readsPrice_59 : decode cX8_readsPrice 59 = .ok (.aload_n 0, 1) := by decide +kernel
theorem dX8_readsPrice_60 : decode cX8_readsPrice 60 = .ok (.getfield 28, 3) := by decide +kernel
theorem dX8_readsPrice_63 : decode cX8_readsPrice 63 = .ok (.iload_n 2, 1) := by decide +kernel
theorem dX8_readsPrice_64 : decode cX8_readsPrice 64 = .ok (.aload_n 0, 1) := by decide +kernel
theorem dX8_readsPrice_65 : decode cX8_readsPrice 65 = .ok (.getfield 88, 3) := by decide +kernel
theorem dX8_readsPrice_68 : decode cX8_readsPrice 68 = .ok (.iastore, 1) := by decide +kernel
theorem dX8_readsPrice_69 : decode cX8_readsPrice 69 = .ok (.iinc 2 1, 3) := by decide +kernel
theorem dX8_readsPrice_72 : decode cX8_readsPrice 72 = .ok (.goto (-70), 3) := by decide +kernel
theorem dX8_readsPrice_75 : decode cX8_readsPrice 75 = .ok (.iconst 1, 1) := by decide +kernel
theorem dX8_readsPrice_76 : decode cX8_readsPrice 76 = .ok (.ireturn, 1) := by decide +kernel
set_option maxRecDepth 20000 in
theorem ggX8_readsItem_X8_number : GoodIn wsX8_readsItem wsX8_number := goodIn_r _ [7, 1, 8, 9, 10, 11, 12, 6, 13, 14, 15, 16, 17, 49, 50, 51, 52, 53, 54, 55, 56, 57, 58, 59, 60, 61, 62, 63, 64, 65, 66, 67, 68, 69, 70, 71, 72, 73, 74] (by decide +kernel) (by decide +kernel)
set_option maxRecDepth 20000 in
theorem gX8_readsItem_X8_number : GoodIn wsX8_readsItem (wsV RX8 102 RX8 yX8_number wsX8_number) := goodIn_app (goodIn_of _ (by decide +kernel)) ggX8_readsItem_X8_number
set_option maxRecDepth 20000 in
theorem ggX8_readsItem_X8_readsJoin : GoodIn wsX8_readsItem wsX8_readsJoin := goodIn_r _ [21, 2, 1, 22, 3, 4, 5, 6, 7, 8, 9, 10, 11, 12, 13, 14, 15, 16, 17, 23, 24, 25, 26, 27, 28, 29, 30, 31, 49, 50, 51, 52, 53, 54, 55, 56, 57, 58, 59, 60, 61, 62, 63, 64, 65, 66, 67, 68, 69, 70, 71, 72, 73, 74] (by decide +kernel) (by decide +kernel)
set_option maxRecDepth 20000 in
theorem gX8_readsItem_X8_readsJoin : GoodIn wsX8_readsItem (wsV RX8 112 RX8 yX8_readsJoin wsX8_readsJoin) := goodIn_app (goodIn_of _ (by decide +kernel)) ggX8_readsItem_X8_readsJoin
set_option maxRecDepth 20000 in
theorem ggX8_readsItem_X8_readsCell : GoodIn wsX8_readsItem wsX8_readsCell := goodIn_r _ [35, 2, 1, 36, 3, 4, 5, 6, 7, 8, 9, 10, 11, 12, 13, 14, 15, 16, 17, 23, 24, 25, 26, 49, 50, 51, 52, 53, 54, 55, 56, 57, 58, 59, 60, 61, 62, 63, 64, 65, 66, 67, 68, 69, 70, 71, 72, 73, 74] (by decide +kernel) (by decide +kernel)
set_option maxRecDepth 20000 in
theorem gX8_readsItem_X8_readsCell : GoodIn wsX8_readsItem (wsV RX8 116 RX8 yX8_readsCell wsX8_readsCell) := goodIn_app (goodIn_of _ (by decide +kernel)) ggX8_readsItem_X8_readsCell
set_option maxRecDepth 20000 in
theorem ggX8_readsItem_X8_readsLaw : GoodIn wsX8_readsItem wsX8_readsLaw := goodIn_r _ [40, 1, 36, 3, 4, 5, 6, 7, 8, 9, 10, 11, 12, 13, 14, 15, 16, 17, 23, 24, 25, 26, 41, 42, 43, 49, 50, 51, 52, 53, 54, 55, 56, 57, 58, 59, 60, 61, 62, 63, 64, 65, 66, 67, 68, 69, 70, 71, 72, 73, 74] (by decide +kernel) (by decide +kernel)
set_option maxRecDepth 20000 in
theorem gX8_readsItem_X8_readsLaw : GoodIn wsX8_readsItem (wsV RX8 119 RX8 yX8_readsLaw wsX8_readsLaw) := goodIn_app (goodIn_of _ (by decide +kernel)) ggX8_readsItem_X8_readsLaw
set_option maxRecDepth 20000 in
theorem ggX8_readsItem_X8_readsPrice : GoodIn wsX8_readsItem wsX8_readsPrice := goodIn_r _ [47, 48, 1, 3, 4, 5, 6, 7, 8, 9, 10, 11, 12, 13, 14, 15, 16, 17, 23, 24, 25, 26, 49, 50, 51, 52, 53, 54, 55, 56, 57, 58, 59, 60, 61, 62, 63, 64, 65, 66, 67, 68, 69, 70, 71, 72, 73, 74] (by decide +kernel) (by decide +kernel)
set_option maxRecDepth 20000 in
theorem gX8_readsItem_X8_readsPrice : GoodIn wsX8_readsItem (wsV RX8 122 RX8 yX8_readsPrice wsX8_readsPrice) := goodIn_app (goodIn_of _ (by decide +kernel)) ggX8_readsItem_X8_readsPrice
theorem dX8_readsItem_0 : decode cX8_readsItem 0 = .ok (.iload_n 1, 1) := by decide +kernel
theorem dX8_readsItem_1 : decode cX8_readsItem 1 = .ok (.bipush 110, 2) := by decide +kernel
theorem dX8_readsItem_3 : decode cX8_readsItem 3 = .ok (.if_icmp .ne 46, 3) := by decide +kernel
theorem dX8_readsItem_6 : decode cX8_readsItem 6 = .ok (.iload_n 2, 1) := by decide +kernel
theorem dX8_readsItem_7 : decode cX8_readsItem 7 = .ok (.iconst 1, 1) := by decide +kernel
theorem dX8_readsItem_8 : decode cX8_readsItem 8 = .ok (.if_icmp .ne 18, 3) := by decide +kernel
theorem dX8_readsItem_11 : decode cX8_readsItem 11 = .ok (.aload_n 0, 1) := by decide +kernel
theorem dX8_readsItem_12 : decode cX8_readsItem 12 = .ok (.iload_n 2, 1) := by decide +kernel
theorem dX8_readsItem_13 : decode cX8_readsItem 13 = .ok (.iconst 2, 1) := by decide +kernel
theorem dX8_readsItem_14 : decode cX8_readsItem 14 = .ok (.bipush 6, 2) := by decide +kernel
theorem dX8_readsItem_16 : decode cX8_readsItem 16 = .ok (.invokevirtual 102, 3) := by decide +kernel
theorem dX8_readsItem_19 : decode cX8_readsItem 19 = .ok (.ifCond .eq 7, 3) := by decide +kernel
theorem dX8_readsItem_22 : decode cX8_readsItem 22 = .ok (.iconst 1, 1) := by decide +kernel
theorem dX8_readsItem_23 : decode cX8_readsItem 23 = .ok (.goto 4, 3) := by decide +kernel
theorem dX8_readsItem_26 : decode cX8_readsItem 26 = .ok (.iconst 0, 1) := by decide +kernel
theorem dX8_readsItem_27 : decode cX8_readsItem 27 = .ok (.istore_n 3, 1) := by decide +kernel
theorem dX8_readsItem_28 : decode cX8_readsItem 28 = .ok (.aload_n 0, 1) := by decide +kernel
theorem dX8_readsItem_29 : decode cX8_readsItem 29 = .ok (.iload_n 3, 1) := by decide +kernel
theorem dX8_readsItem_30 : decode cX8_readsItem 30 = .ok (.ifCond .eq 10, 3) := by decide +kernel
theorem dX8_readsItem_33 : decode cX8_readsItem 33 = .ok (.aload_n 0, 1) := by decide +kernel
theorem dX8_readsItem_34 : decode cX8_readsItem 34 = .ok (.getfield 88, 3) := by decide +kernel
theorem dX8_readsItem_37 : decode cX8_readsItem 37 = .ok (.goto 7, 3) := by decide +kernel
theorem dX8_readsItem_40 : decode cX8_readsItem 40 = .ok (.aload_n 0, 1) := by decide +kernel
theorem dX8_readsItem_41 : decode cX8_readsItem 41 = .ok (.getfield 62, 3) := by decide +kernel
theorem dX8_readsItem_44 : decode cX8_readsItem 44 = .ok (.putfield 62, 3) := by decide +kernel
theorem dX8_readsItem_47 : decode cX8_readsItem 47 = .ok (.iload_n 3, 1) := by decide +kernel
theorem dX8_readsItem_48 : decode cX8_readsItem 48 = .ok (.ireturn, 1) := by decide +kernel
theorem dX8_readsItem_49 : decode cX8_readsItem 49 = .ok (.aload_n 0, 1) := by decide +kernel
theorem dX8_readsItem_50 : decode cX8_readsItem 50 = .ok (.getfield 62, 3) := by decide +kernel
theorem dX8_readsItem_53 : decode cX8_readsItem 53 = .ok (.ifCond .ne 5, 3) := by decide +kernel
theorem dX8_readsItem_56 : decode cX8_readsItem 56 = .ok (.iconst 0, 1) := by decide +kernel
theorem dX8_readsItem_57 : decode cX8_readsItem 57 = .ok (.ireturn, 1) := by decide +kernel
theorem dX8_readsItem_58 : decode cX8_readsItem 58 = .ok (.iload_n 1, 1) := by decide +kernel
theorem dX8_readsItem_59 : decode cX8_readsItem 59 = .ok (.lookupswitch 81 #[(97, 62), (106, 49), (108, 69), (112, 75), (115, 55)], 49) := by decide +kernel
theorem dX8_readsItem_108 : decode cX8_readsItem 108 = .ok (.aload_n 0, 1) := by decide +kernel
theorem dX8_readsItem_109 : decode cX8_readsItem 109 = .ok (.iload_n 2, 1) := by decide +kernel
theorem dX8_readsItem_110 : decode cX8_readsItem 110 = .ok (.invokevirtual 112, 3) := by decide +kernel
theorem dX8_readsItem_113 : decode cX8_readsItem 113 = .ok (.ireturn, 1) := by decide +kernel
theorem dX8_readsItem_114 : decode cX8_readsItem 114 = .ok (.aload_n 0, 1) := by decide +kernel
theorem dX8_readsItem_115 : decode cX8_readsItem 115 = .ok (.iload_n 2, 1) := by decide +kernel
theorem dX8_readsItem_116 : decode cX8_readsItem 116 = .ok (.iconst 0, 1) := by decide +kernel
theorem dX8_readsItem_117 : decode cX8_readsItem 117 = .ok (.invokevirtual 116, 3) := by decide +kernel
theorem dX8_readsItem_120 : decode cX8_readsItem 120 = .ok (.ireturn, 1) := by decide +kernel
theorem dX8_readsItem_121 : decode cX8_readsItem 121 = .ok (.aload_n 0, 1) := by decide +kernel
theorem dX8_readsItem_122 : decode cX8_readsItem 122 = .ok (.iload_n 2, 1) := by decide +kernel
theorem dX8_readsItem_123 : decode cX8_readsItem 123 = .ok (.iconst 1, 1) := by decide +kernel
theorem dX8_readsItem_124 : decode cX8_readsItem 124 = .ok (.invokevirtual 116, 3) := by decide +kernel
theorem dX8_readsItem_127 : decode cX8_readsItem 127 = .ok (.ireturn, 1) := by decide +kernel
theorem dX8_readsItem_128 : decode cX8_readsItem 128 = .ok (.aload_n 0, 1) := by decide +kernel
theorem dX8_readsItem_129 : decode cX8_readsItem 129 = .ok (.iload_n 2, 1) := by decide +kernel
theorem dX8_readsItem_130 : decode cX8_readsItem 130 = .ok (.invokevirtual 119, 3) := by decide +kernel
theorem dX8_readsItem_133 : decode cX8_readsItem 133 = .ok (.ireturn, 1) := by decide +kernel
theorem dX8_readsItem_134 : decode cX8_readsItem 134 = .ok (.aload_n 0, 1) := by decide +kernel
theorem dX8_readsItem_135 : decode cX8_readsItem 135 = .ok (.iload_n 2, 1) := by decide +kernel
theorem dX8_readsItem_136 : decode cX8_readsItem 136 = .ok (.invokevirtual 122, 3) := by decide +kernel
theorem dX8_readsItem_139 : decode cX8_readsItem 139 = .ok (.ireturn, 1) := by decide +kernel
theorem dX8_readsItem_140 : decode cX8_readsItem 140 = .ok (.iconst 0, 1) := by decide +kernel
theorem dX8_readsItem_141 : decode cX8_readsItem 141 = .ok (.ireturn, 1) := by decide +kernel
set_option maxRecDepth 20000 in
theorem ggX8_reads_X8_clears : GoodIn wsX8_reads wsX8_clears := goodIn_r _ [8, 9, 10, 11, 12, 13, 57, 58, 59, 60, 61, 62, 63, 64, 65, 66, 67, 68, 69, 70, 71, 72, 73, 74, 75, 76, 77, 78, 79, 80, 81, 82] (by decide +kernel) (by decide +kernel)
set_option maxRecDepth 20000 in
theorem gX8_reads_X8_clears : GoodIn wsX8_reads (wsV RX8 59 RX8 yX8_clears wsX8_clears) := goodIn_app (goodIn_of _ (by decide +kernel)) ggX8_reads_X8_clears
set_option maxRecDepth 20000 in
theorem ggX8_reads_X8_readsItem : GoodIn wsX8_reads wsX8_readsItem := goodIn_r _ [17, 18, 9, 19, 20, 21, 7, 22, 3, 2, 23, 24, 25, 26, 1, 27, 28, 29, 30, 31, 32, 33, 11, 34, 35, 36, 37, 38, 39, 40, 41, 10, 42, 43, 44, 45, 12, 46, 47, 48, 49, 50, 51, 52, 53, 54, 55, 56, 13, 57, 58, 59, 60, 61, 62, 63, 64, 65, 66, 67, 68, 69, 70, 71, 72, 73, 74, 75, 76, 77, 78, 79, 80, 81, 82] (by decide +kernel) (by decide +kernel)
set_option maxRecDepth 20000 in
theorem gX8_reads_X8_readsItem : GoodIn wsX8_reads (wsV RX8 125 RX8 yX8_readsItem wsX8_readsItem) := goodIn_app (goodIn_of _ (by decide +kernel)) ggX8_reads_X8_readsItem
set_option maxRecDepth 20000 in
theorem ggX8_reads_X8_letterAt : GoodIn wsX8_reads wsX8_letterAt := goodIn_r _ [26, 1, 2, 57, 58, 59, 60, 61, 62, 63, 64, 65, 66, 67, 68, 69, 70, 71, 72, 73, 74, 75, 76, 77, 78, 79, 80, 81, 82] (by decide +kernel) (by decide +kernel)
set_option maxRecDepth 20000 in
theorem gX8_reads_X8_letterAt : GoodIn wsX8_reads (wsV RX8 94 RX8 yX8_letterAt wsX8_letterAt) := goodIn_app (goodIn_of _ (by decide +kernel)) ggX8_reads_X8_letterAt
theorem dX8_reads_0 : decode cX8_reads 0 = .ok (.aload_n 0, 1) := by decide +kernel
theorem dX8_reads_1 : decode cX8_reads 1 = .ok (.invokevirtual 59, 3) := by decide +kernel
theorem dX8_reads_4 : decode cX8_reads 4 = .ok (.iconst 0, 1) := by decide +kernel
theorem dX8_reads_5 : decode cX8_reads 5 = .ok (.istore_n 1, 1) := by decide +kernel
theorem dX8_reads_6 : decode cX8_reads 6 = .ok (.iload_n 1, 1) := by decide +kernel
theorem dX8_reads_7 : decode cX8_reads 7 = .ok (.aload_n 0, 1) := by decide +kernel
theorem dX8_reads_8 : decode cX8_reads 8 = .ok (.getfield 85, 3) := by decide +kernel
theorem dX8_reads_11 : decode cX8_reads 11 = .ok (.if_icmp .ge 44, 3) := by decide +kernel
theorem dX8_reads_14 : decode cX8_reads 14 = .ok (.aload_n 0, 1) := by decide +kernel
theorem dX8_reads_15 : decode cX8_reads 15 = .ok (.aload_n 0, 1) := by decide +kernel
theorem dX8_reads_16 : decode cX8_reads 16 = .ok (.getfield 7, 3) := by decide +kernel
theorem dX8_reads_19 : decode cX8_reads 19 = .ok (.iload_n 1, 1) := by decide +kernel
theorem dX8_reads_20 : decode cX8_reads 20 = .ok (.iaload, 1) := by decide +kernel
theorem dX8_reads_21 : decode cX8_reads 21 = .ok (.iload_n 1, 1) := by decide +kernel
theorem dX8_reads_22 : decode cX8_reads 22 = .ok (.iconst 1, 1) := by decide +kernel
theorem dX8_reads_23 : decode cX8_reads 23 = .ok (.iadd, 1) := by decide +kernel
theorem dX8_reads_24 : decode cX8_reads 24 = .ok (.invokevirtual 125, 3) := by decide +kernel
theorem dX8_reads_27 : decode cX8_reads 27 = .ok (.ifCond .eq 16, 3) := by decide +kernel
theorem dX8_reads_30 : decode cX8_reads 30 = .ok (.aload_n 0, 1) := by decide +kernel
theorem dX8_reads_31 : decode cX8_reads 31 = .ok (.aload_n 0, 1) := by decide +kernel
theorem dX8_reads_32 : decode cX8_reads 32 = .ok (.getfield 91, 3) := by decide +kernel
theorem dX8_reads_35 : decode cX8_reads 35 = .ok (.invokevirtual 94, 3) := by decide +kernel
theorem dX8_reads_38 : decode cX8_reads 38 = .ok (.bipush 59, 2) := by decide +kernel
theorem dX8_reads_40 : decode cX8_reads 40 = .ok (.if_icmp .eq 5, 3) := by decide +kernel
theorem dX8_reads_43 : decode cX8_reads 43 = .ok (.iload_n 1, 1) := by decide +kernel
theorem dX8_reads_44 : decode cX8_reads 44 = .ok (.ireturn, 1) := by decide +kernel
theorem dX8_reads_45 : decode cX8_reads 45 = .ok (.aload_n 0, 1) := by decide +kernel
theorem dX8_reads_46 : decode cX8_reads 46 = .ok (.getfield 91, 3) := by decide +kernel
theorem dX8_reads_49 : decode cX8_reads 49 = .ok (.iconst 1, 1) := by decide +kernel
theorem dX8_reads_50 : decode cX8_reads 50 = .ok (.iadd, 1) := by decide +kernel
theorem dX8_reads_51 : decode cX8_reads 51 = .ok (.istore_n 1, 1) := by decide +kernel
theorem dX8_reads_52 : decode cX8_reads 52 = .ok (.goto (-46), 3) := by decide +kernel
theorem dX8_reads_55 : decode cX8_reads 55 = .ok (.bipush (-4), 2) := by decide +kernel
theorem dX8_reads_57 : decode cX8_reads 57 = .ok (.ireturn, 1) := by decide +kernel
theorem dX8_hang_0 : decode cX8_hang 0 = .ok (.iconst 1, 1) := by decide +kernel
theorem dX8_hang_1 : decode cX8_hang 1 = .ok (.istore_n 1, 1) := by decide +kernel
theorem dX8_hang_2 : decode cX8_hang 2 = .ok (.iconst 0, 1) := by decide +kernel
theorem dX8_hang_3 : decode cX8_hang 3 = .ok (.istore_n 2, 1) := by decide +kernel
theorem dX8_hang_4 : decode cX8_hang 4 = .ok (.iload_n 2, 1) := by decide +kernel
theorem dX8_hang_5 : decode cX8_hang 5 = .ok (.aload_n 0, 1) := by decide +kernel
theorem dX8_hang_6 : decode cX8_hang 6 = .ok (.getfield 62, 3) := by decide +kernel
theorem dX8_hang_9 : decode cX8_hang 9 = .ok (.if_icmp .ge 57, 3) := by decide +kernel
theorem dX8_hang_12 : decode cX8_hang 12 = .ok (.iconst 0, 1) := by decide +kernel
theorem dX8_hang_13 : decode cX8_hang 13 = .ok (.istore_n 3, 1) := by decide +kernel
theorem dX8_hang_14 : decode cX8_hang 14 = .ok (.iload_n 3, 1) := by decide +kernel
theorem dX8_hang_15 : decode cX8_hang 15 = .ok (.bipush 36, 2) := by decide +kernel
theorem dX8_hang_17 : decode cX8_hang 17 = .ok (.if_icmp .ge 43, 3) := by decide +kernel
theorem dX8_hang_20 : decode cX8_hang 20 = .ok (.iload_n 1, 1) := by decide +kernel
theorem dX8_hang_21 : decode cX8_hang 21 = .ok (.aload_n 0, 1) := by decide +kernel
theorem dX8_hang_22 : decode cX8_hang 22 = .ok (.getfield 25, 3) := by decide +kernel
theorem dX8_hang_25 : decode cX8_hang 25 = .ok (.iload_n 3, 1) := by decide +kernel
theorem dX8_hang_26 : decode cX8_hang 26 = .ok (.iaload, 1) := by decide +kernel
theorem dX8_hang_27 : decode cX8_hang 27 = .ok (.ifCond .le 24, 3) := by decide +kernel
theorem dX8_hang_30 : decode cX8_hang 30 = .ok (.iload_n 1, 1) := by decide +kernel
theorem dX8_hang_31 : decode cX8_hang 31 = .ok (.iload_n 3, 1) := by decide +kernel
theorem dX8_hang_32 : decode cX8_hang 32 = .ok (.bipush 6, 2) := by decide +kernel
theorem dX8_hang_34 : decode cX8_hang 34 = .ok (.idiv, 1) := by decide +kernel
theorem dX8_hang_35 : decode cX8_hang 35 = .ok (.ishr, 1) := by decide +kernel
theorem dX8_hang_36 : decode cX8_hang 36 = .ok (.iconst 1, 1) := by decide +kernel
theorem dX8_hang_37 : decode cX8_hang 37 = .ok (.iand, 1) := by decide +kernel
theorem dX8_hang_38 : decode cX8_hang 38 = .ok (.iconst 1, 1) := by decide +kernel
theorem dX8_hang_39 : decode cX8_hang 39 = .ok (.if_icmp .ne 12, 3) := by decide +kernel
theorem dX8_hang_42 : decode cX8_hang 42 = .ok (.iconst 1, 1) := by decide +kernel
theorem dX8_hang_43 : decode cX8_hang 43 = .ok (.iload_n 3, 1) := by decide +kernel
theorem dX8_hang_44 : decode cX8_hang 44 = .ok (.bipush 6, 2) := by decide +kernel
theorem dX8_hang_46 : decode cX8_hang 46 = .ok (.irem, 1) := by decide +kernel
theorem dX8_hang_47 : decode cX8_hang 47 = .ok (.ishl, 1) := by decide +kernel
theorem dX8_hang_48 : decode cX8_hang 48 = .ok (.goto 4, 3) := by decide +kernel
theorem dX8_hang_51 : decode cX8_hang 51 = .ok (.iconst 0, 1) := by decide +kernel
theorem dX8_hang_52 : decode cX8_hang 52 = .ok (.ior, 1) := by decide +kernel
theorem dX8_hang_53 : decode cX8_hang 53 = .ok (.istore_n 1, 1) := by decide +kernel
theorem dX8_hang_54 : decode cX8_hang 54 = .ok (.iinc 3 1, 3) := by decide +kernel
theorem dX8_hang_57 : decode cX8_hang 57 = .ok (.goto (-43), 3) := by decide +kernel
theorem dX8_hang_60 : decode cX8_hang 60 = .ok (.iinc 2 1, 3) := by decide +kernel
theorem dX8_hang_63 : decode cX8_hang 63 = .ok (.goto (-59), 3) := by decide +kernel
theorem dX8_hang_66 : decode cX8_hang 66 = .ok (.aload_n 0, 1) := by decide +kernel
theorem dX8_hang_67 : decode cX8_hang 67 = .ok (.getfield 62, 3) := by decide +kernel
theorem dX8_hang_70 : decode cX8_hang 70 = .ok (.ifCond .le 19, 3) := by decide +kernel
theorem dX8_hang_73 : decode cX8_hang 73 = .ok (.iload_n 1, 1) := by decide +kernel
theorem dX8_hang_74 : decode cX8_hang 74 = .ok (.iconst 1, 1) := by decide +kernel
theorem dX8_hang_75 : decode cX8_hang 75 = .ok (.aload_n 0, 1) := by decide +kernel
theorem dX8_hang_76 : decode cX8_hang 76 = .ok (.getfield 62, 3) := by decide +kernel
theorem dX8_hang_79 : decode cX8_hang 79 = .ok (.ishl, 1) := by decide +kernel
theorem dX8_hang_80 : decode cX8_hang 80 = .ok (.iconst 1, 1) := by decide +kernel
theorem dX8_hang_81 : decode cX8_hang 81 = .ok (.isub, 1) := by decide +kernel
theorem dX8_hang_82 : decode cX8_hang 82 = .ok (.if_icmp .ne 7, 3) := by decide +kernel
theorem dX8_hang_85 : decode cX8_hang 85 = .ok (.iconst 1, 1) := by decide +kernel
theorem dX8_hang_86 : decode cX8_hang 86 = .ok (.goto 4, 3) := by decide +kernel
theorem dX8_hang_89 : decode cX8_hang 89 = .ok (.iconst 0, 1) := by decide +kernel
theorem dX8_hang_90 : decode cX8_hang 90 = .ok (.ireturn, 1) := by decide +kernel
theorem dX8_write_0 : decode cX8_write 0 = .ok (.iload_n 1, 1) := by decide +kernel
theorem dX8_write_1 : decode cX8_write 1 = .ok (.bipush 32, 2) := by decide +kernel
theorem dX8_write_3 : decode cX8_write 3 = .ok (.if_icmp .lt 9, 3) := by decide +kernel
theorem dX8_write_6 : decode cX8_write 6 = .ok (.iload_n 1, 1) := by decide +kernel
theorem dX8_write_7 : decode cX8_write 7 = .ok (.bipush 126, 2) := by decide +kernel
theorem dX8_write_9 : decode cX8_write 9 = .ok (.if_icmp .le 5, 3) := by decide +kernel
theorem dX8_write_12 : decode cX8_write 12 = .ok (.iconst (-1), 1) := by decide +kernel
theorem dX8_write_13 : decode cX8_write 13 = .ok (.ireturn, 1) := by decide +kernel
theorem dX8_write_14 : decode cX8_write 14 = .ok (.aload_n 0, 1) := by decide +kernel
theorem dX8_write_15 : decode cX8_write 15 = .ok (.getfield 85, 3) := by decide +kernel
theorem dX8_write_18 : decode cX8_write 18 = .ok (.sipush 200, 3) := by decide +kernel
theorem dX8_write_21 : decode cX8_write 21 = .ok (.if_icmp .ne 6, 3) := by decide +kernel
theorem dX8_write_24 : decode cX8_write 24 = .ok (.bipush (-3), 2) := by decide +kernel
theorem dX8_write_26 : decode cX8_write 26 = .ok (.ireturn, 1) := by decide +kernel
theorem dX8_write_27 : decode cX8_write 27 = .ok (.aload_n 0, 1) := by decide +kernel
theorem dX8_write_28 : decode cX8_write 28 = .ok (.getfield 7, 3) := by decide +kernel
theorem dX8_write_31 : decode cX8_write 31 = .ok (.aload_n 0, 1) := by decide +kernel
theorem dX8_write_32 : decode cX8_write 32 = .ok (.getfield 85, 3) := by decide +kernel
theorem dX8_write_35 : decode cX8_write 35 = .ok (.iload_n 1, 1) := by decide +kernel
theorem dX8_write_36 : decode cX8_write 36 = .ok (.iastore, 1) := by decide +kernel
theorem dX8_write_37 : decode cX8_write 37 = .ok (.aload_n 0, 1) := by decide +kernel
theorem dX8_write_38 : decode cX8_write 38 = .ok (.dup, 1) := by decide +kernel
theorem dX8_write_39 : decode cX8_write 39 = .ok (.getfield 85, 3) := by decide +kernel
theorem dX8_write_42 : decode cX8_write 42 = .ok (.iconst 1, 1) := by decide +kernel
theorem dX8_write_43 : decode cX8_write 43 = .ok (.iadd, 1) := by decide +kernel
theorem dX8_write_44 : decode cX8_write 44 = .ok (.putfield 85, 3) := by decide +kernel
theorem dX8_write_47 : decode cX8_write 47 = .ok (.aload_n 0, 1) := by decide +kernel
theorem dX8_write_48 : decode cX8_write 48 = .ok (.getfield 85, 3) := by decide +kernel
theorem dX8_write_51 : decode cX8_write 51 = .ok (.ireturn, 1) := by decide +kernel
theorem dX8_wipe_0 : decode cX8_wipe 0 = .ok (.aload_n 0, 1) := by decide +kernel
theorem dX8_wipe_1 : decode cX8_wipe 1 = .ok (.getfield 85, 3) := by decide +kernel
theorem dX8_wipe_4 : decode cX8_wipe 4 = .ok (.istore_n 1, 1) := by decide +kernel
theorem dX8_wipe_5 : decode cX8_wipe 5 = .ok (.aload_n 0, 1) := by decide +kernel
theorem dX8_wipe_6 : decode cX8_wipe 6 = .ok (.iconst 0, 1) := by decide +kernel
theorem dX8_wipe_7 : decode cX8_wipe 7 = .ok (.putfield 85, 3) := by decide +kernel
theorem dX8_wipe_10 : decode cX8_wipe 10 = .ok (.iload_n 1, 1) := by decide +kernel
theorem dX8_wipe_11 : decode cX8_wipe 11 = .ok (.ireturn, 1) := by decide +kernel
set_option maxRecDepth 20000 in
theorem ggX8_fault_X8_reads : GoodIn wsX8_fault wsX8_reads := goodIn_r _ [5, 6, 7, 8, 9, 10, 11, 4, 12, 13, 14, 15, 16, 17, 18, 19, 20, 21, 22, 23, 24, 25, 26, 27, 28, 29, 30, 31, 32, 33, 34, 35, 36, 37, 38, 39, 40, 41, 42, 43, 44, 45, 46, 47, 48, 49, 50, 51, 52, 53, 54, 55, 56, 57, 58, 59, 60, 61, 62, 63, 64, 65, 66, 67, 68, 69, 70, 71, 72, 73, 74, 75, 76, 77, 78, 79, 80, 81, 82, 83, 84, 85, 86] (by decide +kernel) (by decide +kernel)
set_option maxRecDepth 20000 in
theorem gX8_fault_X8_reads : GoodIn wsX8_fault (wsV RX8 128 RX8 yX8_reads wsX8_reads) := goodIn_app (goodIn_of _ (by decide +kernel)) ggX8_fault_X8_reads
theorem dX8_fault_0 : decode cX8_fault 0 = .ok (.aload_n 0, 1) := by decide +kernel
theorem dX8_fault_1 : decode cX8_fault 1 = .ok (.invokevirtual 128, 3) := by decide +kernel
theorem dX8_fault_4 : decode cX8_fault 4 = .ok (.ireturn, 1) := by decide +kernel
set_option maxRecDepth 20000 in
theorem ggX8_lay_X8_reads : GoodIn wsX8_lay wsX8_reads := goodIn_r _ [6, 7, 8, 9, 10, 11, 12, 5, 13, 14, 15, 16, 17, 18, 19, 20, 21, 22, 23, 24, 25, 26, 27, 28, 29, 30, 31, 32, 33, 34, 35, 36, 37, 38, 39, 40, 41, 42, 43, 44, 45, 46, 47, 48, 49, 50, 51, 52, 53, 54, 55, 56, 57, 58, 59, 60, 61, 75, 76, 77, 78, 79, 80, 81, 82, 83, 84, 85, 86, 87, 88, 89, 90, 91, 92, 93, 94, 95, 96, 97, 98, 99, 100] (by decide +kernel) (by decide +kernel)
set_option maxRecDepth 20000 in
theorem gX8_lay_X8_reads : GoodIn wsX8_lay (wsV RX8 128 RX8 yX8_reads wsX8_reads) := goodIn_app (goodIn_of _ (by decide +kernel)) ggX8_lay_X8_reads
set_option maxRecDepth 20000 in
theorem ggX8_lay_X8_hang : GoodIn wsX8_lay wsX8_hang := goodIn_r _ [65, 14, 16, 75, 76, 77, 78, 79, 80, 81, 82, 83, 84, 85, 86, 87, 88, 89, 90, 91, 92, 93, 94, 95, 96, 97, 98, 99, 100] (by decide +kernel) (by decide +kernel)
set_option maxRecDepth 20000 in
theorem gX8_lay_X8_hang : GoodIn wsX8_lay (wsV RX8 132 RX8 yX8_hang wsX8_hang) := goodIn_app (goodIn_of _ (by decide +kernel)) ggX8_lay_X8_hang
set_option maxRecDepth 20000 in
theorem ggX8_lay_X8_takes : GoodIn wsX8_lay wsX8_takes := goodIn_r _ [69, 14, 1, 15, 70, 71, 16, 72, 17, 73, 18, 74, 75, 76, 77, 78, 79, 80, 81, 82, 83, 84, 85, 86, 87, 88, 89, 90, 91, 92, 93, 94, 95, 96, 97, 98, 99, 100] (by decide +kernel) (by decide +kernel)
set_option maxRecDepth 20000 in
theorem gX8_lay_X8_takes : GoodIn wsX8_lay (wsV RX8 70 RX8 yX8_takes wsX8_takes) := goodIn_app (goodIn_of _ (by decide +kernel)) ggX8_lay_X8_takes
theorem dX8_lay_0 : decode cX8_lay 0 = .ok (.aload_n 0, 1) := by decide +kernel
theorem dX8_lay_1 : decode cX8_lay 1 = .ok (.invokevirtual 128, 3) := by decide +kernel
theorem dX8_lay_4 : decode cX8_lay 4 = .ok (.bipush (-4), 2) := by decide +kernel
theorem dX8_lay_6 : decode cX8_lay 6 = .ok (.if_icmp .ne 10, 3) := by decide +kernel
theorem dX8_lay_9 : decode cX8_lay 9 = .ok (.aload_n 0, 1) := by decide +kernel
theorem dX8_lay_10 : decode cX8_lay 10 = .ok (.invokevirtual 132, 3) := by decide +kernel
theorem dX8_lay_13 : decode cX8_lay 13 = .ok (.ifCond .ne 6, 3) := by decide +kernel
theorem dX8_lay_16 : decode cX8_lay 16 = .ok (.bipush (-2), 2) := by decide +kernel
theorem dX8_lay_18 : decode cX8_lay 18 = .ok (.ireturn, 1) := by decide +kernel
theorem dX8_lay_19 : decode cX8_lay 19 = .ok (.aload_n 0, 1) := by decide +kernel
theorem dX8_lay_20 : decode cX8_lay 20 = .ok (.invokevirtual 70, 3) := by decide +kernel
theorem dX8_lay_23 : decode cX8_lay 23 = .ok (.aload_n 0, 1) := by decide +kernel
theorem dX8_lay_24 : decode cX8_lay 24 = .ok (.getfield 76, 3) := by decide +kernel
theorem dX8_lay_27 : decode cX8_lay 27 = .ok (.ireturn, 1) := by decide +kernel
theorem dX8_keeps_0 : decode cX8_keeps 0 = .ok (.aload_n 0, 1) := by decide +kernel
theorem dX8_keeps_1 : decode cX8_keeps 1 = .ok (.getfield 82, 3) := by decide +kernel
theorem dX8_keeps_4 : decode cX8_keeps 4 = .ok (.bipush 6, 2) := by decide +kernel
theorem dX8_keeps_6 : decode cX8_keeps 6 = .ok (.if_icmp .ne 42, 3) := by decide +kernel
theorem dX8_keeps_9 : decode cX8_keeps 9 = .ok (.iconst 0, 1) := by decide +kernel
theorem dX8_keeps_10 : decode cX8_keeps 10 = .ok (.istore_n 1, 1) := by decide +kernel
theorem dX8_keeps_11 : decode cX8_keeps 11 = .ok (.iload_n 1, 1) := by decide +kernel
theorem dX8_keeps_12 : decode cX8_keeps 12 = .ok (.bipush 100, 2) := by decide +kernel
theorem dX8_keeps_14 : decode cX8_keeps 14 = .ok (.if_icmp .ge 24, 3) := by decide +kernel
theorem dX8_keeps_17 : decode cX8_keeps 17 = .ok (.aload_n 0, 1) := by decide +kernel
theorem dX8_keeps_18 : decode cX8_keeps 18 = .ok (.getfield 22, 3) := by decide +kernel
theorem dX8_keeps_21 : decode cX8_keeps 21 = .ok (.iload_n 1, 1) := by decide +kernel
theorem dX8_keeps_22 : decode cX8_keeps 22 = .ok (.aload_n 0, 1) := by decide +kernel
theorem dX8_keeps_23 : decode cX8_keeps 23 = .ok (.getfield 22, 3) := by decide +kernel
theorem dX8_keeps_26 : decode cX8_keeps 26 = .ok (.iload_n 1, 1) := by decide +kernel
theorem dX8_keeps_27 : decode cX8_keeps 27 = .ok (.bipush 20, 2) := by decide +kernel
theorem dX8_keeps_29 : decode cX8_keeps 29 = .ok (.iadd, 1) := by decide +kernel
theorem dX8_keeps_30 : decode cX8_keeps 30 = .ok (.iaload, 1) := by decide +kernel
theorem dX8_keeps_31 : decode cX8_keeps 31 = .ok (.iastore, 1) := by decide +kernel
theorem dX8_keeps_32 : decode cX8_keeps 32 = .ok (.iinc 1 1, 3) := by decide +kernel
theorem dX8_keeps_35 : decode cX8_keeps 35 = .ok (.goto (-24), 3) := by decide +kernel
theorem dX8_keeps_38 : decode cX8_keeps 38 = .ok (.aload_n 0, 1) := by decide +kernel
theorem dX8_keeps_39 : decode cX8_keeps 39 = .ok (.dup, 1) := by decide +kernel
theorem dX8_keeps_40 : decode cX8_keeps 40 = .ok (.getfield 82, 3) := by decide +kernel
theorem dX8_keeps_43 : decode cX8_keeps 43 = .ok (.iconst 1, 1) := by decide +kernel
theorem dX8_keeps_44 : decode cX8_keeps 44 = .ok (.isub, 1) := by decide +kernel
theorem dX8_keeps_45 : decode cX8_keeps 45 = .ok (.putfield 82, 3) := by decide +kernel
theorem dX8_keeps_48 : decode cX8_keeps 48 = .ok (.iconst 0, 1) := by decide +kernel
theorem dX8_keeps_49 : decode cX8_keeps 49 = .ok (.istore_n 1, 1) := by decide +kernel
theorem dX8_keeps_50 : decode cX8_keeps 50 = .ok (.iload_n 1, 1) := by decide +kernel
theorem dX8_keeps_51 : decode cX8_keeps 51 = .ok (.bipush 20, 2) := by decide +kernel
theorem dX8_keeps_53 : decode cX8_keeps 53 = .ok (.if_icmp .ge 29, 3) := by decide +kernel
theorem dX8_keeps_56 : decode cX8_keeps 56 = .ok (.aload_n 0, 1) := by decide +kernel
theorem dX8_keeps_57 : decode cX8_keeps 57 = .ok (.getfield 22, 3) := by decide +kernel
theorem dX8_keeps_60 : decode cX8_keeps 60 = .ok (.bipush 20, 2) := by decide +kernel
theorem dX8_keeps_62 : decode cX8_keeps 62 = .ok (.aload_n 0, 1) := by decide +kernel
theorem dX8_keeps_63 : decode cX8_keeps 63 = .ok (.getfield 82, 3) := by decide +kernel
theorem dX8_keeps_66 : decode cX8_keeps 66 = .ok (.imul, 1) := by decide +kernel
theorem dX8_keeps_67 : decode cX8_keeps 67 = .ok (.iload_n 1, 1) := by decide +kernel
theorem dX8_keeps_68 : decode cX8_keeps 68 = .ok (.iadd, 1) := by decide +kernel
theorem dX8_keeps_69 : decode cX8_keeps 69 = .ok (.aload_n 0, 1) := by decide +kernel
theorem dX8_keeps_70 : decode cX8_keeps 70 = .ok (.getfield 19, 3) := by decide +kernel
end
section
theorem dX8_keeps_73 : decode cX8_keeps 73 = .ok (.iload_n 1, 1) := by decide +kernel
theorem dX8_keeps_74 : decode cX8_keeps 74 = .ok (.iaload, 1) := by decide +kernel
theorem dX8_keeps_75 : decode cX8_keeps 75 = .ok (.iastore, 1) := by decide +kernel
theorem dX8_keeps_76 : decode cX8_keeps 76 = .ok (.iinc 1 1, 3) := by decide +kernel
theorem dX8_keeps_79 : decode cX8_keeps 79 = .ok (.goto (-29), 3) := by decide +kernel
theorem dX8_keeps_82 : decode cX8_keeps 82 = .ok (.aload_n 0, 1) := by decide +kernel
theorem dX8_keeps_83 : decode cX8_keeps 83 = .ok (.dup, 1) := by decide +kernel
theorem dX8_keeps_84 : decode cX8_keeps 84 = .ok (.getfield 82, 3) := by decide +kernel
theorem dX8_keeps_87 : decode cX8_keeps 87 = .ok (.iconst 1, 1) := by decide +kernel
theorem dX8_keeps_88 : decode cX8_keeps 88 = .ok (.iadd, 1) := by decide +kernel
theorem dX8_keeps_89 : decode cX8_keeps 89 = .ok (.putfield 82, 3) := by decide +kernel
theorem dX8_keeps_92 : decode cX8_keeps 92 = .ok (.return_, 1) := by decide +kernel
theorem dX8_undo_0 : decode cX8_undo 0 = .ok (.aload_n 0, 1) := by decide +kernel
theorem dX8_undo_1 : decode cX8_undo 1 = .ok (.getfield 82, 3) := by decide +kernel
theorem dX8_undo_4 : decode cX8_undo 4 = .ok (.ifCond .ne 6, 3) := by decide +kernel
theorem dX8_undo_7 : decode cX8_undo 7 = .ok (.bipush (-2), 2) := by decide +kernel
theorem dX8_undo_9 : decode cX8_undo 9 = .ok (.ireturn, 1) := by decide +kernel
theorem dX8_undo_10 : decode cX8_undo 10 = .ok (.aload_n 0, 1) := by decide +kernel
theorem dX8_undo_11 : decode cX8_undo 11 = .ok (.dup, 1) := by decide +kernel
theorem dX8_undo_12 : decode cX8_undo 12 = .ok (.getfield 82, 3) := by decide +kernel
theorem dX8_undo_15 : decode cX8_undo 15 = .ok (.iconst 1, 1) := by decide +kernel
theorem dX8_undo_16 : decode cX8_undo 16 = .ok (.isub, 1) := by decide +kernel
theorem dX8_undo_17 : decode cX8_undo 17 = .ok (.putfield 82, 3) := by decide +kernel
theorem dX8_undo_20 : decode cX8_undo 20 = .ok (.iconst 0, 1) := by decide +kernel
theorem dX8_undo_21 : decode cX8_undo 21 = .ok (.istore_n 1, 1) := by decide +kernel
theorem dX8_undo_22 : decode cX8_undo 22 = .ok (.iload_n 1, 1) := by decide +kernel
theorem dX8_undo_23 : decode cX8_undo 23 = .ok (.bipush 20, 2) := by decide +kernel
theorem dX8_undo_25 : decode cX8_undo 25 = .ok (.if_icmp .ge 29, 3) := by decide +kernel
theorem dX8_undo_28 : decode cX8_undo 28 = .ok (.aload_n 0, 1) := by decide +kernel
theorem dX8_undo_29 : decode cX8_undo 29 = .ok (.getfield 19, 3) := by decide +kernel
theorem dX8_undo_32 : decode cX8_undo 32 = .ok (.iload_n 1, 1) := by decide +kernel
theorem dX8_undo_33 : decode cX8_undo 33 = .ok (.aload_n 0, 1) := by decide +kernel
theorem dX8_undo_34 : decode cX8_undo 34 = .ok (.getfield 22, 3) := by decide +kernel
theorem dX8_undo_37 : decode cX8_undo 37 = .ok (.bipush 20, 2) := by decide +kernel
theorem dX8_undo_39 : decode cX8_undo 39 = .ok (.aload_n 0, 1) := by decide +kernel
theorem dX8_undo_40 : decode cX8_undo 40 = .ok (.getfield 82, 3) := by decide +kernel
theorem dX8_undo_43 : decode cX8_undo 43 = .ok (.imul, 1) := by decide +kernel
theorem dX8_undo_44 : decode cX8_undo 44 = .ok (.iload_n 1, 1) := by decide +kernel
theorem dX8_undo_45 : decode cX8_undo 45 = .ok (.iadd, 1) := by decide +kernel
theorem dX8_undo_46 : decode cX8_undo 46 = .ok (.iaload, 1) := by decide +kernel
theorem dX8_undo_47 : decode cX8_undo 47 = .ok (.iastore, 1) := by decide +kernel
theorem dX8_undo_48 : decode cX8_undo 48 = .ok (.iinc 1 1, 3) := by decide +kernel
theorem dX8_undo_51 : decode cX8_undo 51 = .ok (.goto (-29), 3) := by decide +kernel
theorem dX8_undo_54 : decode cX8_undo 54 = .ok (.aload_n 0, 1) := by decide +kernel
theorem dX8_undo_55 : decode cX8_undo 55 = .ok (.getfield 82, 3) := by decide +kernel
theorem dX8_undo_58 : decode cX8_undo 58 = .ok (.ireturn, 1) := by decide +kernel
set_option maxRecDepth 20000 in
theorem ggX8_isCell_X8_isIn : GoodIn wsX8_isCell wsX8_isIn := goodIn_r _ [5] (by decide +kernel) (by decide +kernel)
set_option maxRecDepth 20000 in
theorem gX8_isCell_X8_isIn : GoodIn wsX8_isCell (va_wsS RX8 98 yX8_isIn wsX8_isIn) := goodIn_app (goodIn_of _ (by decide +kernel)) ggX8_isCell_X8_isIn
theorem dX8_isCell_0 : decode cX8_isCell 0 = .ok (.iload_n 1, 1) := by decide +kernel
theorem dX8_isCell_1 : decode cX8_isCell 1 = .ok (.iconst 0, 1) := by decide +kernel
theorem dX8_isCell_2 : decode cX8_isCell 2 = .ok (.aload_n 0, 1) := by decide +kernel
theorem dX8_isCell_3 : decode cX8_isCell 3 = .ok (.getfield 76, 3) := by decide +kernel
theorem dX8_isCell_6 : decode cX8_isCell 6 = .ok (.iconst 1, 1) := by decide +kernel
theorem dX8_isCell_7 : decode cX8_isCell 7 = .ok (.isub, 1) := by decide +kernel
theorem dX8_isCell_8 : decode cX8_isCell 8 = .ok (.invokestatic 98, 3) := by decide +kernel
theorem dX8_isCell_11 : decode cX8_isCell 11 = .ok (.ireturn, 1) := by decide +kernel
theorem dX8_registers_0 : decode cX8_registers 0 = .ok (.aload_n 0, 1) := by decide +kernel
theorem dX8_registers_1 : decode cX8_registers 1 = .ok (.bipush 15, 2) := by decide +kernel
theorem dX8_registers_3 : decode cX8_registers 3 = .ok (.aload_n 0, 1) := by decide +kernel
theorem dX8_registers_4 : decode cX8_registers 4 = .ok (.bipush 14, 2) := by decide +kernel
theorem dX8_registers_6 : decode cX8_registers 6 = .ok (.iaload, 1) := by decide +kernel
theorem dX8_registers_7 : decode cX8_registers 7 = .ok (.iastore, 1) := by decide +kernel
theorem dX8_registers_8 : decode cX8_registers 8 = .ok (.aload_n 0, 1) := by decide +kernel
theorem dX8_registers_9 : decode cX8_registers 9 = .ok (.bipush 16, 2) := by decide +kernel
theorem dX8_registers_11 : decode cX8_registers 11 = .ok (.iconst 0, 1) := by decide +kernel
theorem dX8_registers_12 : decode cX8_registers 12 = .ok (.iastore, 1) := by decide +kernel
theorem dX8_registers_13 : decode cX8_registers 13 = .ok (.aload_n 0, 1) := by decide +kernel
theorem dX8_registers_14 : decode cX8_registers 14 = .ok (.bipush 17, 2) := by decide +kernel
theorem dX8_registers_16 : decode cX8_registers 16 = .ok (.iconst 0, 1) := by decide +kernel
theorem dX8_registers_17 : decode cX8_registers 17 = .ok (.iastore, 1) := by decide +kernel
theorem dX8_registers_18 : decode cX8_registers 18 = .ok (.return_, 1) := by decide +kernel
set_option maxRecDepth 20000 in
theorem ggX8_set_X8_isCell : GoodIn wsX8_set wsX8_isCell := goodIn_r _ [6, 7, 8, 9, 5, 10, 20, 21, 22, 23, 24, 25, 26, 27, 28, 29, 30, 31, 32, 33, 34, 35, 36, 37, 38, 39, 40, 41, 42, 43, 44, 45] (by decide +kernel) (by decide +kernel)
set_option maxRecDepth 20000 in
theorem gX8_set_X8_isCell : GoodIn wsX8_set (wsV RX8 136 RX8 yX8_isCell wsX8_isCell) := goodIn_app (goodIn_of _ (by decide +kernel)) ggX8_set_X8_isCell
set_option maxRecDepth 20000 in
theorem ggX8_set_X8_isIn : GoodIn wsX8_set wsX8_isIn := goodIn_r _ [10] (by decide +kernel) (by decide +kernel)
set_option maxRecDepth 20000 in
theorem gX8_set_X8_isIn : GoodIn wsX8_set (va_wsS RX8 98 yX8_isIn wsX8_isIn) := goodIn_app (goodIn_of _ (by decide +kernel)) ggX8_set_X8_isIn
set_option maxRecDepth 20000 in
theorem ggX8_set_X8_keeps : GoodIn wsX8_set wsX8_keeps := goodIn_r _ [14, 15, 16, 1, 20, 21, 22, 23, 24, 25, 26, 27, 28, 29, 30, 31, 32, 33, 34, 35, 36, 37, 38, 39, 40, 41, 42, 43, 44, 45] (by decide +kernel) (by decide +kernel)
set_option maxRecDepth 20000 in
theorem gX8_set_X8_keeps : GoodIn wsX8_set (wsV RX8 139 RX8 yX8_keeps wsX8_keeps) := goodIn_app (goodIn_of _ (by decide +kernel)) ggX8_set_X8_keeps
set_option maxRecDepth 20000 in
theorem ggX8_set_X8_registers : GoodIn wsX8_set wsX8_registers := goodIn_r _ [19] (by decide +kernel) (by decide +kernel)
set_option maxRecDepth 20000 in
theorem gX8_set_X8_registers : GoodIn wsX8_set (va_wsS RX8 142 yX8_registers wsX8_registers) := goodIn_app (goodIn_of _ (by decide +kernel)) ggX8_set_X8_registers
theorem dX8_set_0 : decode cX8_set 0 = .ok (.aload_n 0, 1) := by decide +kernel
theorem dX8_set_1 : decode cX8_set 1 = .ok (.iload_n 1, 1) := by decide +kernel
theorem dX8_set_2 : decode cX8_set 2 = .ok (.invokevirtual 136, 3) := by decide +kernel
theorem dX8_set_5 : decode cX8_set 5 = .ok (.ifCond .eq 30, 3) := by decide +kernel
theorem dX8_set_8 : decode cX8_set 8 = .ok (.iload_n 2, 1) := by decide +kernel
theorem dX8_set_9 : decode cX8_set 9 = .ok (.iconst 0, 1) := by decide +kernel
theorem dX8_set_10 : decode cX8_set 10 = .ok (.iconst 1, 1) := by decide +kernel
theorem dX8_set_11 : decode cX8_set 11 = .ok (.invokestatic 98, 3) := by decide +kernel
theorem dX8_set_14 : decode cX8_set 14 = .ok (.ifCond .eq 21, 3) := by decide +kernel
theorem dX8_set_17 : decode cX8_set 17 = .ok (.iload_n 3, 1) := by decide +kernel
theorem dX8_set_18 : decode cX8_set 18 = .ok (.iconst 0, 1) := by decide +kernel
theorem dX8_set_19 : decode cX8_set 19 = .ok (.iload_n 2, 1) := by decide +kernel
theorem dX8_set_20 : decode cX8_set 20 = .ok (.ifCond .ne 8, 3) := by decide +kernel
theorem dX8_set_23 : decode cX8_set 23 = .ok (.bipush 9, 2) := by decide +kernel
theorem dX8_set_25 : decode cX8_set 25 = .ok (.goto 4, 3) := by decide +kernel
theorem dX8_set_28 : decode cX8_set 28 = .ok (.iconst 5, 1) := by decide +kernel
theorem dX8_set_29 : decode cX8_set 29 = .ok (.invokestatic 98, 3) := by decide +kernel
theorem dX8_set_32 : decode cX8_set 32 = .ok (.ifCond .ne 5, 3) := by decide +kernel
theorem dX8_set_35 : decode cX8_set 35 = .ok (.iconst (-1), 1) := by decide +kernel
theorem dX8_set_36 : decode cX8_set 36 = .ok (.ireturn, 1) := by decide +kernel
theorem dX8_set_37 : decode cX8_set 37 = .ok (.aload_n 0, 1) := by decide +kernel
theorem dX8_set_38 : decode cX8_set 38 = .ok (.getfield 19, 3) := by decide +kernel
theorem dX8_set_41 : decode cX8_set 41 = .ok (.bipush 6, 2) := by decide +kernel
theorem dX8_set_43 : decode cX8_set 43 = .ok (.iload_n 2, 1) := by decide +kernel
theorem dX8_set_44 : decode cX8_set 44 = .ok (.imul, 1) := by decide +kernel
theorem dX8_set_45 : decode cX8_set 45 = .ok (.iload_n 1, 1) := by decide +kernel
theorem dX8_set_46 : decode cX8_set 46 = .ok (.iadd, 1) := by decide +kernel
theorem dX8_set_47 : decode cX8_set 47 = .ok (.iaload, 1) := by decide +kernel
theorem dX8_set_48 : decode cX8_set 48 = .ok (.istore 4, 2) := by decide +kernel
theorem dX8_set_50 : decode cX8_set 50 = .ok (.iload 4, 2) := by decide +kernel
theorem dX8_set_52 : decode cX8_set 52 = .ok (.iload_n 3, 1) := by decide +kernel
theorem dX8_set_53 : decode cX8_set 53 = .ok (.if_icmp .ne 6, 3) := by decide +kernel
theorem dX8_set_56 : decode cX8_set 56 = .ok (.bipush (-2), 2) := by decide +kernel
theorem dX8_set_58 : decode cX8_set 58 = .ok (.ireturn, 1) := by decide +kernel
theorem dX8_set_59 : decode cX8_set 59 = .ok (.aload_n 0, 1) := by decide +kernel
theorem dX8_set_60 : decode cX8_set 60 = .ok (.invokevirtual 139, 3) := by decide +kernel
theorem dX8_set_63 : decode cX8_set 63 = .ok (.aload_n 0, 1) := by decide +kernel
theorem dX8_set_64 : decode cX8_set 64 = .ok (.getfield 19, 3) := by decide +kernel
theorem dX8_set_67 : decode cX8_set 67 = .ok (.bipush 6, 2) := by decide +kernel
theorem dX8_set_69 : decode cX8_set 69 = .ok (.iload_n 2, 1) := by decide +kernel
theorem dX8_set_70 : decode cX8_set 70 = .ok (.imul, 1) := by decide +kernel
theorem dX8_set_71 : decode cX8_set 71 = .ok (.iload_n 1, 1) := by decide +kernel
theorem dX8_set_72 : decode cX8_set 72 = .ok (.iadd, 1) := by decide +kernel
theorem dX8_set_73 : decode cX8_set 73 = .ok (.iload_n 3, 1) := by decide +kernel
theorem dX8_set_74 : decode cX8_set 74 = .ok (.iastore, 1) := by decide +kernel
theorem dX8_set_75 : decode cX8_set 75 = .ok (.aload_n 0, 1) := by decide +kernel
theorem dX8_set_76 : decode cX8_set 76 = .ok (.getfield 19, 3) := by decide +kernel
theorem dX8_set_79 : decode cX8_set 79 = .ok (.invokestatic 142, 3) := by decide +kernel
theorem dX8_set_82 : decode cX8_set 82 = .ok (.iload 4, 2) := by decide +kernel
theorem dX8_set_84 : decode cX8_set 84 = .ok (.ireturn, 1) := by decide +kernel
set_option maxRecDepth 20000 in
theorem ggX8_law_X8_isLaw : GoodIn wsX8_law wsX8_isLaw := goodIn_r _ [5, 6, 7, 4, 8] (by decide +kernel) (by decide +kernel)
set_option maxRecDepth 20000 in
theorem gX8_law_X8_isLaw : GoodIn wsX8_law (va_wsS RX8 109 yX8_isLaw wsX8_isLaw) := goodIn_app (goodIn_of _ (by decide +kernel)) ggX8_law_X8_isLaw
set_option maxRecDepth 20000 in
theorem ggX8_law_X8_keeps : GoodIn wsX8_law wsX8_keeps := goodIn_r _ [12, 13, 14, 1, 18, 19, 20, 21, 22, 23, 24, 25, 26, 27, 28, 29, 30, 31, 32, 33, 34, 35, 36, 37, 38, 39, 40, 41, 42, 43] (by decide +kernel) (by decide +kernel)
set_option maxRecDepth 20000 in
theorem gX8_law_X8_keeps : GoodIn wsX8_law (wsV RX8 139 RX8 yX8_keeps wsX8_keeps) := goodIn_app (goodIn_of _ (by decide +kernel)) ggX8_law_X8_keeps
set_option maxRecDepth 20000 in
theorem ggX8_law_X8_registers : GoodIn wsX8_law wsX8_registers := goodIn_r _ [17] (by decide +kernel) (by decide +kernel)
set_option maxRecDepth 20000 in
theorem gX8_law_X8_registers : GoodIn wsX8_law (va_wsS RX8 142 yX8_registers wsX8_registers) := goodIn_app (goodIn_of _ (by decide +kernel)) ggX8_law_X8_registers
theorem dX8_law_0 : decode cX8_law 0 = .ok (.iload_n 1, 1) := by decide +kernel
theorem dX8_law_1 : decode cX8_law 1 = .ok (.iload_n 2, 1) := by decide +kernel
theorem dX8_law_2 : decode cX8_law 2 = .ok (.invokestatic 109, 3) := by decide +kernel
theorem dX8_law_5 : decode cX8_law 5 = .ok (.ifCond .ne 5, 3) := by decide +kernel
theorem dX8_law_8 : decode cX8_law 8 = .ok (.iconst (-1), 1) := by decide +kernel
theorem dX8_law_9 : decode cX8_law 9 = .ok (.ireturn, 1) := by decide +kernel
theorem dX8_law_10 : decode cX8_law 10 = .ok (.bipush 10, 2) := by decide +kernel
theorem dX8_law_12 : decode cX8_law 12 = .ok (.aload_n 0, 1) := by decide +kernel
theorem dX8_law_13 : decode cX8_law 13 = .ok (.getfield 19, 3) := by decide +kernel
theorem dX8_law_16 : decode cX8_law 16 = .ok (.bipush 12, 2) := by decide +kernel
theorem dX8_law_18 : decode cX8_law 18 = .ok (.iaload, 1) := by decide +kernel
theorem dX8_law_19 : decode cX8_law 19 = .ok (.imul, 1) := by decide +kernel
theorem dX8_law_20 : decode cX8_law 20 = .ok (.aload_n 0, 1) := by decide +kernel
theorem dX8_law_21 : decode cX8_law 21 = .ok (.getfield 19, 3) := by decide +kernel
theorem dX8_law_24 : decode cX8_law 24 = .ok (.bipush 13, 2) := by decide +kernel
theorem dX8_law_26 : decode cX8_law 26 = .ok (.iaload, 1) := by decide +kernel
theorem dX8_law_27 : decode cX8_law 27 = .ok (.iadd, 1) := by decide +kernel
theorem dX8_law_28 : decode cX8_law 28 = .ok (.istore_n 3, 1) := by decide +kernel
theorem dX8_law_29 : decode cX8_law 29 = .ok (.iload_n 3, 1) := by decide +kernel
theorem dX8_law_30 : decode cX8_law 30 = .ok (.bipush 10, 2) := by decide +kernel
theorem dX8_law_32 : decode cX8_law 32 = .ok (.iload_n 1, 1) := by decide +kernel
theorem dX8_law_33 : decode cX8_law 33 = .ok (.imul, 1) := by decide +kernel
theorem dX8_law_34 : decode cX8_law 34 = .ok (.iload_n 2, 1) := by decide +kernel
theorem dX8_law_35 : decode cX8_law 35 = .ok (.iadd, 1) := by decide +kernel
theorem dX8_law_36 : decode cX8_law 36 = .ok (.if_icmp .ne 6, 3) := by decide +kernel
theorem dX8_law_39 : decode cX8_law 39 = .ok (.bipush (-2), 2) := by decide +kernel
theorem dX8_law_41 : decode cX8_law 41 = .ok (.ireturn, 1) := by decide +kernel
theorem dX8_law_42 : decode cX8_law 42 = .ok (.aload_n 0, 1) := by decide +kernel
theorem dX8_law_43 : decode cX8_law 43 = .ok (.invokevirtual 139, 3) := by decide +kernel
theorem dX8_law_46 : decode cX8_law 46 = .ok (.aload_n 0, 1) := by decide +kernel
theorem dX8_law_47 : decode cX8_law 47 = .ok (.getfield 19, 3) := by decide +kernel
theorem dX8_law_50 : decode cX8_law 50 = .ok (.bipush 12, 2) := by decide +kernel
theorem dX8_law_52 : decode cX8_law 52 = .ok (.iload_n 1, 1) := by decide +kernel
theorem dX8_law_53 : decode cX8_law 53 = .ok (.iastore, 1) := by decide +kernel
theorem dX8_law_54 : decode cX8_law 54 = .ok (.aload_n 0, 1) := by decide +kernel
theorem dX8_law_55 : decode cX8_law 55 = .ok (.getfield 19, 3) := by decide +kernel
theorem dX8_law_58 : decode cX8_law 58 = .ok (.bipush 13, 2) := by decide +kernel
theorem dX8_law_60 : decode cX8_law 60 = .ok (.iload_n 2, 1) := by decide +kernel
theorem dX8_law_61 : decode cX8_law 61 = .ok (.iastore, 1) := by decide +kernel
theorem dX8_law_62 : decode cX8_law 62 = .ok (.aload_n 0, 1) := by decide +kernel
theorem dX8_law_63 : decode cX8_law 63 = .ok (.getfield 19, 3) := by decide +kernel
theorem dX8_law_66 : decode cX8_law 66 = .ok (.invokestatic 142, 3) := by decide +kernel
theorem dX8_law_69 : decode cX8_law 69 = .ok (.iload_n 3, 1) := by decide +kernel
theorem dX8_law_70 : decode cX8_law 70 = .ok (.ireturn, 1) := by decide +kernel
theorem dX8_out_0 : decode cX8_out 0 = .ok (.iconst 0, 1) := by decide +kernel
theorem dX8_out_1 : decode cX8_out 1 = .ok (.istore_n 2, 1) := by decide +kernel
theorem dX8_out_2 : decode cX8_out 2 = .ok (.iconst 0, 1) := by decide +kernel
theorem dX8_out_3 : decode cX8_out 3 = .ok (.istore_n 3, 1) := by decide +kernel
theorem dX8_out_4 : decode cX8_out 4 = .ok (.iload_n 3, 1) := by decide +kernel
theorem dX8_out_5 : decode cX8_out 5 = .ok (.aload_n 0, 1) := by decide +kernel
theorem dX8_out_6 : decode cX8_out 6 = .ok (.getfield 76, 3) := by decide +kernel
theorem dX8_out_9 : decode cX8_out 9 = .ok (.if_icmp .ge 23, 3) := by decide +kernel
theorem dX8_out_12 : decode cX8_out 12 = .ok (.iload_n 2, 1) := by decide +kernel
theorem dX8_out_13 : decode cX8_out 13 = .ok (.aload_n 0, 1) := by decide +kernel
theorem dX8_out_14 : decode cX8_out 14 = .ok (.getfield 13, 3) := by decide +kernel
theorem dX8_out_17 : decode cX8_out 17 = .ok (.bipush 6, 2) := by decide +kernel
theorem dX8_out_19 : decode cX8_out 19 = .ok (.iload_n 1, 1) := by decide +kernel
theorem dX8_out_20 : decode cX8_out 20 = .ok (.imul, 1) := by decide +kernel
theorem dX8_out_21 : decode cX8_out 21 = .ok (.iload_n 3, 1) := by decide +kernel
theorem dX8_out_22 : decode cX8_out 22 = .ok (.iadd, 1) := by decide +kernel
theorem dX8_out_23 : decode cX8_out 23 = .ok (.iaload, 1) := by decide +kernel
theorem dX8_out_24 : decode cX8_out 24 = .ok (.iadd, 1) := by decide +kernel
theorem dX8_out_25 : decode cX8_out 25 = .ok (.istore_n 2, 1) := by decide +kernel
theorem dX8_out_26 : decode cX8_out 26 = .ok (.iinc 3 1, 3) := by decide +kernel
theorem dX8_out_29 : decode cX8_out 29 = .ok (.goto (-25), 3) := by decide +kernel
theorem dX8_out_32 : decode cX8_out 32 = .ok (.iload_n 2, 1) := by decide +kernel
theorem dX8_out_33 : decode cX8_out 33 = .ok (.ireturn, 1) := by decide +kernel
set_option maxRecDepth 20000 in
theorem ggX8_sum_X8_out : GoodIn wsX8_sum wsX8_out := goodIn_r _ [6, 7, 8, 9, 10, 11, 12, 13, 14, 15, 16, 17, 18, 19, 20, 21, 22, 23, 24, 25, 26, 27, 28, 29, 30, 31, 32, 33, 34] (by decide +kernel) (by decide +kernel)
set_option maxRecDepth 20000 in
theorem gX8_sum_X8_out : GoodIn wsX8_sum (wsV RX8 146 RX8 yX8_out wsX8_out) := goodIn_app (goodIn_of _ (by decide +kernel)) ggX8_sum_X8_out
theorem dX8_sum_0 : decode cX8_sum 0 = .ok (.aload_n 0, 1) := by decide +kernel
theorem dX8_sum_1 : decode cX8_sum 1 = .ok (.iload_n 1, 1) := by decide +kernel
theorem dX8_sum_2 : decode cX8_sum 2 = .ok (.invokevirtual 146, 3) := by decide +kernel
theorem dX8_sum_5 : decode cX8_sum 5 = .ok (.aload_n 0, 1) := by decide +kernel
theorem dX8_sum_6 : decode cX8_sum 6 = .ok (.getfield 19, 3) := by decide +kernel
theorem dX8_sum_9 : decode cX8_sum 9 = .ok (.iload_n 1, 1) := by decide +kernel
theorem dX8_sum_10 : decode cX8_sum 10 = .ok (.iaload, 1) := by decide +kernel
theorem dX8_sum_11 : decode cX8_sum 11 = .ok (.iadd, 1) := by decide +kernel
theorem dX8_sum_12 : decode cX8_sum 12 = .ok (.ireturn, 1) := by decide +kernel
theorem dX8_joined_0 : decode cX8_joined 0 = .ok (.iconst 0, 1) := by decide +kernel
theorem dX8_joined_1 : decode cX8_joined 1 = .ok (.istore_n 2, 1) := by decide +kernel
theorem dX8_joined_2 : decode cX8_joined 2 = .ok (.iconst 0, 1) := by decide +kernel
theorem dX8_joined_3 : decode cX8_joined 3 = .ok (.istore_n 3, 1) := by decide +kernel
theorem dX8_joined_4 : decode cX8_joined 4 = .ok (.iload_n 3, 1) := by decide +kernel
theorem dX8_joined_5 : decode cX8_joined 5 = .ok (.aload_n 0, 1) := by decide +kernel
theorem dX8_joined_6 : decode cX8_joined 6 = .ok (.getfield 76, 3) := by decide +kernel
theorem dX8_joined_9 : decode cX8_joined 9 = .ok (.if_icmp .ge 33, 3) := by decide +kernel
theorem dX8_joined_12 : decode cX8_joined 12 = .ok (.iload_n 2, 1) := by decide +kernel
theorem dX8_joined_13 : decode cX8_joined 13 = .ok (.aload_n 0, 1) := by decide +kernel
theorem dX8_joined_14 : decode cX8_joined 14 = .ok (.getfield 13, 3) := by decide +kernel
theorem dX8_joined_17 : decode cX8_joined 17 = .ok (.bipush 6, 2) := by decide +kernel
theorem dX8_joined_19 : decode cX8_joined 19 = .ok (.iload_n 1, 1) := by decide +kernel
theorem dX8_joined_20 : decode cX8_joined 20 = .ok (.imul, 1) := by decide +kernel
theorem dX8_joined_21 : decode cX8_joined 21 = .ok (.iload_n 3, 1) := by decide +kernel
theorem dX8_joined_22 : decode cX8_joined 22 = .ok (.iadd, 1) := by decide +kernel
theorem dX8_joined_23 : decode cX8_joined 23 = .ok (.iaload, 1) := by decide +kernel
theorem dX8_joined_24 : decode cX8_joined 24 = .ok (.ifCond .le 9, 3) := by decide +kernel
theorem dX8_joined_27 : decode cX8_joined 27 = .ok (.iconst 1, 1) := by decide +kernel
theorem dX8_joined_28 : decode cX8_joined 28 = .ok (.iload_n 3, 1) := by decide +kernel
theorem dX8_joined_29 : decode cX8_joined 29 = .ok (.ishl, 1) := by decide +kernel
theorem dX8_joined_30 : decode cX8_joined 30 = .ok (.goto 4, 3) := by decide +kernel
theorem dX8_joined_33 : decode cX8_joined 33 = .ok (.iconst 0, 1) := by decide +kernel
theorem dX8_joined_34 : decode cX8_joined 34 = .ok (.ior, 1) := by decide +kernel
theorem dX8_joined_35 : decode cX8_joined 35 = .ok (.istore_n 2, 1) := by decide +kernel
theorem dX8_joined_36 : decode cX8_joined 36 = .ok (.iinc 3 1, 3) := by decide +kernel
theorem dX8_joined_39 : decode cX8_joined 39 = .ok (.goto (-35), 3) := by decide +kernel
theorem dX8_joined_42 : decode cX8_joined 42 = .ok (.iload_n 2, 1) := by decide +kernel
theorem dX8_joined_43 : decode cX8_joined 43 = .ok (.ireturn, 1) := by decide +kernel
theorem dX8_likeArea_0 : decode cX8_likeArea 0 = .ok (.iconst 0, 1) := by decide +kernel
theorem dX8_likeArea_1 : decode cX8_likeArea 1 = .ok (.istore_n 2, 1) := by decide +kernel
theorem dX8_likeArea_2 : decode cX8_likeArea 2 = .ok (.iconst 0, 1) := by decide +kernel
theorem dX8_likeArea_3 : decode cX8_likeArea 3 = .ok (.istore_n 3, 1) := by decide +kernel
theorem dX8_likeArea_4 : decode cX8_likeArea 4 = .ok (.iload_n 3, 1) := by decide +kernel
theorem dX8_likeArea_5 : decode cX8_likeArea 5 = .ok (.aload_n 0, 1) := by decide +kernel
theorem dX8_likeArea_6 : decode cX8_likeArea 6 = .ok (.getfield 76, 3) := by decide +kernel
theorem dX8_likeArea_9 : decode cX8_likeArea 9 = .ok (.if_icmp .ge 30, 3) := by decide +kernel
theorem dX8_likeArea_12 : decode cX8_likeArea 12 = .ok (.iload_n 2, 1) := by decide +kernel
theorem dX8_likeArea_13 : decode cX8_likeArea 13 = .ok (.aload_n 0, 1) := by decide +kernel
theorem dX8_likeArea_14 : decode cX8_likeArea 14 = .ok (.getfield 19, 3) := by decide +kernel
theorem dX8_likeArea_17 : decode cX8_likeArea 17 = .ok (.bipush 6, 2) := by decide +kernel
theorem dX8_likeArea_19 : decode cX8_likeArea 19 = .ok (.iload_n 3, 1) := by decide +kernel
theorem dX8_likeArea_20 : decode cX8_likeArea 20 = .ok (.iadd, 1) := by decide +kernel
theorem dX8_likeArea_21 : decode cX8_likeArea 21 = .ok (.iaload, 1) := by decide +kernel
theorem dX8_likeArea_22 : decode cX8_likeArea 22 = .ok (.iload_n 1, 1) := by decide +kernel
theorem dX8_likeArea_23 : decode cX8_likeArea 23 = .ok (.if_icmp .ne 7, 3) := by decide +kernel
theorem dX8_likeArea_26 : decode cX8_likeArea 26 = .ok (.iconst 1, 1) := by decide +kernel
theorem dX8_likeArea_27 : decode cX8_likeArea 27 = .ok (.goto 4, 3) := by decide +kernel
theorem dX8_likeArea_30 : decode cX8_likeArea 30 = .ok (.iconst 0, 1) := by decide +kernel
theorem dX8_likeArea_31 : decode cX8_likeArea 31 = .ok (.iadd, 1) := by decide +kernel
theorem dX8_likeArea_32 : decode cX8_likeArea 32 = .ok (.istore_n 2, 1) := by decide +kernel
theorem dX8_likeArea_33 : decode cX8_likeArea 33 = .ok (.iinc 3 1, 3) := by decide +kernel
theorem dX8_likeArea_36 : decode cX8_likeArea 36 = .ok (.goto (-32), 3) := by decide +kernel
theorem dX8_likeArea_39 : decode cX8_likeArea 39 = .ok (.iload_n 2, 1) := by decide +kernel
theorem dX8_likeArea_40 : decode cX8_likeArea 40 = .ok (.ireturn, 1) := by decide +kernel
set_option maxRecDepth 20000 in
theorem ggX8_cell_X8_isCell : GoodIn wsX8_cell wsX8_isCell := goodIn_r _ [6, 7, 8, 9, 5, 10, 28, 29, 30, 31, 32, 33, 34, 35, 36, 37, 38, 39, 40, 41, 42, 43, 44, 45, 46, 47, 48, 49, 50, 51, 52, 53] (by decide +kernel) (by decide +kernel)
set_option maxRecDepth 20000 in
theorem gX8_cell_X8_isCell : GoodIn wsX8_cell (wsV RX8 136 RX8 yX8_isCell wsX8_isCell) := goodIn_app (goodIn_of _ (by decide +kernel)) ggX8_cell_X8_isCell
set_option maxRecDepth 20000 in
theorem ggX8_cell_X8_sum : GoodIn wsX8_cell wsX8_sum := goodIn_r _ [14, 1, 15, 16, 17, 5, 18, 7, 19, 28, 29, 30, 31, 32, 33, 34, 35, 36, 37, 38, 39, 40, 41, 42, 43, 44, 45, 46, 47, 48, 49, 50, 51, 52, 53] (by decide +kernel) (by decide +kernel)
set_option maxRecDepth 20000 in
theorem gX8_cell_X8_sum : GoodIn wsX8_cell (wsV RX8 149 RX8 yX8_sum wsX8_sum) := goodIn_app (goodIn_of _ (by decide +kernel)) ggX8_cell_X8_sum
set_option maxRecDepth 20000 in
theorem ggX8_cell_X8_joined : GoodIn wsX8_cell wsX8_joined := goodIn_r _ [23, 7, 19, 28, 29, 30, 31, 32, 33, 34, 35, 36, 37, 38, 39, 40, 41, 42, 43, 44, 45, 46, 47, 48, 49, 50, 51, 52, 53] (by decide +kernel) (by decide +kernel)
set_option maxRecDepth 20000 in
theorem gX8_cell_X8_joined : GoodIn wsX8_cell (wsV RX8 152 RX8 yX8_joined wsX8_joined) := goodIn_app (goodIn_of _ (by decide +kernel)) ggX8_cell_X8_joined
set_option maxRecDepth 20000 in
theorem ggX8_cell_X8_likeArea : GoodIn wsX8_cell wsX8_likeArea := goodIn_r _ [27, 7, 1, 28, 29, 30, 31, 32, 33, 34, 35, 36, 37, 38, 39, 40, 41, 42, 43, 44, 45, 46, 47, 48, 49, 50, 51, 52, 53] (by decide +kernel) (by decide +kernel)
set_option maxRecDepth 20000 in
theorem gX8_cell_X8_likeArea : GoodIn wsX8_cell (wsV RX8 155 RX8 yX8_likeArea wsX8_likeArea) := goodIn_app (goodIn_of _ (by decide +kernel)) ggX8_cell_X8_likeArea
theorem dX8_cell_0 : decode cX8_cell 0 = .ok (.aload_n 0, 1) := by decide +kernel
theorem dX8_cell_1 : decode cX8_cell 1 = .ok (.iload_n 1, 1) := by decide +kernel
theorem dX8_cell_2 : decode cX8_cell 2 = .ok (.invokevirtual 136, 3) := by decide +kernel
theorem dX8_cell_5 : decode cX8_cell 5 = .ok (.ifCond .ne 5, 3) := by decide +kernel
theorem dX8_cell_8 : decode cX8_cell 8 = .ok (.iconst (-1), 1) := by decide +kernel
theorem dX8_cell_9 : decode cX8_cell 9 = .ok (.ireturn, 1) := by decide +kernel
theorem dX8_cell_10 : decode cX8_cell 10 = .ok (.iload_n 2, 1) := by decide +kernel
theorem dX8_cell_11 : decode cX8_cell 11 = .ok (.tableswitch 76 0 4 #[33, 40, 50, 56, 62], 33) := by decide +kernel
theorem dX8_cell_44 : decode cX8_cell 44 = .ok (.aload_n 0, 1) := by decide +kernel
theorem dX8_cell_45 : decode cX8_cell 45 = .ok (.getfield 19, 3) := by decide +kernel
theorem dX8_cell_48 : decode cX8_cell 48 = .ok (.iload_n 1, 1) := by decide +kernel
theorem dX8_cell_49 : decode cX8_cell 49 = .ok (.iaload, 1) := by decide +kernel
theorem dX8_cell_50 : decode cX8_cell 50 = .ok (.ireturn, 1) := by decide +kernel
theorem dX8_cell_51 : decode cX8_cell 51 = .ok (.aload_n 0, 1) := by decide +kernel
theorem dX8_cell_52 : decode cX8_cell 52 = .ok (.getfield 19, 3) := by decide +kernel
theorem dX8_cell_55 : decode cX8_cell 55 = .ok (.bipush 6, 2) := by decide +kernel
theorem dX8_cell_57 : decode cX8_cell 57 = .ok (.iload_n 1, 1) := by decide +kernel
theorem dX8_cell_58 : decode cX8_cell 58 = .ok (.iadd, 1) := by decide +kernel
theorem dX8_cell_59 : decode cX8_cell 59 = .ok (.iaload, 1) := by decide +kernel
theorem dX8_cell_60 : decode cX8_cell 60 = .ok (.ireturn, 1) := by decide +kernel
theorem dX8_cell_61 : decode cX8_cell 61 = .ok (.aload_n 0, 1) := by decide +kernel
theorem dX8_cell_62 : decode cX8_cell 62 = .ok (.iload_n 1, 1) := by decide +kernel
theorem dX8_cell_63 : decode cX8_cell 63 = .ok (.invokevirtual 149, 3) := by decide +kernel
theorem dX8_cell_66 : decode cX8_cell 66 = .ok (.ireturn, 1) := by decide +kernel
theorem dX8_cell_67 : decode cX8_cell 67 = .ok (.aload_n 0, 1) := by decide +kernel
theorem dX8_cell_68 : decode cX8_cell 68 = .ok (.iload_n 1, 1) := by decide +kernel
theorem dX8_cell_69 : decode cX8_cell 69 = .ok (.invokevirtual 152, 3) := by decide +kernel
theorem dX8_cell_72 : decode cX8_cell 72 = .ok (.ireturn, 1) := by decide +kernel
theorem dX8_cell_73 : decode cX8_cell 73 = .ok (.aload_n 0, 1) := by decide +kernel
theorem dX8_cell_74 : decode cX8_cell 74 = .ok (.aload_n 0, 1) := by decide +kernel
theorem dX8_cell_75 : decode cX8_cell 75 = .ok (.getfield 19, 3) := by decide +kernel
theorem dX8_cell_78 : decode cX8_cell 78 = .ok (.bipush 6, 2) := by decide +kernel
theorem dX8_cell_80 : decode cX8_cell 80 = .ok (.iload_n 1, 1) := by decide +kernel
theorem dX8_cell_81 : decode cX8_cell 81 = .ok (.iadd, 1) := by decide +kernel
theorem dX8_cell_82 : decode cX8_cell 82 = .ok (.iaload, 1) := by decide +kernel
theorem dX8_cell_83 : decode cX8_cell 83 = .ok (.invokevirtual 155, 3) := by decide +kernel
theorem dX8_cell_86 : decode cX8_cell 86 = .ok (.ireturn, 1) := by decide +kernel
theorem dX8_cell_87 : decode cX8_cell 87 = .ok (.iconst (-1), 1) := by decide +kernel
theorem dX8_cell_88 : decode cX8_cell 88 = .ok (.ireturn, 1) := by decide +kernel
set_option maxRecDepth 20000 in
theorem ggX8_weight_X8_isCell : GoodIn wsX8_weight wsX8_isCell := goodIn_r _ [6, 7, 8, 9, 5, 10, 11, 12, 13, 14, 15, 16, 17, 18, 19, 20, 21, 22, 23, 24, 25, 26, 27, 28, 29, 30, 31, 32, 33, 34, 35, 36] (by decide +kernel) (by decide +kernel)
set_option maxRecDepth 20000 in
theorem gX8_weight_X8_isCell : GoodIn wsX8_weight (wsV RX8 136 RX8 yX8_isCell wsX8_isCell) := goodIn_app (goodIn_of _ (by decide +kernel)) ggX8_weight_X8_isCell
theorem dX8_weight_0 : decode cX8_weight 0 = .ok (.aload_n 0, 1) := by decide +kernel
theorem dX8_weight_1 : decode cX8_weight 1 = .ok (.iload_n 1, 1) := by decide +kernel
theorem dX8_weight_2 : decode cX8_weight 2 = .ok (.invokevirtual 136, 3) := by decide +kernel
theorem dX8_weight_5 : decode cX8_weight 5 = .ok (.ifCond .eq 30, 3) := by decide +kernel
theorem dX8_weight_8 : decode cX8_weight 8 = .ok (.aload_n 0, 1) := by decide +kernel
theorem dX8_weight_9 : decode cX8_weight 9 = .ok (.iload_n 2, 1) := by decide +kernel
theorem dX8_weight_10 : decode cX8_weight 10 = .ok (.invokevirtual 136, 3) := by decide +kernel
theorem dX8_weight_13 : decode cX8_weight 13 = .ok (.ifCond .eq 22, 3) := by decide +kernel
theorem dX8_weight_16 : decode cX8_weight 16 = .ok (.iload_n 1, 1) := by decide +kernel
theorem dX8_weight_17 : decode cX8_weight 17 = .ok (.iload_n 2, 1) := by decide +kernel
theorem dX8_weight_18 : decode cX8_weight 18 = .ok (.if_icmp .eq 17, 3) := by decide +kernel
theorem dX8_weight_21 : decode cX8_weight 21 = .ok (.aload_n 0, 1) := by decide +kernel
theorem dX8_weight_22 : decode cX8_weight 22 = .ok (.getfield 13, 3) := by decide +kernel
theorem dX8_weight_25 : decode cX8_weight 25 = .ok (.bipush 6, 2) := by decide +kernel
theorem dX8_weight_27 : decode cX8_weight 27 = .ok (.iload_n 1, 1) := by decide +kernel
theorem dX8_weight_28 : decode cX8_weight 28 = .ok (.imul, 1) := by decide +kernel
theorem dX8_weight_29 : decode cX8_weight 29 = .ok (.iload_n 2, 1) := by decide +kernel
theorem dX8_weight_30 : decode cX8_weight 30 = .ok (.iadd, 1) := by decide +kernel
theorem dX8_weight_31 : decode cX8_weight 31 = .ok (.iaload, 1) := by decide +kernel
theorem dX8_weight_32 : decode cX8_weight 32 = .ok (.goto 4, 3) := by decide +kernel
theorem dX8_weight_35 : decode cX8_weight 35 = .ok (.iconst (-1), 1) := by decide +kernel
theorem dX8_weight_36 : decode cX8_weight 36 = .ok (.ireturn, 1) := by decide +kernel
set_option maxRecDepth 20000 in
theorem ggX8_far_X8_joined : GoodIn wsX8_far wsX8_joined := goodIn_r _ [6, 1, 7, 8, 9, 10, 11, 12, 13, 14, 15, 16, 17, 18, 19, 20, 21, 22, 23, 24, 25, 26, 27, 28, 29, 30, 31, 32, 33] (by decide +kernel) (by decide +kernel)
set_option maxRecDepth 20000 in
theorem gX8_far_X8_joined : GoodIn wsX8_far (wsV RX8 152 RX8 yX8_joined wsX8_joined) := goodIn_app (goodIn_of _ (by decide +kernel)) ggX8_far_X8_joined
theorem dX8_far_0 : decode cX8_far 0 = .ok (.iconst 1, 1) := by decide +kernel
theorem dX8_far_1 : decode cX8_far 1 = .ok (.iload_n 1, 1) := by decide +kernel
theorem dX8_far_2 : decode cX8_far 2 = .ok (.ishl, 1) := by decide +kernel
theorem dX8_far_3 : decode cX8_far 3 = .ok (.istore_n 3, 1) := by decide +kernel
theorem dX8_far_4 : decode cX8_far 4 = .ok (.iconst 0, 1) := by decide +kernel
theorem dX8_far_5 : decode cX8_far 5 = .ok (.istore 4, 2) := by decide +kernel
theorem dX8_far_7 : decode cX8_far 7 = .ok (.iload_n 3, 1) := by decide +kernel
theorem dX8_far_8 : decode cX8_far 8 = .ok (.iload_n 2, 1) := by decide +kernel
theorem dX8_far_9 : decode cX8_far 9 = .ok (.ishr, 1) := by decide +kernel
theorem dX8_far_10 : decode cX8_far 10 = .ok (.iconst 1, 1) := by decide +kernel
theorem dX8_far_11 : decode cX8_far 11 = .ok (.iand, 1) := by decide +kernel
theorem dX8_far_12 : decode cX8_far 12 = .ok (.ifCond .ne 58, 3) := by decide +kernel
theorem dX8_far_15 : decode cX8_far 15 = .ok (.iload_n 3, 1) := by decide +kernel
theorem dX8_far_16 : decode cX8_far 16 = .ok (.istore 5, 2) := by decide +kernel
theorem dX8_far_18 : decode cX8_far 18 = .ok (.iconst 0, 1) := by decide +kernel
theorem dX8_far_19 : decode cX8_far 19 = .ok (.istore 6, 2) := by decide +kernel
theorem dX8_far_21 : decode cX8_far 21 = .ok (.iload 6, 2) := by decide +kernel
theorem dX8_far_23 : decode cX8_far 23 = .ok (.aload_n 0, 1) := by decide +kernel
theorem dX8_far_24 : decode cX8_far 24 = .ok (.getfield 76, 3) := by decide +kernel
theorem dX8_far_27 : decode cX8_far 27 = .ok (.if_icmp .ge 34, 3) := by decide +kernel
theorem dX8_far_30 : decode cX8_far 30 = .ok (.iload 5, 2) := by decide +kernel
theorem dX8_far_32 : decode cX8_far 32 = .ok (.iload_n 3, 1) := by decide +kernel
theorem dX8_far_33 : decode cX8_far 33 = .ok (.iload 6, 2) := by decide +kernel
theorem dX8_far_35 : decode cX8_far 35 = .ok (.ishr, 1) := by decide +kernel
theorem dX8_far_36 : decode cX8_far 36 = .ok (.iconst 1, 1) := by decide +kernel
theorem dX8_far_37 : decode cX8_far 37 = .ok (.iand, 1) := by decide +kernel
theorem dX8_far_38 : decode cX8_far 38 = .ok (.iconst 1, 1) := by decide +kernel
theorem dX8_far_39 : decode cX8_far 39 = .ok (.if_icmp .ne 12, 3) := by decide +kernel
theorem dX8_far_42 : decode cX8_far 42 = .ok (.aload_n 0, 1) := by decide +kernel
theorem dX8_far_43 : decode cX8_far 43 = .ok (.iload 6, 2) := by decide +kernel
theorem dX8_far_45 : decode cX8_far 45 = .ok (.invokevirtual 152, 3) := by decide +kernel
theorem dX8_far_48 : decode cX8_far 48 = .ok (.goto 4, 3) := by decide +kernel
theorem dX8_far_51 : decode cX8_far 51 = .ok (.iconst 0, 1) := by decide +kernel
theorem dX8_far_52 : decode cX8_far 52 = .ok (.ior, 1) := by decide +kernel
theorem dX8_far_53 : decode cX8_far 53 = .ok (.istore 5, 2) := by decide +kernel
theorem dX8_far_55 : decode cX8_far 55 = .ok (.iinc 6 1, 3) := by decide +kernel
theorem dX8_far_58 : decode cX8_far 58 = .ok (.goto (-37), 3) := by decide +kernel
theorem dX8_far_61 : decode cX8_far 61 = .ok (.iload 5, 2) := by decide +kernel
theorem dX8_far_63 : decode cX8_far 63 = .ok (.istore_n 3, 1) := by decide +kernel
theorem dX8_far_64 : decode cX8_far 64 = .ok (.iinc 4 1, 3) := by decide +kernel
theorem dX8_far_67 : decode cX8_far 67 = .ok (.goto (-60), 3) := by decide +kernel
theorem dX8_far_70 : decode cX8_far 70 = .ok (.iload 4, 2) := by decide +kernel
theorem dX8_far_72 : decode cX8_far 72 = .ok (.ireturn, 1) := by decide +kernel
set_option maxRecDepth 20000 in
theorem ggX8_wide_X8_isCell : GoodIn wsX8_wide wsX8_isCell := goodIn_r _ [5, 6, 7, 8, 4, 9, 19, 20, 21, 22, 23, 24, 25, 26, 27, 28, 29, 30, 31, 32, 33, 34, 35, 36, 37, 38, 39, 40, 41, 42, 43, 44] (by decide +kernel) (by decide +kernel)
set_option maxRecDepth 20000 in
theorem gX8_wide_X8_isCell : GoodIn wsX8_wide (wsV RX8 136 RX8 yX8_isCell wsX8_isCell) := goodIn_app (goodIn_of _ (by decide +kernel)) ggX8_wide_X8_isCell
set_option maxRecDepth 20000 in
theorem ggX8_wide_X8_far : GoodIn wsX8_wide wsX8_far := goodIn_r _ [13, 6, 14, 15, 16, 4, 17, 18, 19, 20, 21, 22, 23, 24, 25, 26, 27, 28, 29, 30, 31, 32, 33, 34, 35, 36, 37, 38, 39, 40, 41, 42, 43, 44] (by decide +kernel) (by decide +kernel)
set_option maxRecDepth 20000 in
theorem gX8_wide_X8_far : GoodIn wsX8_wide (wsV RX8 158 RX8 yX8_far wsX8_far) := goodIn_app (goodIn_of _ (by decide +kernel)) ggX8_wide_X8_far
theorem dX8_wide_0 : decode cX8_wide 0 = .ok (.aload_n 0, 1) := by decide +kernel
theorem dX8_wide_1 : decode cX8_wide 1 = .ok (.iload_n 1, 1) := by decide +kernel
theorem dX8_wide_2 : decode cX8_wide 2 = .ok (.invokevirtual 136, 3) := by decide +kernel
theorem dX8_wide_5 : decode cX8_wide 5 = .ok (.ifCond .eq 20, 3) := by decide +kernel
theorem dX8_wide_8 : decode cX8_wide 8 = .ok (.aload_n 0, 1) := by decide +kernel
theorem dX8_wide_9 : decode cX8_wide 9 = .ok (.iload_n 2, 1) := by decide +kernel
theorem dX8_wide_10 : decode cX8_wide 10 = .ok (.invokevirtual 136, 3) := by decide +kernel
theorem dX8_wide_13 : decode cX8_wide 13 = .ok (.ifCond .eq 12, 3) := by decide +kernel
theorem dX8_wide_16 : decode cX8_wide 16 = .ok (.aload_n 0, 1) := by decide +kernel
theorem dX8_wide_17 : decode cX8_wide 17 = .ok (.iload_n 1, 1) := by decide +kernel
theorem dX8_wide_18 : decode cX8_wide 18 = .ok (.iload_n 2, 1) := by decide +kernel
theorem dX8_wide_19 : decode cX8_wide 19 = .ok (.invokevirtual 158, 3) := by decide +kernel
theorem dX8_wide_22 : decode cX8_wide 22 = .ok (.goto 4, 3) := by decide +kernel
theorem dX8_wide_25 : decode cX8_wide 25 = .ok (.iconst (-1), 1) := by decide +kernel
theorem dX8_wide_26 : decode cX8_wide 26 = .ok (.ireturn, 1) := by decide +kernel
set_option maxRecDepth 20000 in
theorem ggX8_isDue_X8_far : GoodIn wsX8_isDue wsX8_far := goodIn_r _ [6, 7, 8, 9, 10, 5, 11, 12, 13, 14, 15, 16, 17, 18, 19, 20, 21, 22, 23, 24, 25, 26, 27, 28, 29, 30, 31, 32, 33, 34, 35, 36, 37, 38] (by decide +kernel) (by decide +kernel)
set_option maxRecDepth 20000 in
theorem gX8_isDue_X8_far : GoodIn wsX8_isDue (wsV RX8 158 RX8 yX8_far wsX8_far) := goodIn_app (goodIn_of _ (by decide +kernel)) ggX8_isDue_X8_far
theorem dX8_isDue_0 : decode cX8_isDue 0 = .ok (.aload_n 0, 1) := by decide +kernel
theorem dX8_isDue_1 : decode cX8_isDue 1 = .ok (.getfield 19, 3) := by decide +kernel
theorem dX8_isDue_4 : decode cX8_isDue 4 = .ok (.bipush 12, 2) := by decide +kernel
theorem dX8_isDue_6 : decode cX8_isDue 6 = .ok (.iaload, 1) := by decide +kernel
theorem dX8_isDue_7 : decode cX8_isDue 7 = .ok (.tableswitch 98 0 2 #[25, 58, 78], 25) := by decide +kernel
theorem dX8_isDue_32 : decode cX8_isDue 32 = .ok (.aload_n 0, 1) := by decide +kernel
theorem dX8_isDue_33 : decode cX8_isDue 33 = .ok (.getfield 19, 3) := by decide +kernel
theorem dX8_isDue_36 : decode cX8_isDue 36 = .ok (.bipush 6, 2) := by decide +kernel
theorem dX8_isDue_38 : decode cX8_isDue 38 = .ok (.aload_n 1, 1) := by decide +kernel
theorem dX8_isDue_39 : decode cX8_isDue 39 = .ok (.bipush 14, 2) := by decide +kernel
theorem dX8_isDue_41 : decode cX8_isDue 41 = .ok (.iaload, 1) := by decide +kernel
theorem dX8_isDue_42 : decode cX8_isDue 42 = .ok (.iadd, 1) := by decide +kernel
theorem dX8_isDue_43 : decode cX8_isDue 43 = .ok (.iaload, 1) := by decide +kernel
theorem dX8_isDue_44 : decode cX8_isDue 44 = .ok (.aload_n 0, 1) := by decide +kernel
theorem dX8_isDue_45 : decode cX8_isDue 45 = .ok (.getfield 19, 3) := by decide +kernel
theorem dX8_isDue_48 : decode cX8_isDue 48 = .ok (.bipush 6, 2) := by decide +kernel
theorem dX8_isDue_50 : decode cX8_isDue 50 = .ok (.aload_n 1, 1) := by decide +kernel
theorem dX8_isDue_51 : decode cX8_isDue 51 = .ok (.bipush 15, 2) := by decide +kernel
theorem dX8_isDue_53 : decode cX8_isDue 53 = .ok (.iaload, 1) := by decide +kernel
theorem dX8_isDue_54 : decode cX8_isDue 54 = .ok (.iadd, 1) := by decide +kernel
theorem dX8_isDue_55 : decode cX8_isDue 55 = .ok (.iaload, 1) := by decide +kernel
theorem dX8_isDue_56 : decode cX8_isDue 56 = .ok (.if_icmp .eq 7, 3) := by decide +kernel
theorem dX8_isDue_59 : decode cX8_isDue 59 = .ok (.iconst 1, 1) := by decide +kernel
theorem dX8_isDue_60 : decode cX8_isDue 60 = .ok (.goto 4, 3) := by decide +kernel
theorem dX8_isDue_63 : decode cX8_isDue 63 = .ok (.iconst 0, 1) := by decide +kernel
theorem dX8_isDue_64 : decode cX8_isDue 64 = .ok (.ireturn, 1) := by decide +kernel
theorem dX8_isDue_65 : decode cX8_isDue 65 = .ok (.aload_n 1, 1) := by decide +kernel
theorem dX8_isDue_66 : decode cX8_isDue 66 = .ok (.bipush 16, 2) := by decide +kernel
theorem dX8_isDue_68 : decode cX8_isDue 68 = .ok (.iaload, 1) := by decide +kernel
theorem dX8_isDue_69 : decode cX8_isDue 69 = .ok (.aload_n 0, 1) := by decide +kernel
theorem dX8_isDue_70 : decode cX8_isDue 70 = .ok (.getfield 19, 3) := by decide +kernel
theorem dX8_isDue_73 : decode cX8_isDue 73 = .ok (.bipush 13, 2) := by decide +kernel
theorem dX8_isDue_75 : decode cX8_isDue 75 = .ok (.iaload, 1) := by decide +kernel
theorem dX8_isDue_76 : decode cX8_isDue 76 = .ok (.if_icmp .lt 7, 3) := by decide +kernel
theorem dX8_isDue_79 : decode cX8_isDue 79 = .ok (.iconst 1, 1) := by decide +kernel
theorem dX8_isDue_80 : decode cX8_isDue 80 = .ok (.goto 4, 3) := by decide +kernel
theorem dX8_isDue_83 : decode cX8_isDue 83 = .ok (.iconst 0, 1) := by decide +kernel
theorem dX8_isDue_84 : decode cX8_isDue 84 = .ok (.ireturn, 1) := by decide +kernel
theorem dX8_isDue_85 : decode cX8_isDue 85 = .ok (.aload_n 1, 1) := by decide +kernel
theorem dX8_isDue_86 : decode cX8_isDue 86 = .ok (.bipush 17, 2) := by decide +kernel
theorem dX8_isDue_88 : decode cX8_isDue 88 = .ok (.iaload, 1) := by decide +kernel
theorem dX8_isDue_89 : decode cX8_isDue 89 = .ok (.aload_n 0, 1) := by decide +kernel
theorem dX8_isDue_90 : decode cX8_isDue 90 = .ok (.getfield 19, 3) := by decide +kernel
theorem dX8_isDue_93 : decode cX8_isDue 93 = .ok (.bipush 13, 2) := by decide +kernel
theorem dX8_isDue_95 : decode cX8_isDue 95 = .ok (.iaload, 1) := by decide +kernel
theorem dX8_isDue_96 : decode cX8_isDue 96 = .ok (.if_icmp .lt 7, 3) := by decide +kernel
theorem dX8_isDue_99 : decode cX8_isDue 99 = .ok (.iconst 1, 1) := by decide +kernel
theorem dX8_isDue_100 : decode cX8_isDue 100 = .ok (.goto 4, 3) := by decide +kernel
theorem dX8_isDue_103 : decode cX8_isDue 103 = .ok (.iconst 0, 1) := by decide +kernel
theorem dX8_isDue_104 : decode cX8_isDue 104 = .ok (.ireturn, 1) := by decide +kernel
theorem dX8_isDue_105 : decode cX8_isDue 105 = .ok (.aload_n 0, 1) := by decide +kernel
theorem dX8_isDue_106 : decode cX8_isDue 106 = .ok (.aload_n 1, 1) := by decide +kernel
theorem dX8_isDue_107 : decode cX8_isDue 107 = .ok (.bipush 14, 2) := by decide +kernel
theorem dX8_isDue_109 : decode cX8_isDue 109 = .ok (.iaload, 1) := by decide +kernel
theorem dX8_isDue_110 : decode cX8_isDue 110 = .ok (.aload_n 1, 1) := by decide +kernel
theorem dX8_isDue_111 : decode cX8_isDue 111 = .ok (.bipush 15, 2) := by decide +kernel
theorem dX8_isDue_113 : decode cX8_isDue 113 = .ok (.iaload, 1) := by decide +kernel
theorem dX8_isDue_114 : decode cX8_isDue 114 = .ok (.invokevirtual 158, 3) := by decide +kernel
theorem dX8_isDue_117 : decode cX8_isDue 117 = .ok (.aload_n 0, 1) := by decide +kernel
theorem dX8_isDue_118 : decode cX8_isDue 118 = .ok (.getfield 19, 3) := by decide +kernel
theorem dX8_isDue_121 : decode cX8_isDue 121 = .ok (.bipush 13, 2) := by decide +kernel
theorem dX8_isDue_123 : decode cX8_isDue 123 = .ok (.iaload, 1) := by decide +kernel
theorem dX8_isDue_124 : decode cX8_isDue 124 = .ok (.if_icmp .lt 7, 3) := by decide +kernel
theorem dX8_isDue_127 : decode cX8_isDue 127 = .ok (.iconst 1, 1) := by decide +kernel
theorem dX8_isDue_128 : decode cX8_isDue 128 = .ok (.goto 4, 3) := by decide +kernel
theorem dX8_isDue_131 : decode cX8_isDue 131 = .ok (.iconst 0, 1) := by decide +kernel
theorem dX8_isDue_132 : decode cX8_isDue 132 = .ok (.ireturn, 1) := by decide +kernel
set_option maxRecDepth 20000 in
theorem ggX8_goes_X8_isDue : GoodIn wsX8_goes wsX8_isDue := goodIn_r _ [5, 6, 7, 8, 9, 4, 10, 11, 12, 13, 14, 15, 16, 20, 21, 22, 23, 24, 25, 26, 27, 28, 29, 30, 31, 32, 33, 34, 35, 36, 37, 38, 39, 40, 41, 42, 43, 44, 45] (by decide +kernel) (by decide +kernel)
set_option maxRecDepth 20000 in
theorem gX8_goes_X8_isDue : GoodIn wsX8_goes (wsV RX8 162 RX8 yX8_isDue wsX8_isDue) := goodIn_app (goodIn_of _ (by decide +kernel)) ggX8_goes_X8_isDue
set_option maxRecDepth 20000 in
theorem ggX8_goes_X8_registers : GoodIn wsX8_goes wsX8_registers := goodIn_r _ [19] (by decide +kernel) (by decide +kernel)
set_option maxRecDepth 20000 in
theorem gX8_goes_X8_registers : GoodIn wsX8_goes (va_wsS RX8 142 yX8_registers wsX8_registers) := goodIn_app (goodIn_of _ (by decide +kernel)) ggX8_goes_X8_registers
theorem dX8_goes_0 : decode cX8_goes 0 = .ok (.aload_n 1, 1) := by decide +kernel
theorem dX8_goes_1 : decode cX8_goes 1 = .ok (.bipush 16, 2) := by decide +kernel
theorem dX8_goes_3 : decode cX8_goes 3 = .ok (.dup2, 1) := by decide +kernel
theorem dX8_goes_4 : decode cX8_goes 4 = .ok (.iaload, 1) := by decide +kernel
theorem dX8_goes_5 : decode cX8_goes 5 = .ok (.iload_n 2, 1) := by decide +kernel
theorem dX8_goes_6 : decode cX8_goes 6 = .ok (.aload_n 1, 1) := by decide +kernel
theorem dX8_goes_7 : decode cX8_goes 7 = .ok (.bipush 14, 2) := by decide +kernel
theorem dX8_goes_9 : decode cX8_goes 9 = .ok (.iaload, 1) := by decide +kernel
theorem dX8_goes_10 : decode cX8_goes 10 = .ok (.if_icmp .ne 7, 3) := by decide +kernel
theorem dX8_goes_13 : decode cX8_goes 13 = .ok (.iconst 0, 1) := by decide +kernel
theorem dX8_goes_14 : decode cX8_goes 14 = .ok (.goto 4, 3) := by decide +kernel
theorem dX8_goes_17 : decode cX8_goes 17 = .ok (.iconst 1, 1) := by decide +kernel
theorem dX8_goes_18 : decode cX8_goes 18 = .ok (.iadd, 1) := by decide +kernel
theorem dX8_goes_19 : decode cX8_goes 19 = .ok (.iastore, 1) := by decide +kernel
theorem dX8_goes_20 : decode cX8_goes 20 = .ok (.aload_n 1, 1) := by decide +kernel
theorem dX8_goes_21 : decode cX8_goes 21 = .ok (.bipush 14, 2) := by decide +kernel
theorem dX8_goes_23 : decode cX8_goes 23 = .ok (.iload_n 2, 1) := by decide +kernel
theorem dX8_goes_24 : decode cX8_goes 24 = .ok (.iastore, 1) := by decide +kernel
theorem dX8_goes_25 : decode cX8_goes 25 = .ok (.aload_n 1, 1) := by decide +kernel
theorem dX8_goes_26 : decode cX8_goes 26 = .ok (.bipush 17, 2) := by decide +kernel
theorem dX8_goes_28 : decode cX8_goes 28 = .ok (.dup2, 1) := by decide +kernel
theorem dX8_goes_29 : decode cX8_goes 29 = .ok (.iaload, 1) := by decide +kernel
theorem dX8_goes_30 : decode cX8_goes 30 = .ok (.iconst 1, 1) := by decide +kernel
theorem dX8_goes_31 : decode cX8_goes 31 = .ok (.iadd, 1) := by decide +kernel
theorem dX8_goes_32 : decode cX8_goes 32 = .ok (.iastore, 1) := by decide +kernel
theorem dX8_goes_33 : decode cX8_goes 33 = .ok (.aload_n 0, 1) := by decide +kernel
theorem dX8_goes_34 : decode cX8_goes 34 = .ok (.aload_n 1, 1) := by decide +kernel
theorem dX8_goes_35 : decode cX8_goes 35 = .ok (.invokevirtual 162, 3) := by decide +kernel
theorem dX8_goes_38 : decode cX8_goes 38 = .ok (.ifCond .ne 5, 3) := by decide +kernel
theorem dX8_goes_41 : decode cX8_goes 41 = .ok (.iconst 0, 1) := by decide +kernel
theorem dX8_goes_42 : decode cX8_goes 42 = .ok (.ireturn, 1) := by decide +kernel
theorem dX8_goes_43 : decode cX8_goes 43 = .ok (.aload_n 1, 1) := by decide +kernel
theorem dX8_goes_44 : decode cX8_goes 44 = .ok (.bipush 18, 2) := by decide +kernel
theorem dX8_goes_46 : decode cX8_goes 46 = .ok (.dup2, 1) := by decide +kernel
theorem dX8_goes_47 : decode cX8_goes 47 = .ok (.iaload, 1) := by decide +kernel
theorem dX8_goes_48 : decode cX8_goes 48 = .ok (.iconst 1, 1) := by decide +kernel
theorem dX8_goes_49 : decode cX8_goes 49 = .ok (.iadd, 1) := by decide +kernel
theorem dX8_goes_50 : decode cX8_goes 50 = .ok (.iastore, 1) := by decide +kernel
theorem dX8_goes_51 : decode cX8_goes 51 = .ok (.aload_n 1, 1) := by decide +kernel
theorem dX8_goes_52 : decode cX8_goes 52 = .ok (.invokestatic 142, 3) := by decide +kernel
theorem dX8_goes_55 : decode cX8_goes 55 = .ok (.iconst 1, 1) := by decide +kernel
theorem dX8_goes_56 : decode cX8_goes 56 = .ok (.ireturn, 1) := by decide +kernel
set_option maxRecDepth 20000 in
theorem ggX8_tick_X8_isCell : GoodIn wsX8_tick wsX8_isCell := goodIn_r _ [7, 8, 9, 10, 6, 11, 37, 38, 39, 40, 41, 42, 43, 44, 45, 46, 47, 48, 49, 50, 51, 52, 53, 54, 55, 56, 57, 58, 59, 60, 61, 62] (by decide +kernel) (by decide +kernel)
set_option maxRecDepth 20000 in
theorem gX8_tick_X8_isCell : GoodIn wsX8_tick (wsV RX8 136 RX8 yX8_isCell wsX8_isCell) := goodIn_app (goodIn_of _ (by decide +kernel)) ggX8_tick_X8_isCell
set_option maxRecDepth 20000 in
theorem ggX8_tick_X8_keeps : GoodIn wsX8_tick wsX8_keeps := goodIn_r _ [15, 16, 17, 1, 37, 38, 39, 40, 41, 42, 43, 44, 45, 46, 47, 48, 49, 50, 51, 52, 53, 54, 55, 56, 57, 58, 59, 60, 61, 62] (by decide +kernel) (by decide +kernel)
set_option maxRecDepth 20000 in
theorem gX8_tick_X8_keeps : GoodIn wsX8_tick (wsV RX8 139 RX8 yX8_keeps wsX8_keeps) := goodIn_app (goodIn_of _ (by decide +kernel)) ggX8_tick_X8_keeps
set_option maxRecDepth 20000 in
theorem ggX8_tick_X8_goes : GoodIn wsX8_tick wsX8_goes := goodIn_r _ [21, 22, 23, 24, 6, 25, 1, 26, 27, 28, 29, 8, 30, 31, 32, 33, 2, 34, 35, 36, 37, 38, 39, 40, 41, 42, 43, 44, 45, 46, 47, 48, 49, 50, 51, 52, 53, 54, 55, 56, 57, 58, 59, 60, 61, 62] (by decide +kernel) (by decide +kernel)
set_option maxRecDepth 20000 in
theorem gX8_tick_X8_goes : GoodIn wsX8_tick (wsV RX8 166 RX8 yX8_goes wsX8_goes) := goodIn_app (goodIn_of _ (by decide +kernel)) ggX8_tick_X8_goes
theorem dX8_tick_0 : decode cX8_tick 0 = .ok (.aload_n 0, 1) := by decide +kernel
theorem dX8_tick_1 : decode cX8_tick 1 = .ok (.iload_n 1, 1) := by decide +kernel
theorem dX8_tick_2 : decode cX8_tick 2 = .ok (.invokevirtual 136, 3) := by decide +kernel
theorem dX8_tick_5 : decode cX8_tick 5 = .ok (.ifCond .ne 5, 3) := by decide +kernel
theorem dX8_tick_8 : decode cX8_tick 8 = .ok (.iconst (-1), 1) := by decide +kernel
theorem dX8_tick_9 : decode cX8_tick 9 = .ok (.ireturn, 1) := by decide +kernel
theorem dX8_tick_10 : decode cX8_tick 10 = .ok (.aload_n 0, 1) := by decide +kernel
theorem dX8_tick_11 : decode cX8_tick 11 = .ok (.getfield 19, 3) := by decide +kernel
theorem dX8_tick_14 : decode cX8_tick 14 = .ok (.bipush 14, 2) := by decide +kernel
theorem dX8_tick_16 : decode cX8_tick 16 = .ok (.iaload, 1) := by decide +kernel
theorem dX8_tick_17 : decode cX8_tick 17 = .ok (.istore_n 2, 1) := by decide +kernel
theorem dX8_tick_18 : decode cX8_tick 18 = .ok (.iload_n 1, 1) := by decide +kernel
theorem dX8_tick_19 : decode cX8_tick 19 = .ok (.iload_n 2, 1) := by decide +kernel
theorem dX8_tick_20 : decode cX8_tick 20 = .ok (.if_icmp .ne 15, 3) := by decide +kernel
theorem dX8_tick_23 : decode cX8_tick 23 = .ok (.aload_n 0, 1) := by decide +kernel
theorem dX8_tick_24 : decode cX8_tick 24 = .ok (.getfield 19, 3) := by decide +kernel
theorem dX8_tick_27 : decode cX8_tick 27 = .ok (.iload_n 1, 1) := by decide +kernel
theorem dX8_tick_28 : decode cX8_tick 28 = .ok (.iaload, 1) := by decide +kernel
theorem dX8_tick_29 : decode cX8_tick 29 = .ok (.ifCond .ne 23, 3) := by decide +kernel
theorem dX8_tick_32 : decode cX8_tick 32 = .ok (.goto 17, 3) := by decide +kernel
theorem dX8_tick_35 : decode cX8_tick 35 = .ok (.aload_n 0, 1) := by decide +kernel
theorem dX8_tick_36 : decode cX8_tick 36 = .ok (.getfield 13, 3) := by decide +kernel
theorem dX8_tick_39 : decode cX8_tick 39 = .ok (.bipush 6, 2) := by decide +kernel
theorem dX8_tick_41 : decode cX8_tick 41 = .ok (.iload_n 2, 1) := by decide +kernel
theorem dX8_tick_42 : decode cX8_tick 42 = .ok (.imul, 1) := by decide +kernel
theorem dX8_tick_43 : decode cX8_tick 43 = .ok (.iload_n 1, 1) := by decide +kernel
theorem dX8_tick_44 : decode cX8_tick 44 = .ok (.iadd, 1) := by decide +kernel
theorem dX8_tick_45 : decode cX8_tick 45 = .ok (.iaload, 1) := by decide +kernel
theorem dX8_tick_46 : decode cX8_tick 46 = .ok (.ifCond .ne 6, 3) := by decide +kernel
theorem dX8_tick_49 : decode cX8_tick 49 = .ok (.bipush (-2), 2) := by decide +kernel
theorem dX8_tick_51 : decode cX8_tick 51 = .ok (.ireturn, 1) := by decide +kernel
theorem dX8_tick_52 : decode cX8_tick 52 = .ok (.aload_n 0, 1) := by decide +kernel
theorem dX8_tick_53 : decode cX8_tick 53 = .ok (.invokevirtual 139, 3) := by decide +kernel
theorem dX8_tick_56 : decode cX8_tick 56 = .ok (.aload_n 0, 1) := by decide +kernel
theorem dX8_tick_57 : decode cX8_tick 57 = .ok (.aload_n 0, 1) := by decide +kernel
theorem dX8_tick_58 : decode cX8_tick 58 = .ok (.getfield 19, 3) := by decide +kernel
theorem dX8_tick_61 : decode cX8_tick 61 = .ok (.iload_n 1, 1) := by decide +kernel
theorem dX8_tick_62 : decode cX8_tick 62 = .ok (.invokevirtual 166, 3) := by decide +kernel
theorem dX8_tick_65 : decode cX8_tick 65 = .ok (.ireturn, 1) := by decide +kernel
set_option maxRecDepth 20000 in
theorem ggX8_handset_X8_isIn : GoodIn wsX8_handset wsX8_isIn := goodIn_r _ [6] (by decide +kernel) (by decide +kernel)
set_option maxRecDepth 20000 in
theorem gX8_handset_X8_isIn : GoodIn wsX8_handset (va_wsS RX8 98 yX8_isIn wsX8_isIn) := goodIn_app (goodIn_of _ (by decide +kernel)) ggX8_handset_X8_isIn
theorem dX8_handset_0 : decode cX8_handset 0 = .ok (.iload_n 1, 1) := by decide +kernel
theorem dX8_handset_1 : decode cX8_handset 1 = .ok (.iconst 0, 1) := by decide +kernel
theorem dX8_handset_2 : decode cX8_handset 2 = .ok (.bipush 6, 2) := by decide +kernel
theorem dX8_handset_4 : decode cX8_handset 4 = .ok (.invokestatic 98, 3) := by decide +kernel
theorem dX8_handset_7 : decode cX8_handset 7 = .ok (.ifCond .ne 5, 3) := by decide +kernel
theorem dX8_handset_10 : decode cX8_handset 10 = .ok (.iconst (-1), 1) := by decide +kernel
theorem dX8_handset_11 : decode cX8_handset 11 = .ok (.ireturn, 1) := by decide +kernel
theorem dX8_handset_12 : decode cX8_handset 12 = .ok (.iload_n 1, 1) := by decide +kernel
theorem dX8_handset_13 : decode cX8_handset 13 = .ok (.bipush 6, 2) := by decide +kernel
theorem dX8_handset_15 : decode cX8_handset 15 = .ok (.if_icmp .ge 15, 3) := by decide +kernel
theorem dX8_handset_18 : decode cX8_handset 18 = .ok (.aload_n 0, 1) := by decide +kernel
theorem dX8_handset_19 : decode cX8_handset 19 = .ok (.getfield 19, 3) := by decide +kernel
theorem dX8_handset_22 : decode cX8_handset 22 = .ok (.bipush 14, 2) := by decide +kernel
theorem dX8_handset_24 : decode cX8_handset 24 = .ok (.iload_n 1, 1) := by decide +kernel
theorem dX8_handset_25 : decode cX8_handset 25 = .ok (.iadd, 1) := by decide +kernel
theorem dX8_handset_26 : decode cX8_handset 26 = .ok (.iaload, 1) := by decide +kernel
theorem dX8_handset_27 : decode cX8_handset 27 = .ok (.goto 32, 3) := by decide +kernel
theorem dX8_handset_30 : decode cX8_handset 30 = .ok (.aload_n 0, 1) := by decide +kernel
theorem dX8_handset_31 : decode cX8_handset 31 = .ok (.getfield 16, 3) := by decide +kernel
theorem dX8_handset_34 : decode cX8_handset 34 = .ok (.iconst 1, 1) := by decide +kernel
theorem dX8_handset_35 : decode cX8_handset 35 = .ok (.iaload, 1) := by decide +kernel
theorem dX8_handset_36 : decode cX8_handset 36 = .ok (.aload_n 0, 1) := by decide +kernel
theorem dX8_handset_37 : decode cX8_handset 37 = .ok (.getfield 19, 3) := by decide +kernel
theorem dX8_handset_40 : decode cX8_handset 40 = .ok (.bipush 19, 2) := by decide +kernel
theorem dX8_handset_42 : decode cX8_handset 42 = .ok (.iaload, 1) := by decide +kernel
theorem dX8_handset_43 : decode cX8_handset 43 = .ok (.imul, 1) := by decide +kernel
theorem dX8_handset_44 : decode cX8_handset 44 = .ok (.aload_n 0, 1) := by decide +kernel
theorem dX8_handset_45 : decode cX8_handset 45 = .ok (.getfield 16, 3) := by decide +kernel
theorem dX8_handset_48 : decode cX8_handset 48 = .ok (.iconst 2, 1) := by decide +kernel
theorem dX8_handset_49 : decode cX8_handset 49 = .ok (.iaload, 1) := by decide +kernel
theorem dX8_handset_50 : decode cX8_handset 50 = .ok (.aload_n 0, 1) := by decide +kernel
theorem dX8_handset_51 : decode cX8_handset 51 = .ok (.getfield 19, 3) := by decide +kernel
theorem dX8_handset_54 : decode cX8_handset 54 = .ok (.bipush 18, 2) := by decide +kernel
theorem dX8_handset_56 : decode cX8_handset 56 = .ok (.iaload, 1) := by decide +kernel
theorem dX8_handset_57 : decode cX8_handset 57 = .ok (.imul, 1) := by decide +kernel
theorem dX8_handset_58 : decode cX8_handset 58 = .ok (.iadd, 1) := by decide +kernel
theorem dX8_handset_59 : decode cX8_handset 59 = .ok (.ireturn, 1) := by decide +kernel
set_option maxRecDepth 20000 in
theorem ggX8_allowed_X8_far : GoodIn wsX8_allowed wsX8_far := goodIn_r _ [7, 2, 8, 9, 10, 6, 11, 12, 13, 14, 15, 16, 17, 18, 19, 20, 21, 22, 23, 24, 25, 26, 27, 28, 29, 30, 31, 32, 33, 34, 35, 36, 37, 38] (by decide +kernel) (by decide +kernel)
set_option maxRecDepth 20000 in
theorem gX8_allowed_X8_far : GoodIn wsX8_allowed (wsV RX8 158 RX8 yX8_far wsX8_far) := goodIn_app (goodIn_of _ (by decide +kernel)) ggX8_allowed_X8_far
theorem dX8_allowed_0 : decode cX8_allowed 0 = .ok (.aload_n 0, 1) := by decide +kernel
theorem dX8_allowed_1 : decode cX8_allowed 1 = .ok (.getfield 19, 3) := by decide +kernel
theorem dX8_allowed_4 : decode cX8_allowed 4 = .ok (.bipush 15, 2) := by decide +kernel
theorem dX8_allowed_6 : decode cX8_allowed 6 = .ok (.iaload, 1) := by decide +kernel
theorem dX8_allowed_7 : decode cX8_allowed 7 = .ok (.istore_n 1, 1) := by decide +kernel
theorem dX8_allowed_8 : decode cX8_allowed 8 = .ok (.iconst 0, 1) := by decide +kernel
theorem dX8_allowed_9 : decode cX8_allowed 9 = .ok (.istore_n 2, 1) := by decide +kernel
theorem dX8_allowed_10 : decode cX8_allowed 10 = .ok (.iconst 0, 1) := by decide +kernel
theorem dX8_allowed_11 : decode cX8_allowed 11 = .ok (.istore_n 3, 1) := by decide +kernel
theorem dX8_allowed_12 : decode cX8_allowed 12 = .ok (.iload_n 3, 1) := by decide +kernel
theorem dX8_allowed_13 : decode cX8_allowed 13 = .ok (.aload_n 0, 1) := by decide +kernel
theorem dX8_allowed_14 : decode cX8_allowed 14 = .ok (.getfield 76, 3) := by decide +kernel
theorem dX8_allowed_17 : decode cX8_allowed 17 = .ok (.if_icmp .ge 97, 3) := by decide +kernel
theorem dX8_allowed_20 : decode cX8_allowed 20 = .ok (.aload_n 0, 1) := by decide +kernel
theorem dX8_allowed_21 : decode cX8_allowed 21 = .ok (.getfield 19, 3) := by decide +kernel
theorem dX8_allowed_24 : decode cX8_allowed 24 = .ok (.bipush 12, 2) := by decide +kernel
theorem dX8_allowed_26 : decode cX8_allowed 26 = .ok (.iaload, 1) := by decide +kernel
theorem dX8_allowed_27 : decode cX8_allowed 27 = .ok (.ifCond .ne 32, 3) := by decide +kernel
theorem dX8_allowed_30 : decode cX8_allowed 30 = .ok (.aload_n 0, 1) := by decide +kernel
theorem dX8_allowed_31 : decode cX8_allowed 31 = .ok (.getfield 19, 3) := by decide +kernel
theorem dX8_allowed_34 : decode cX8_allowed 34 = .ok (.bipush 6, 2) := by decide +kernel
theorem dX8_allowed_36 : decode cX8_allowed 36 = .ok (.iload_n 3, 1) := by decide +kernel
theorem dX8_allowed_37 : decode cX8_allowed 37 = .ok (.iadd, 1) := by decide +kernel
theorem dX8_allowed_38 : decode cX8_allowed 38 = .ok (.iaload, 1) := by decide +kernel
theorem dX8_allowed_39 : decode cX8_allowed 39 = .ok (.aload_n 0, 1) := by decide +kernel
theorem dX8_allowed_40 : decode cX8_allowed 40 = .ok (.getfield 19, 3) := by decide +kernel
theorem dX8_allowed_43 : decode cX8_allowed 43 = .ok (.bipush 6, 2) := by decide +kernel
theorem dX8_allowed_45 : decode cX8_allowed 45 = .ok (.iload_n 1, 1) := by decide +kernel
theorem dX8_allowed_46 : decode cX8_allowed 46 = .ok (.iadd, 1) := by decide +kernel
theorem dX8_allowed_47 : decode cX8_allowed 47 = .ok (.iaload, 1) := by decide +kernel
theorem dX8_allowed_48 : decode cX8_allowed 48 = .ok (.if_icmp .ne 7, 3) := by decide +kernel
theorem dX8_allowed_51 : decode cX8_allowed 51 = .ok (.iconst 1, 1) := by decide +kernel
theorem dX8_allowed_52 : decode cX8_allowed 52 = .ok (.goto 39, 3) := by decide +kernel
theorem dX8_allowed_55 : decode cX8_allowed 55 = .ok (.iconst 0, 1) := by decide +kernel
theorem dX8_allowed_56 : decode cX8_allowed 56 = .ok (.goto 35, 3) := by decide +kernel
theorem dX8_allowed_59 : decode cX8_allowed 59 = .ok (.aload_n 0, 1) := by decide +kernel
theorem dX8_allowed_60 : decode cX8_allowed 60 = .ok (.getfield 19, 3) := by decide +kernel
theorem dX8_allowed_63 : decode cX8_allowed 63 = .ok (.bipush 12, 2) := by decide +kernel
theorem dX8_allowed_65 : decode cX8_allowed 65 = .ok (.iaload, 1) := by decide +kernel
theorem dX8_allowed_66 : decode cX8_allowed 66 = .ok (.iconst 3, 1) := by decide +kernel
theorem dX8_allowed_67 : decode cX8_allowed 67 = .ok (.if_icmp .ne 19, 3) := by decide +kernel
theorem dX8_allowed_70 : decode cX8_allowed 70 = .ok (.aload_n 0, 1) := by decide +kernel
theorem dX8_allowed_71 : decode cX8_allowed 71 = .ok (.iload_n 3, 1) := by decide +kernel
theorem dX8_allowed_72 : decode cX8_allowed 72 = .ok (.iload_n 1, 1) := by decide +kernel
theorem dX8_allowed_73 : decode cX8_allowed 73 = .ok (.invokevirtual 158, 3) := by decide +kernel
theorem dX8_allowed_76 : decode cX8_allowed 76 = .ok (.aload_n 0, 1) := by decide +kernel
theorem dX8_allowed_77 : decode cX8_allowed 77 = .ok (.getfield 19, 3) := by decide +kernel
theorem dX8_allowed_80 : decode cX8_allowed 80 = .ok (.bipush 13, 2) := by decide +kernel
theorem dX8_allowed_82 : decode cX8_allowed 82 = .ok (.iaload, 1) := by decide +kernel
theorem dX8_allowed_83 : decode cX8_allowed 83 = .ok (.if_icmp .ge 7, 3) := by decide +kernel
theorem dX8_allowed_86 : decode cX8_allowed 86 = .ok (.iconst 1, 1) := by decide +kernel
theorem dX8_allowed_87 : decode cX8_allowed 87 = .ok (.goto 4, 3) := by decide +kernel
theorem dX8_allowed_90 : decode cX8_allowed 90 = .ok (.iconst 0, 1) := by decide +kernel
theorem dX8_allowed_91 : decode cX8_allowed 91 = .ok (.istore 4, 2) := by decide +kernel
theorem dX8_allowed_93 : decode cX8_allowed 93 = .ok (.iload_n 2, 1) := by decide +kernel
theorem dX8_allowed_94 : decode cX8_allowed 94 = .ok (.iload 4, 2) := by decide +kernel
theorem dX8_allowed_96 : decode cX8_allowed 96 = .ok (.ifCond .eq 9, 3) := by decide +kernel
theorem dX8_allowed_99 : decode cX8_allowed 99 = .ok (.iconst 1, 1) := by decide +kernel
theorem dX8_allowed_100 : decode cX8_allowed 100 = .ok (.iload_n 3, 1) := by decide +kernel
theorem dX8_allowed_101 : decode cX8_allowed 101 = .ok (.ishl, 1) := by decide +kernel
theorem dX8_allowed_102 : decode cX8_allowed 102 = .ok (.goto 4, 3) := by decide +kernel
theorem dX8_allowed_105 : decode cX8_allowed 105 = .ok (.iconst 0, 1) := by decide +kernel
theorem dX8_allowed_106 : decode cX8_allowed 106 = .ok (.ior, 1) := by decide +kernel
theorem dX8_allowed_107 : decode cX8_allowed 107 = .ok (.istore_n 2, 1) := by decide +kernel
theorem dX8_allowed_108 : decode cX8_allowed 108 = .ok (.iinc 3 1, 3) := by decide +kernel
theorem dX8_allowed_111 : decode cX8_allowed 111 = .ok (.goto (-99), 3) := by decide +kernel
theorem dX8_allowed_114 : decode cX8_allowed 114 = .ok (.iload_n 2, 1) := by decide +kernel
theorem dX8_allowed_115 : decode cX8_allowed 115 = .ok (.ireturn, 1) := by decide +kernel
set_option maxRecDepth 20000 in
theorem ggX8_whereIs_X8_allowed : GoodIn wsX8_whereIs wsX8_allowed := goodIn_r _ [9, 1, 4, 10, 11, 12, 8, 13, 14, 15, 16, 17, 18, 19, 20, 21, 22, 23, 24, 25, 26, 27, 28, 29, 30, 31, 32, 33, 34, 35, 36, 37, 38, 39, 40, 41, 42, 43, 44] (by decide +kernel) (by decide +kernel)
set_option maxRecDepth 20000 in
theorem gX8_whereIs_X8_allowed : GoodIn wsX8_whereIs (wsV RX8 170 RX8 yX8_allowed wsX8_allowed) := goodIn_app (goodIn_of _ (by decide +kernel)) ggX8_whereIs_X8_allowed
set_option maxRecDepth 20000 in
theorem ggX8_whereIs_X8_joined : GoodIn wsX8_whereIs wsX8_joined := goodIn_r _ [17, 4, 18, 19, 20, 21, 22, 23, 24, 25, 26, 27, 28, 29, 30, 31, 32, 33, 34, 35, 36, 37, 38, 39, 40, 41, 42, 43, 44] (by decide +kernel) (by decide +kernel)
set_option maxRecDepth 20000 in
theorem gX8_whereIs_X8_joined : GoodIn wsX8_whereIs (wsV RX8 152 RX8 yX8_joined wsX8_joined) := goodIn_app (goodIn_of _ (by decide +kernel)) ggX8_whereIs_X8_joined
theorem dX8_whereIs_0 : decode cX8_whereIs 0 = .ok (.aload_n 0, 1) := by decide +kernel
theorem dX8_whereIs_1 : decode cX8_whereIs 1 = .ok (.invokevirtual 170, 3) := by decide +kernel
theorem dX8_whereIs_4 : decode cX8_whereIs 4 = .ok (.istore_n 1, 1) := by decide +kernel
theorem dX8_whereIs_5 : decode cX8_whereIs 5 = .ok (.aload_n 0, 1) := by decide +kernel
theorem dX8_whereIs_6 : decode cX8_whereIs 6 = .ok (.getfield 19, 3) := by decide +kernel
theorem dX8_whereIs_9 : decode cX8_whereIs 9 = .ok (.bipush 12, 2) := by decide +kernel
theorem dX8_whereIs_11 : decode cX8_whereIs 11 = .ok (.iaload, 1) := by decide +kernel
theorem dX8_whereIs_12 : decode cX8_whereIs 12 = .ok (.iconst 1, 1) := by decide +kernel
theorem dX8_whereIs_13 : decode cX8_whereIs 13 = .ok (.if_icmp .ne 15, 3) := by decide +kernel
theorem dX8_whereIs_16 : decode cX8_whereIs 16 = .ok (.aload_n 0, 1) := by decide +kernel
theorem dX8_whereIs_17 : decode cX8_whereIs 17 = .ok (.getfield 19, 3) := by decide +kernel
theorem dX8_whereIs_20 : decode cX8_whereIs 20 = .ok (.bipush 13, 2) := by decide +kernel
theorem dX8_whereIs_22 : decode cX8_whereIs 22 = .ok (.iaload, 1) := by decide +kernel
theorem dX8_whereIs_23 : decode cX8_whereIs 23 = .ok (.iconst 1, 1) := by decide +kernel
theorem dX8_whereIs_24 : decode cX8_whereIs 24 = .ok (.isub, 1) := by decide +kernel
theorem dX8_whereIs_25 : decode cX8_whereIs 25 = .ok (.goto 4, 3) := by decide +kernel
theorem dX8_whereIs_28 : decode cX8_whereIs 28 = .ok (.iconst 0, 1) := by decide +kernel
theorem dX8_whereIs_29 : decode cX8_whereIs 29 = .ok (.istore_n 2, 1) := by decide +kernel
theorem dX8_whereIs_30 : decode cX8_whereIs 30 = .ok (.iconst 0, 1) := by decide +kernel
theorem dX8_whereIs_31 : decode cX8_whereIs 31 = .ok (.istore_n 3, 1) := by decide +kernel
theorem dX8_whereIs_32 : decode cX8_whereIs 32 = .ok (.iload_n 3, 1) := by decide +kernel
theorem dX8_whereIs_33 : decode cX8_whereIs 33 = .ok (.bipush 10, 2) := by decide +kernel
theorem dX8_whereIs_35 : decode cX8_whereIs 35 = .ok (.if_icmp .ge 32, 3) := by decide +kernel
theorem dX8_whereIs_38 : decode cX8_whereIs 38 = .ok (.aload_n 0, 1) := by decide +kernel
theorem dX8_whereIs_39 : decode cX8_whereIs 39 = .ok (.getfield 34, 3) := by decide +kernel
theorem dX8_whereIs_42 : decode cX8_whereIs 42 = .ok (.iload_n 3, 1) := by decide +kernel
theorem dX8_whereIs_43 : decode cX8_whereIs 43 = .ok (.iload_n 3, 1) := by decide +kernel
theorem dX8_whereIs_44 : decode cX8_whereIs 44 = .ok (.ifCond .ne 15, 3) := by decide +kernel
theorem dX8_whereIs_47 : decode cX8_whereIs 47 = .ok (.iconst 1, 1) := by decide +kernel
theorem dX8_whereIs_48 : decode cX8_whereIs 48 = .ok (.aload_n 0, 1) := by decide +kernel
theorem dX8_whereIs_49 : decode cX8_whereIs 49 = .ok (.getfield 19, 3) := by decide +kernel
theorem dX8_whereIs_52 : decode cX8_whereIs 52 = .ok (.bipush 15, 2) := by decide +kernel
theorem dX8_whereIs_54 : decode cX8_whereIs 54 = .ok (.iaload, 1) := by decide +kernel
theorem dX8_whereIs_55 : decode cX8_whereIs 55 = .ok (.ishl, 1) := by decide +kernel
theorem dX8_whereIs_56 : decode cX8_whereIs 56 = .ok (.goto 4, 3) := by decide +kernel
theorem dX8_whereIs_59 : decode cX8_whereIs 59 = .ok (.iconst 0, 1) := by decide +kernel
theorem dX8_whereIs_60 : decode cX8_whereIs 60 = .ok (.iastore, 1) := by decide +kernel
theorem dX8_whereIs_61 : decode cX8_whereIs 61 = .ok (.iinc 3 1, 3) := by decide +kernel
theorem dX8_whereIs_64 : decode cX8_whereIs 64 = .ok (.goto (-32), 3) := by decide +kernel
theorem dX8_whereIs_67 : decode cX8_whereIs 67 = .ok (.iconst 0, 1) := by decide +kernel
theorem dX8_whereIs_68 : decode cX8_whereIs 68 = .ok (.istore_n 3, 1) := by decide +kernel
theorem dX8_whereIs_69 : decode cX8_whereIs 69 = .ok (.iload_n 3, 1) := by decide +kernel
theorem dX8_whereIs_70 : decode cX8_whereIs 70 = .ok (.aload_n 0, 1) := by decide +kernel
theorem dX8_whereIs_71 : decode cX8_whereIs 71 = .ok (.getfield 19, 3) := by decide +kernel
theorem dX8_whereIs_74 : decode cX8_whereIs 74 = .ok (.bipush 17, 2) := by decide +kernel
theorem dX8_whereIs_76 : decode cX8_whereIs 76 = .ok (.iaload, 1) := by decide +kernel
theorem dX8_whereIs_77 : decode cX8_whereIs 77 = .ok (.if_icmp .ge 190, 3) := by decide +kernel
theorem dX8_whereIs_80 : decode cX8_whereIs 80 = .ok (.iconst 0, 1) := by decide +kernel
theorem dX8_whereIs_81 : decode cX8_whereIs 81 = .ok (.istore 4, 2) := by decide +kernel
theorem dX8_whereIs_83 : decode cX8_whereIs 83 = .ok (.iload 4, 2) := by decide +kernel
theorem dX8_whereIs_85 : decode cX8_whereIs 85 = .ok (.bipush 10, 2) := by decide +kernel
theorem dX8_whereIs_87 : decode cX8_whereIs 87 = .ok (.if_icmp .ge 17, 3) := by decide +kernel
theorem dX8_whereIs_90 : decode cX8_whereIs 90 = .ok (.aload_n 0, 1) := by decide +kernel
theorem dX8_whereIs_91 : decode cX8_whereIs 91 = .ok (.getfield 37, 3) := by decide +kernel
theorem dX8_whereIs_94 : decode cX8_whereIs 94 = .ok (.iload 4, 2) := by decide +kernel
theorem dX8_whereIs_96 : decode cX8_whereIs 96 = .ok (.iconst 0, 1) := by decide +kernel
theorem dX8_whereIs_97 : decode cX8_whereIs 97 = .ok (.iastore, 1) := by decide +kernel
theorem dX8_whereIs_98 : decode cX8_whereIs 98 = .ok (.iinc 4 1, 3) := by decide +kernel
theorem dX8_whereIs_101 : decode cX8_whereIs 101 = .ok (.goto (-18), 3) := by decide +kernel
theorem dX8_whereIs_104 : decode cX8_whereIs 104 = .ok (.iconst 0, 1) := by decide +kernel
theorem dX8_whereIs_105 : decode cX8_whereIs 105 = .ok (.istore 4, 2) := by decide +kernel
theorem dX8_whereIs_107 : decode cX8_whereIs 107 = .ok (.iload 4, 2) := by decide +kernel
theorem dX8_whereIs_109 : decode cX8_whereIs 109 = .ok (.iload_n 2, 1) := by decide +kernel
theorem dX8_whereIs_110 : decode cX8_whereIs 110 = .ok (.if_icmp .gt 121, 3) := by decide +kernel
theorem dX8_whereIs_113 : decode cX8_whereIs 113 = .ok (.iconst 0, 1) := by decide +kernel
theorem dX8_whereIs_114 : decode cX8_whereIs 114 = .ok (.istore 5, 2) := by decide +kernel
theorem dX8_whereIs_116 : decode cX8_whereIs 116 = .ok (.iload 5, 2) := by decide +kernel
theorem dX8_whereIs_118 : decode cX8_whereIs 118 = .ok (.aload_n 0, 1) := by decide +kernel
theorem dX8_whereIs_119 : decode cX8_whereIs 119 = .ok (.getfield 76, 3) := by decide +kernel
theorem dX8_whereIs_122 : decode cX8_whereIs 122 = .ok (.if_icmp .ge 103, 3) := by decide +kernel
theorem dX8_whereIs_125 : decode cX8_whereIs 125 = .ok (.aload_n 0, 1) := by decide +kernel
theorem dX8_whereIs_126 : decode cX8_whereIs 126 = .ok (.getfield 34, 3) := by decide +kernel
theorem dX8_whereIs_129 : decode cX8_whereIs 129 = .ok (.iload 4, 2) := by decide +kernel
theorem dX8_whereIs_131 : decode cX8_whereIs 131 = .ok (.iaload, 1) := by decide +kernel
theorem dX8_whereIs_132 : decode cX8_whereIs 132 = .ok (.iload 5, 2) := by decide +kernel
theorem dX8_whereIs_134 : decode cX8_whereIs 134 = .ok (.ishr, 1) := by decide +kernel
theorem dX8_whereIs_135 : decode cX8_whereIs 135 = .ok (.iconst 1, 1) := by decide +kernel
theorem dX8_whereIs_136 : decode cX8_whereIs 136 = .ok (.iand, 1) := by decide +kernel
theorem dX8_whereIs_137 : decode cX8_whereIs 137 = .ok (.iconst 1, 1) := by decide +kernel
theorem dX8_whereIs_138 : decode cX8_whereIs 138 = .ok (.if_icmp .ne 81, 3) := by decide +kernel
theorem dX8_whereIs_141 : decode cX8_whereIs 141 = .ok (.aload_n 0, 1) := by decide +kernel
theorem dX8_whereIs_142 : decode cX8_whereIs 142 = .ok (.getfield 37, 3) := by decide +kernel
theorem dX8_whereIs_145 : decode cX8_whereIs 145 = .ok (.iload 4, 2) := by decide +kernel
theorem dX8_whereIs_147 : decode cX8_whereIs 147 = .ok (.dup2, 1) := by decide +kernel
theorem dX8_whereIs_148 : decode cX8_whereIs 148 = .ok (.iaload, 1) := by decide +kernel
theorem dX8_whereIs_149 : decode cX8_whereIs 149 = .ok (.aload_n 0, 1) := by decide +kernel
theorem dX8_whereIs_150 : decode cX8_whereIs 150 = .ok (.getfield 19, 3) := by decide +kernel
theorem dX8_whereIs_153 : decode cX8_whereIs 153 = .ok (.iload 5, 2) := by decide +kernel
theorem dX8_whereIs_155 : decode cX8_whereIs 155 = .ok (.iaload, 1) := by decide +kernel
theorem dX8_whereIs_156 : decode cX8_whereIs 156 = .ok (.ifCond .le 10, 3) := by decide +kernel
theorem dX8_whereIs_159 : decode cX8_whereIs 159 = .ok (.iconst 1, 1) := by decide +kernel
theorem dX8_whereIs_160 : decode cX8_whereIs 160 = .ok (.iload 5, 2) := by decide +kernel
theorem dX8_whereIs_162 : decode cX8_whereIs 162 = .ok (.ishl, 1) := by decide +kernel
theorem dX8_whereIs_163 : decode cX8_whereIs 163 = .ok (.goto 4, 3) := by decide +kernel
theorem dX8_whereIs_166 : decode cX8_whereIs 166 = .ok (.iconst 0, 1) := by decide +kernel
theorem dX8_whereIs_167 : decode cX8_whereIs 167 = .ok (.ior, 1) := by decide +kernel
theorem dX8_whereIs_168 : decode cX8_whereIs 168 = .ok (.iastore, 1) := by decide +kernel
theorem dX8_whereIs_169 : decode cX8_whereIs 169 = .ok (.aload_n 0, 1) := by decide +kernel
theorem dX8_whereIs_170 : decode cX8_whereIs 170 = .ok (.getfield 19, 3) := by decide +kernel
theorem dX8_whereIs_173 : decode cX8_whereIs 173 = .ok (.bipush 12, 2) := by decide +kernel
theorem dX8_whereIs_175 : decode cX8_whereIs 175 = .ok (.iaload, 1) := by decide +kernel
theorem dX8_whereIs_176 : decode cX8_whereIs 176 = .ok (.iconst 1, 1) := by decide +kernel
theorem dX8_whereIs_177 : decode cX8_whereIs 177 = .ok (.if_icmp .ne 10, 3) := by decide +kernel
theorem dX8_whereIs_180 : decode cX8_whereIs 180 = .ok (.iload 4, 2) := by decide +kernel
theorem dX8_whereIs_182 : decode cX8_whereIs 182 = .ok (.iconst 1, 1) := by decide +kernel
theorem dX8_whereIs_183 : decode cX8_whereIs 183 = .ok (.iadd, 1) := by decide +kernel
theorem dX8_whereIs_184 : decode cX8_whereIs 184 = .ok (.goto 5, 3) := by decide +kernel
theorem dX8_whereIs_187 : decode cX8_whereIs 187 = .ok (.iload 4, 2) := by decide +kernel
theorem dX8_whereIs_189 : decode cX8_whereIs 189 = .ok (.istore 6, 2) := by decide +kernel
theorem dX8_whereIs_191 : decode cX8_whereIs 191 = .ok (.aload_n 0, 1) := by decide +kernel
theorem dX8_whereIs_192 : decode cX8_whereIs 192 = .ok (.getfield 37, 3) := by decide +kernel
theorem dX8_whereIs_195 : decode cX8_whereIs 195 = .ok (.iload 6, 2) := by decide +kernel
theorem dX8_whereIs_197 : decode cX8_whereIs 197 = .ok (.dup2, 1) := by decide +kernel
theorem dX8_whereIs_198 : decode cX8_whereIs 198 = .ok (.iaload, 1) := by decide +kernel
theorem dX8_whereIs_199 : decode cX8_whereIs 199 = .ok (.iload 6, 2) := by decide +kernel
theorem dX8_whereIs_201 : decode cX8_whereIs 201 = .ok (.iload_n 2, 1) := by decide +kernel
end
section
theorem dX8_whereIs_202 : decode cX8_whereIs 202 = .ok (.if_icmp .gt 14, 3) := by decide +kernel
theorem dX8_whereIs_205 : decode cX8_whereIs 205 = .ok (.aload_n 0, 1) := by decide +kernel
theorem dX8_whereIs_206 : decode cX8_whereIs 206 = .ok (.iload 5, 2) := by decide +kernel
theorem dX8_whereIs_208 : decode cX8_whereIs 208 = .ok (.invokevirtual 152, 3) := by decide +kernel
theorem dX8_whereIs_211 : decode cX8_whereIs 211 = .ok (.iload_n 1, 1) := by decide +kernel
theorem dX8_whereIs_212 : decode cX8_whereIs 212 = .ok (.iand, 1) := by decide +kernel
theorem dX8_whereIs_213 : decode cX8_whereIs 213 = .ok (.goto 4, 3) := by decide +kernel
theorem dX8_whereIs_216 : decode cX8_whereIs 216 = .ok (.iconst 0, 1) := by decide +kernel
theorem dX8_whereIs_217 : decode cX8_whereIs 217 = .ok (.ior, 1) := by decide +kernel
theorem dX8_whereIs_218 : decode cX8_whereIs 218 = .ok (.iastore, 1) := by decide +kernel
theorem dX8_whereIs_219 : decode cX8_whereIs 219 = .ok (.iinc 5 1, 3) := by decide +kernel
theorem dX8_whereIs_222 : decode cX8_whereIs 222 = .ok (.goto (-106), 3) := by decide +kernel
theorem dX8_whereIs_225 : decode cX8_whereIs 225 = .ok (.iinc 4 1, 3) := by decide +kernel
theorem dX8_whereIs_228 : decode cX8_whereIs 228 = .ok (.goto (-121), 3) := by decide +kernel
theorem dX8_whereIs_231 : decode cX8_whereIs 231 = .ok (.iconst 0, 1) := by decide +kernel
theorem dX8_whereIs_232 : decode cX8_whereIs 232 = .ok (.istore 4, 2) := by decide +kernel
theorem dX8_whereIs_234 : decode cX8_whereIs 234 = .ok (.iload 4, 2) := by decide +kernel
theorem dX8_whereIs_236 : decode cX8_whereIs 236 = .ok (.bipush 10, 2) := by decide +kernel
theorem dX8_whereIs_238 : decode cX8_whereIs 238 = .ok (.if_icmp .ge 23, 3) := by decide +kernel
theorem dX8_whereIs_241 : decode cX8_whereIs 241 = .ok (.aload_n 0, 1) := by decide +kernel
theorem dX8_whereIs_242 : decode cX8_whereIs 242 = .ok (.getfield 34, 3) := by decide +kernel
theorem dX8_whereIs_245 : decode cX8_whereIs 245 = .ok (.iload 4, 2) := by decide +kernel
theorem dX8_whereIs_247 : decode cX8_whereIs 247 = .ok (.aload_n 0, 1) := by decide +kernel
theorem dX8_whereIs_248 : decode cX8_whereIs 248 = .ok (.getfield 37, 3) := by decide +kernel
theorem dX8_whereIs_251 : decode cX8_whereIs 251 = .ok (.iload 4, 2) := by decide +kernel
theorem dX8_whereIs_253 : decode cX8_whereIs 253 = .ok (.iaload, 1) := by decide +kernel
theorem dX8_whereIs_254 : decode cX8_whereIs 254 = .ok (.iastore, 1) := by decide +kernel
theorem dX8_whereIs_255 : decode cX8_whereIs 255 = .ok (.iinc 4 1, 3) := by decide +kernel
theorem dX8_whereIs_258 : decode cX8_whereIs 258 = .ok (.goto (-24), 3) := by decide +kernel
theorem dX8_whereIs_261 : decode cX8_whereIs 261 = .ok (.iinc 3 1, 3) := by decide +kernel
theorem dX8_whereIs_264 : decode cX8_whereIs 264 = .ok (.goto (-195), 3) := by decide +kernel
theorem dX8_whereIs_267 : decode cX8_whereIs 267 = .ok (.iconst 0, 1) := by decide +kernel
theorem dX8_whereIs_268 : decode cX8_whereIs 268 = .ok (.istore_n 3, 1) := by decide +kernel
theorem dX8_whereIs_269 : decode cX8_whereIs 269 = .ok (.iconst 0, 1) := by decide +kernel
theorem dX8_whereIs_270 : decode cX8_whereIs 270 = .ok (.istore 4, 2) := by decide +kernel
theorem dX8_whereIs_272 : decode cX8_whereIs 272 = .ok (.iload 4, 2) := by decide +kernel
theorem dX8_whereIs_274 : decode cX8_whereIs 274 = .ok (.iload_n 2, 1) := by decide +kernel
theorem dX8_whereIs_275 : decode cX8_whereIs 275 = .ok (.if_icmp .gt 19, 3) := by decide +kernel
theorem dX8_whereIs_278 : decode cX8_whereIs 278 = .ok (.iload_n 3, 1) := by decide +kernel
theorem dX8_whereIs_279 : decode cX8_whereIs 279 = .ok (.aload_n 0, 1) := by decide +kernel
theorem dX8_whereIs_280 : decode cX8_whereIs 280 = .ok (.getfield 34, 3) := by decide +kernel
theorem dX8_whereIs_283 : decode cX8_whereIs 283 = .ok (.iload 4, 2) := by decide +kernel
theorem dX8_whereIs_285 : decode cX8_whereIs 285 = .ok (.iaload, 1) := by decide +kernel
theorem dX8_whereIs_286 : decode cX8_whereIs 286 = .ok (.ior, 1) := by decide +kernel
theorem dX8_whereIs_287 : decode cX8_whereIs 287 = .ok (.istore_n 3, 1) := by decide +kernel
theorem dX8_whereIs_288 : decode cX8_whereIs 288 = .ok (.iinc 4 1, 3) := by decide +kernel
theorem dX8_whereIs_291 : decode cX8_whereIs 291 = .ok (.goto (-19), 3) := by decide +kernel
theorem dX8_whereIs_294 : decode cX8_whereIs 294 = .ok (.iload_n 3, 1) := by decide +kernel
theorem dX8_whereIs_295 : decode cX8_whereIs 295 = .ok (.ireturn, 1) := by decide +kernel
set_option maxRecDepth 20000 in
theorem ggX8_where_X8_whereIs : GoodIn wsX8_where wsX8_whereIs := goodIn_r _ [5, 6, 7, 8, 9, 10, 11, 12, 4, 13, 14, 15, 16, 17, 18, 19, 20, 21, 22, 23, 24, 25, 26, 27, 28, 29, 30, 31, 32, 33, 34, 35, 36, 37, 38, 39, 40, 41, 42, 43, 44, 45, 46, 47, 48] (by decide +kernel) (by decide +kernel)
set_option maxRecDepth 20000 in
theorem gX8_where_X8_whereIs : GoodIn wsX8_where (wsV RX8 173 RX8 yX8_whereIs wsX8_whereIs) := goodIn_app (goodIn_of _ (by decide +kernel)) ggX8_where_X8_whereIs
theorem dX8_where_0 : decode cX8_where 0 = .ok (.aload_n 0, 1) := by decide +kernel
theorem dX8_where_1 : decode cX8_where 1 = .ok (.invokevirtual 173, 3) := by decide +kernel
theorem dX8_where_4 : decode cX8_where 4 = .ok (.ireturn, 1) := by decide +kernel
theorem dX8_determinant_0 : decode cX8_determinant 0 = .ok (.lconst 1, 1) := by decide +kernel
theorem dX8_determinant_1 : decode cX8_determinant 1 = .ok (.lstore_n 2, 1) := by decide +kernel
theorem dX8_determinant_2 : decode cX8_determinant 2 = .ok (.iconst 0, 1) := by decide +kernel
theorem dX8_determinant_3 : decode cX8_determinant 3 = .ok (.istore 4, 2) := by decide +kernel
theorem dX8_determinant_5 : decode cX8_determinant 5 = .ok (.iload 4, 2) := by decide +kernel
theorem dX8_determinant_7 : decode cX8_determinant 7 = .ok (.iconst 1, 1) := by decide +kernel
theorem dX8_determinant_8 : decode cX8_determinant 8 = .ok (.iadd, 1) := by decide +kernel
theorem dX8_determinant_9 : decode cX8_determinant 9 = .ok (.iload_n 1, 1) := by decide +kernel
theorem dX8_determinant_10 : decode cX8_determinant 10 = .ok (.if_icmp .ge 123, 3) := by decide +kernel
theorem dX8_determinant_13 : decode cX8_determinant 13 = .ok (.iload 4, 2) := by decide +kernel
theorem dX8_determinant_15 : decode cX8_determinant 15 = .ok (.iconst 1, 1) := by decide +kernel
theorem dX8_determinant_16 : decode cX8_determinant 16 = .ok (.iadd, 1) := by decide +kernel
theorem dX8_determinant_17 : decode cX8_determinant 17 = .ok (.istore 5, 2) := by decide +kernel
theorem dX8_determinant_19 : decode cX8_determinant 19 = .ok (.iload 5, 2) := by decide +kernel
theorem dX8_determinant_21 : decode cX8_determinant 21 = .ok (.iload_n 1, 1) := by decide +kernel
theorem dX8_determinant_22 : decode cX8_determinant 22 = .ok (.if_icmp .ge 92, 3) := by decide +kernel
theorem dX8_determinant_25 : decode cX8_determinant 25 = .ok (.iload 4, 2) := by decide +kernel
theorem dX8_determinant_27 : decode cX8_determinant 27 = .ok (.iconst 1, 1) := by decide +kernel
theorem dX8_determinant_28 : decode cX8_determinant 28 = .ok (.iadd, 1) := by decide +kernel
theorem dX8_determinant_29 : decode cX8_determinant 29 = .ok (.istore 6, 2) := by decide +kernel
theorem dX8_determinant_31 : decode cX8_determinant 31 = .ok (.iload 6, 2) := by decide +kernel
theorem dX8_determinant_33 : decode cX8_determinant 33 = .ok (.iload_n 1, 1) := by decide +kernel
theorem dX8_determinant_34 : decode cX8_determinant 34 = .ok (.if_icmp .ge 74, 3) := by decide +kernel
theorem dX8_determinant_37 : decode cX8_determinant 37 = .ok (.aload_n 0, 1) := by decide +kernel
theorem dX8_determinant_38 : decode cX8_determinant 38 = .ok (.getfield 44, 3) := by decide +kernel
theorem dX8_determinant_41 : decode cX8_determinant 41 = .ok (.iconst 5, 1) := by decide +kernel
theorem dX8_determinant_42 : decode cX8_determinant 42 = .ok (.iload 5, 2) := by decide +kernel
theorem dX8_determinant_44 : decode cX8_determinant 44 = .ok (.imul, 1) := by decide +kernel
theorem dX8_determinant_45 : decode cX8_determinant 45 = .ok (.iload 6, 2) := by decide +kernel
theorem dX8_determinant_47 : decode cX8_determinant 47 = .ok (.iadd, 1) := by decide +kernel
theorem dX8_determinant_48 : decode cX8_determinant 48 = .ok (.aload_n 0, 1) := by decide +kernel
theorem dX8_determinant_49 : decode cX8_determinant 49 = .ok (.getfield 44, 3) := by decide +kernel
theorem dX8_determinant_52 : decode cX8_determinant 52 = .ok (.iconst 5, 1) := by decide +kernel
theorem dX8_determinant_53 : decode cX8_determinant 53 = .ok (.iload 5, 2) := by decide +kernel
theorem dX8_determinant_55 : decode cX8_determinant 55 = .ok (.imul, 1) := by decide +kernel
theorem dX8_determinant_56 : decode cX8_determinant 56 = .ok (.iload 6, 2) := by decide +kernel
theorem dX8_determinant_58 : decode cX8_determinant 58 = .ok (.iadd, 1) := by decide +kernel
theorem dX8_determinant_59 : decode cX8_determinant 59 = .ok (.laload, 1) := by decide +kernel
theorem dX8_determinant_60 : decode cX8_determinant 60 = .ok (.aload_n 0, 1) := by decide +kernel
theorem dX8_determinant_61 : decode cX8_determinant 61 = .ok (.getfield 44, 3) := by decide +kernel
theorem dX8_determinant_64 : decode cX8_determinant 64 = .ok (.iconst 5, 1) := by decide +kernel
theorem dX8_determinant_65 : decode cX8_determinant 65 = .ok (.iload 4, 2) := by decide +kernel
theorem dX8_determinant_67 : decode cX8_determinant 67 = .ok (.imul, 1) := by decide +kernel
theorem dX8_determinant_68 : decode cX8_determinant 68 = .ok (.iload 4, 2) := by decide +kernel
theorem dX8_determinant_70 : decode cX8_determinant 70 = .ok (.iadd, 1) := by decide +kernel
theorem dX8_determinant_71 : decode cX8_determinant 71 = .ok (.laload, 1) := by decide +kernel
theorem dX8_determinant_72 : decode cX8_determinant 72 = .ok (.lmul, 1) := by decide +kernel
theorem dX8_determinant_73 : decode cX8_determinant 73 = .ok (.aload_n 0, 1) := by decide +kernel
theorem dX8_determinant_74 : decode cX8_determinant 74 = .ok (.getfield 44, 3) := by decide +kernel
theorem dX8_determinant_77 : decode cX8_determinant 77 = .ok (.iconst 5, 1) := by decide +kernel
theorem dX8_determinant_78 : decode cX8_determinant 78 = .ok (.iload 5, 2) := by decide +kernel
theorem dX8_determinant_80 : decode cX8_determinant 80 = .ok (.imul, 1) := by decide +kernel
theorem dX8_determinant_81 : decode cX8_determinant 81 = .ok (.iload 4, 2) := by decide +kernel
theorem dX8_determinant_83 : decode cX8_determinant 83 = .ok (.iadd, 1) := by decide +kernel
theorem dX8_determinant_84 : decode cX8_determinant 84 = .ok (.laload, 1) := by decide +kernel
theorem dX8_determinant_85 : decode cX8_determinant 85 = .ok (.aload_n 0, 1) := by decide +kernel
theorem dX8_determinant_86 : decode cX8_determinant 86 = .ok (.getfield 44, 3) := by decide +kernel
theorem dX8_determinant_89 : decode cX8_determinant 89 = .ok (.iconst 5, 1) := by decide +kernel
theorem dX8_determinant_90 : decode cX8_determinant 90 = .ok (.iload 4, 2) := by decide +kernel
theorem dX8_determinant_92 : decode cX8_determinant 92 = .ok (.imul, 1) := by decide +kernel
theorem dX8_determinant_93 : decode cX8_determinant 93 = .ok (.iload 6, 2) := by decide +kernel
theorem dX8_determinant_95 : decode cX8_determinant 95 = .ok (.iadd, 1) := by decide +kernel
theorem dX8_determinant_96 : decode cX8_determinant 96 = .ok (.laload, 1) := by decide +kernel
theorem dX8_determinant_97 : decode cX8_determinant 97 = .ok (.lmul, 1) := by decide +kernel
theorem dX8_determinant_98 : decode cX8_determinant 98 = .ok (.lsub, 1) := by decide +kernel
theorem dX8_determinant_99 : decode cX8_determinant 99 = .ok (.lload_n 2, 1) := by decide +kernel
theorem dX8_determinant_100 : decode cX8_determinant 100 = .ok (.ldiv, 1) := by decide +kernel
theorem dX8_determinant_101 : decode cX8_determinant 101 = .ok (.lastore, 1) := by decide +kernel
theorem dX8_determinant_102 : decode cX8_determinant 102 = .ok (.iinc 6 1, 3) := by decide +kernel
theorem dX8_determinant_105 : decode cX8_determinant 105 = .ok (.goto (-74), 3) := by decide +kernel
theorem dX8_determinant_108 : decode cX8_determinant 108 = .ok (.iinc 5 1, 3) := by decide +kernel
theorem dX8_determinant_111 : decode cX8_determinant 111 = .ok (.goto (-92), 3) := by decide +kernel
theorem dX8_determinant_114 : decode cX8_determinant 114 = .ok (.aload_n 0, 1) := by decide +kernel
theorem dX8_determinant_115 : decode cX8_determinant 115 = .ok (.getfield 44, 3) := by decide +kernel
theorem dX8_determinant_118 : decode cX8_determinant 118 = .ok (.iconst 5, 1) := by decide +kernel
theorem dX8_determinant_119 : decode cX8_determinant 119 = .ok (.iload 4, 2) := by decide +kernel
theorem dX8_determinant_121 : decode cX8_determinant 121 = .ok (.imul, 1) := by decide +kernel
theorem dX8_determinant_122 : decode cX8_determinant 122 = .ok (.iload 4, 2) := by decide +kernel
theorem dX8_determinant_124 : decode cX8_determinant 124 = .ok (.iadd, 1) := by decide +kernel
theorem dX8_determinant_125 : decode cX8_determinant 125 = .ok (.laload, 1) := by decide +kernel
theorem dX8_determinant_126 : decode cX8_determinant 126 = .ok (.lstore_n 2, 1) := by decide +kernel
theorem dX8_determinant_127 : decode cX8_determinant 127 = .ok (.iinc 4 1, 3) := by decide +kernel
theorem dX8_determinant_130 : decode cX8_determinant 130 = .ok (.goto (-125), 3) := by decide +kernel
theorem dX8_determinant_133 : decode cX8_determinant 133 = .ok (.aload_n 0, 1) := by decide +kernel
theorem dX8_determinant_134 : decode cX8_determinant 134 = .ok (.getfield 44, 3) := by decide +kernel
theorem dX8_determinant_137 : decode cX8_determinant 137 = .ok (.iconst 5, 1) := by decide +kernel
theorem dX8_determinant_138 : decode cX8_determinant 138 = .ok (.iload_n 1, 1) := by decide +kernel
theorem dX8_determinant_139 : decode cX8_determinant 139 = .ok (.iconst 1, 1) := by decide +kernel
theorem dX8_determinant_140 : decode cX8_determinant 140 = .ok (.isub, 1) := by decide +kernel
theorem dX8_determinant_141 : decode cX8_determinant 141 = .ok (.imul, 1) := by decide +kernel
theorem dX8_determinant_142 : decode cX8_determinant 142 = .ok (.iload_n 1, 1) := by decide +kernel
theorem dX8_determinant_143 : decode cX8_determinant 143 = .ok (.iadd, 1) := by decide +kernel
theorem dX8_determinant_144 : decode cX8_determinant 144 = .ok (.iconst 1, 1) := by decide +kernel
theorem dX8_determinant_145 : decode cX8_determinant 145 = .ok (.isub, 1) := by decide +kernel
theorem dX8_determinant_146 : decode cX8_determinant 146 = .ok (.laload, 1) := by decide +kernel
theorem dX8_determinant_147 : decode cX8_determinant 147 = .ok (.lreturn, 1) := by decide +kernel
set_option maxRecDepth 20000 in
theorem ggX8_grows_X8_out : GoodIn wsX8_grows wsX8_out := goodIn_r _ [9, 1, 3, 14, 15, 16, 17, 18, 19, 20, 21, 22, 23, 24, 25, 26, 27, 28, 29, 30, 31, 32, 33, 34, 35, 36, 37, 38, 39] (by decide +kernel) (by decide +kernel)
set_option maxRecDepth 20000 in
theorem gX8_grows_X8_out : GoodIn wsX8_grows (wsV RX8 146 RX8 yX8_out wsX8_out) := goodIn_app (goodIn_of _ (by decide +kernel)) ggX8_grows_X8_out
set_option maxRecDepth 20000 in
theorem ggX8_grows_X8_determinant : GoodIn wsX8_grows wsX8_determinant := goodIn_r _ [13, 2, 14, 15, 16, 17, 18, 19, 20, 21, 22, 23, 24, 25, 26, 27, 28, 29, 30, 31, 32, 33, 34, 35, 36, 37, 38, 39] (by decide +kernel) (by decide +kernel)
set_option maxRecDepth 20000 in
theorem gX8_grows_X8_determinant : GoodIn wsX8_grows (wsV RX8 176 RX8 yX8_determinant wsX8_determinant) := goodIn_app (goodIn_of _ (by decide +kernel)) ggX8_grows_X8_determinant
theorem dX8_grows_0 : decode cX8_grows 0 = .ok (.iconst 0, 1) := by decide +kernel
theorem dX8_grows_1 : decode cX8_grows 1 = .ok (.istore_n 1, 1) := by decide +kernel
theorem dX8_grows_2 : decode cX8_grows 2 = .ok (.iload_n 1, 1) := by decide +kernel
theorem dX8_grows_3 : decode cX8_grows 3 = .ok (.aload_n 0, 1) := by decide +kernel
theorem dX8_grows_4 : decode cX8_grows 4 = .ok (.getfield 76, 3) := by decide +kernel
theorem dX8_grows_7 : decode cX8_grows 7 = .ok (.if_icmp .ge 121, 3) := by decide +kernel
theorem dX8_grows_10 : decode cX8_grows 10 = .ok (.iconst 0, 1) := by decide +kernel
theorem dX8_grows_11 : decode cX8_grows 11 = .ok (.istore_n 2, 1) := by decide +kernel
theorem dX8_grows_12 : decode cX8_grows 12 = .ok (.iconst 0, 1) := by decide +kernel
theorem dX8_grows_13 : decode cX8_grows 13 = .ok (.istore_n 3, 1) := by decide +kernel
theorem dX8_grows_14 : decode cX8_grows 14 = .ok (.iload_n 3, 1) := by decide +kernel
theorem dX8_grows_15 : decode cX8_grows 15 = .ok (.aload_n 0, 1) := by decide +kernel
theorem dX8_grows_16 : decode cX8_grows 16 = .ok (.getfield 76, 3) := by decide +kernel
theorem dX8_grows_19 : decode cX8_grows 19 = .ok (.if_icmp .ge 87, 3) := by decide +kernel
theorem dX8_grows_22 : decode cX8_grows 22 = .ok (.iload_n 3, 1) := by decide +kernel
theorem dX8_grows_23 : decode cX8_grows 23 = .ok (.iload_n 1, 1) := by decide +kernel
theorem dX8_grows_24 : decode cX8_grows 24 = .ok (.if_icmp .eq 76, 3) := by decide +kernel
theorem dX8_grows_27 : decode cX8_grows 27 = .ok (.iconst 0, 1) := by decide +kernel
theorem dX8_grows_28 : decode cX8_grows 28 = .ok (.istore 4, 2) := by decide +kernel
theorem dX8_grows_30 : decode cX8_grows 30 = .ok (.iconst 0, 1) := by decide +kernel
theorem dX8_grows_31 : decode cX8_grows 31 = .ok (.istore 5, 2) := by decide +kernel
theorem dX8_grows_33 : decode cX8_grows 33 = .ok (.iload 5, 2) := by decide +kernel
theorem dX8_grows_35 : decode cX8_grows 35 = .ok (.aload_n 0, 1) := by decide +kernel
theorem dX8_grows_36 : decode cX8_grows 36 = .ok (.getfield 76, 3) := by decide +kernel
theorem dX8_grows_39 : decode cX8_grows 39 = .ok (.if_icmp .ge 58, 3) := by decide +kernel
theorem dX8_grows_42 : decode cX8_grows 42 = .ok (.iload 5, 2) := by decide +kernel
theorem dX8_grows_44 : decode cX8_grows 44 = .ok (.iload_n 1, 1) := by decide +kernel
theorem dX8_grows_45 : decode cX8_grows 45 = .ok (.if_icmp .eq 46, 3) := by decide +kernel
theorem dX8_grows_48 : decode cX8_grows 48 = .ok (.aload_n 0, 1) := by decide +kernel
theorem dX8_grows_49 : decode cX8_grows 49 = .ok (.getfield 44, 3) := by decide +kernel
theorem dX8_grows_52 : decode cX8_grows 52 = .ok (.iconst 5, 1) := by decide +kernel
theorem dX8_grows_53 : decode cX8_grows 53 = .ok (.iload_n 2, 1) := by decide +kernel
theorem dX8_grows_54 : decode cX8_grows 54 = .ok (.imul, 1) := by decide +kernel
theorem dX8_grows_55 : decode cX8_grows 55 = .ok (.iload 4, 2) := by decide +kernel
theorem dX8_grows_57 : decode cX8_grows 57 = .ok (.iadd, 1) := by decide +kernel
theorem dX8_grows_58 : decode cX8_grows 58 = .ok (.iload_n 3, 1) := by decide +kernel
theorem dX8_grows_59 : decode cX8_grows 59 = .ok (.iload 5, 2) := by decide +kernel
theorem dX8_grows_61 : decode cX8_grows 61 = .ok (.if_icmp .ne 12, 3) := by decide +kernel
theorem dX8_grows_64 : decode cX8_grows 64 = .ok (.aload_n 0, 1) := by decide +kernel
theorem dX8_grows_65 : decode cX8_grows 65 = .ok (.iload_n 3, 1) := by decide +kernel
theorem dX8_grows_66 : decode cX8_grows 66 = .ok (.invokevirtual 146, 3) := by decide +kernel
theorem dX8_grows_69 : decode cX8_grows 69 = .ok (.i2l, 1) := by decide +kernel
theorem dX8_grows_70 : decode cX8_grows 70 = .ok (.goto 17, 3) := by decide +kernel
theorem dX8_grows_73 : decode cX8_grows 73 = .ok (.aload_n 0, 1) := by decide +kernel
theorem dX8_grows_74 : decode cX8_grows 74 = .ok (.getfield 13, 3) := by decide +kernel
theorem dX8_grows_77 : decode cX8_grows 77 = .ok (.bipush 6, 2) := by decide +kernel
theorem dX8_grows_79 : decode cX8_grows 79 = .ok (.iload_n 3, 1) := by decide +kernel
theorem dX8_grows_80 : decode cX8_grows 80 = .ok (.imul, 1) := by decide +kernel
theorem dX8_grows_81 : decode cX8_grows 81 = .ok (.iload 5, 2) := by decide +kernel
theorem dX8_grows_83 : decode cX8_grows 83 = .ok (.iadd, 1) := by decide +kernel
theorem dX8_grows_84 : decode cX8_grows 84 = .ok (.iaload, 1) := by decide +kernel
theorem dX8_grows_85 : decode cX8_grows 85 = .ok (.ineg, 1) := by decide +kernel
theorem dX8_grows_86 : decode cX8_grows 86 = .ok (.i2l, 1) := by decide +kernel
theorem dX8_grows_87 : decode cX8_grows 87 = .ok (.lastore, 1) := by decide +kernel
theorem dX8_grows_88 : decode cX8_grows 88 = .ok (.iinc 4 1, 3) := by decide +kernel
theorem dX8_grows_91 : decode cX8_grows 91 = .ok (.iinc 5 1, 3) := by decide +kernel
theorem dX8_grows_94 : decode cX8_grows 94 = .ok (.goto (-61), 3) := by decide +kernel
theorem dX8_grows_97 : decode cX8_grows 97 = .ok (.iinc 2 1, 3) := by decide +kernel
theorem dX8_grows_100 : decode cX8_grows 100 = .ok (.iinc 3 1, 3) := by decide +kernel
theorem dX8_grows_103 : decode cX8_grows 103 = .ok (.goto (-89), 3) := by decide +kernel
theorem dX8_grows_106 : decode cX8_grows 106 = .ok (.aload_n 0, 1) := by decide +kernel
theorem dX8_grows_107 : decode cX8_grows 107 = .ok (.getfield 40, 3) := by decide +kernel
theorem dX8_grows_110 : decode cX8_grows 110 = .ok (.iload_n 1, 1) := by decide +kernel
theorem dX8_grows_111 : decode cX8_grows 111 = .ok (.aload_n 0, 1) := by decide +kernel
theorem dX8_grows_112 : decode cX8_grows 112 = .ok (.aload_n 0, 1) := by decide +kernel
theorem dX8_grows_113 : decode cX8_grows 113 = .ok (.getfield 76, 3) := by decide +kernel
theorem dX8_grows_116 : decode cX8_grows 116 = .ok (.iconst 1, 1) := by decide +kernel
theorem dX8_grows_117 : decode cX8_grows 117 = .ok (.isub, 1) := by decide +kernel
theorem dX8_grows_118 : decode cX8_grows 118 = .ok (.invokevirtual 176, 3) := by decide +kernel
theorem dX8_grows_121 : decode cX8_grows 121 = .ok (.lastore, 1) := by decide +kernel
theorem dX8_grows_122 : decode cX8_grows 122 = .ok (.iinc 1 1, 3) := by decide +kernel
theorem dX8_grows_125 : decode cX8_grows 125 = .ok (.goto (-123), 3) := by decide +kernel
theorem dX8_grows_128 : decode cX8_grows 128 = .ok (.return_, 1) := by decide +kernel
set_option maxRecDepth 20000 in
theorem ggX8_below_X8_sum : GoodIn wsX8_below wsX8_sum := goodIn_r _ [7, 8, 9, 10, 11, 6, 12, 1, 13, 14, 15, 16, 17, 18, 19, 20, 21, 22, 23, 24, 25, 26, 27, 28, 29, 30, 31, 32, 33, 34, 35, 36, 37, 38, 39] (by decide +kernel) (by decide +kernel)
set_option maxRecDepth 20000 in
theorem gX8_below_X8_sum : GoodIn wsX8_below (wsV RX8 149 RX8 yX8_sum wsX8_sum) := goodIn_app (goodIn_of _ (by decide +kernel)) ggX8_below_X8_sum
theorem dX8_below_0 : decode cX8_below 0 = .ok (.lconst 0, 1) := by decide +kernel
theorem dX8_below_1 : decode cX8_below 1 = .ok (.lstore_n 1, 1) := by decide +kernel
theorem dX8_below_2 : decode cX8_below 2 = .ok (.iconst 0, 1) := by decide +kernel
theorem dX8_below_3 : decode cX8_below 3 = .ok (.istore_n 3, 1) := by decide +kernel
theorem dX8_below_4 : decode cX8_below 4 = .ok (.iload_n 3, 1) := by decide +kernel
theorem dX8_below_5 : decode cX8_below 5 = .ok (.aload_n 0, 1) := by decide +kernel
theorem dX8_below_6 : decode cX8_below 6 = .ok (.getfield 76, 3) := by decide +kernel
theorem dX8_below_9 : decode cX8_below 9 = .ok (.if_icmp .ge 25, 3) := by decide +kernel
theorem dX8_below_12 : decode cX8_below 12 = .ok (.lload_n 1, 1) := by decide +kernel
theorem dX8_below_13 : decode cX8_below 13 = .ok (.aload_n 0, 1) := by decide +kernel
theorem dX8_below_14 : decode cX8_below 14 = .ok (.getfield 40, 3) := by decide +kernel
theorem dX8_below_17 : decode cX8_below 17 = .ok (.iload_n 3, 1) := by decide +kernel
theorem dX8_below_18 : decode cX8_below 18 = .ok (.laload, 1) := by decide +kernel
theorem dX8_below_19 : decode cX8_below 19 = .ok (.aload_n 0, 1) := by decide +kernel
theorem dX8_below_20 : decode cX8_below 20 = .ok (.iload_n 3, 1) := by decide +kernel
theorem dX8_below_21 : decode cX8_below 21 = .ok (.invokevirtual 149, 3) := by decide +kernel
theorem dX8_below_24 : decode cX8_below 24 = .ok (.i2l, 1) := by decide +kernel
theorem dX8_below_25 : decode cX8_below 25 = .ok (.lmul, 1) := by decide +kernel
theorem dX8_below_26 : decode cX8_below 26 = .ok (.ladd, 1) := by decide +kernel
theorem dX8_below_27 : decode cX8_below 27 = .ok (.lstore_n 1, 1) := by decide +kernel
theorem dX8_below_28 : decode cX8_below 28 = .ok (.iinc 3 1, 3) := by decide +kernel
theorem dX8_below_31 : decode cX8_below 31 = .ok (.goto (-27), 3) := by decide +kernel
theorem dX8_below_34 : decode cX8_below 34 = .ok (.lload_n 1, 1) := by decide +kernel
theorem dX8_below_35 : decode cX8_below 35 = .ok (.lreturn, 1) := by decide +kernel
theorem dX8_common_0 : decode cX8_common 0 = .ok (.lload_n 0, 1) := by decide +kernel
theorem dX8_common_1 : decode cX8_common 1 = .ok (.lstore 4, 2) := by decide +kernel
theorem dX8_common_3 : decode cX8_common 3 = .ok (.lload_n 2, 1) := by decide +kernel
theorem dX8_common_4 : decode cX8_common 4 = .ok (.lstore 6, 2) := by decide +kernel
theorem dX8_common_6 : decode cX8_common 6 = .ok (.lload 6, 2) := by decide +kernel
theorem dX8_common_8 : decode cX8_common 8 = .ok (.lconst 0, 1) := by decide +kernel
theorem dX8_common_9 : decode cX8_common 9 = .ok (.lcmp, 1) := by decide +kernel
theorem dX8_common_10 : decode cX8_common 10 = .ok (.ifCond .eq 21, 3) := by decide +kernel
theorem dX8_common_13 : decode cX8_common 13 = .ok (.lload 4, 2) := by decide +kernel
theorem dX8_common_15 : decode cX8_common 15 = .ok (.lload 6, 2) := by decide +kernel
theorem dX8_common_17 : decode cX8_common 17 = .ok (.lrem, 1) := by decide +kernel
theorem dX8_common_18 : decode cX8_common 18 = .ok (.lstore 8, 2) := by decide +kernel
theorem dX8_common_20 : decode cX8_common 20 = .ok (.lload 6, 2) := by decide +kernel
theorem dX8_common_22 : decode cX8_common 22 = .ok (.lstore 4, 2) := by decide +kernel
theorem dX8_common_24 : decode cX8_common 24 = .ok (.lload 8, 2) := by decide +kernel
theorem dX8_common_26 : decode cX8_common 26 = .ok (.lstore 6, 2) := by decide +kernel
theorem dX8_common_28 : decode cX8_common 28 = .ok (.goto (-22), 3) := by decide +kernel
theorem dX8_common_31 : decode cX8_common 31 = .ok (.lload 4, 2) := by decide +kernel
theorem dX8_common_33 : decode cX8_common 33 = .ok (.lreturn, 1) := by decide +kernel
set_option maxRecDepth 20000 in
theorem ggX8_term_X8_common : GoodIn wsX8_term wsX8_common := goodIn_r _ [4] (by decide +kernel) (by decide +kernel)
set_option maxRecDepth 20000 in
theorem gX8_term_X8_common : GoodIn wsX8_term (va_wsS RX8 180 yX8_common wsX8_common) := goodIn_app (goodIn_of _ (by decide +kernel)) ggX8_term_X8_common
theorem dX8_term_0 : decode cX8_term 0 = .ok (.lload_n 0, 1) := by decide +kernel
theorem dX8_term_1 : decode cX8_term 1 = .ok (.lload_n 2, 1) := by decide +kernel
theorem dX8_term_2 : decode cX8_term 2 = .ok (.invokestatic 180, 3) := by decide +kernel
theorem dX8_term_5 : decode cX8_term 5 = .ok (.lstore 5, 2) := by decide +kernel
theorem dX8_term_7 : decode cX8_term 7 = .ok (.iload 4, 2) := by decide +kernel
theorem dX8_term_9 : decode cX8_term 9 = .ok (.ifCond .ne 10, 3) := by decide +kernel
theorem dX8_term_12 : decode cX8_term 12 = .ok (.lload_n 0, 1) := by decide +kernel
theorem dX8_term_13 : decode cX8_term 13 = .ok (.lload 5, 2) := by decide +kernel
theorem dX8_term_15 : decode cX8_term 15 = .ok (.ldiv, 1) := by decide +kernel
theorem dX8_term_16 : decode cX8_term 16 = .ok (.goto 7, 3) := by decide +kernel
theorem dX8_term_19 : decode cX8_term 19 = .ok (.lload_n 2, 1) := by decide +kernel
theorem dX8_term_20 : decode cX8_term 20 = .ok (.lload 5, 2) := by decide +kernel
theorem dX8_term_22 : decode cX8_term 22 = .ok (.ldiv, 1) := by decide +kernel
theorem dX8_term_23 : decode cX8_term 23 = .ok (.lreturn, 1) := by decide +kernel
set_option maxRecDepth 20000 in
theorem ggX8_chance_X8_isCell : GoodIn wsX8_chance wsX8_isCell := goodIn_r _ [7, 8, 9, 10, 6, 11, 41, 42, 43, 44, 45, 46, 47, 48, 49, 50, 51, 52, 53, 54, 55, 56, 57, 58, 59, 60, 61, 62, 63, 64, 65, 66] (by decide +kernel) (by decide +kernel)
set_option maxRecDepth 20000 in
theorem gX8_chance_X8_isCell : GoodIn wsX8_chance (wsV RX8 136 RX8 yX8_isCell wsX8_isCell) := goodIn_app (goodIn_of _ (by decide +kernel)) ggX8_chance_X8_isCell
set_option maxRecDepth 20000 in
theorem ggX8_chance_X8_isIn : GoodIn wsX8_chance wsX8_isIn := goodIn_r _ [11] (by decide +kernel) (by decide +kernel)
set_option maxRecDepth 20000 in
theorem gX8_chance_X8_isIn : GoodIn wsX8_chance (va_wsS RX8 98 yX8_isIn wsX8_isIn) := goodIn_app (goodIn_of _ (by decide +kernel)) ggX8_chance_X8_isIn
set_option maxRecDepth 20000 in
theorem ggX8_chance_X8_grows : GoodIn wsX8_chance wsX8_grows := goodIn_r _ [15, 8, 16, 17, 2, 18, 19, 20, 6, 21, 22, 23, 24, 25, 41, 42, 43, 44, 45, 46, 47, 48, 49, 50, 51, 52, 53, 54, 55, 56, 57, 58, 59, 60, 61, 62, 63, 64, 65, 66] (by decide +kernel) (by decide +kernel)
set_option maxRecDepth 20000 in
theorem gX8_chance_X8_grows : GoodIn wsX8_chance (wsV RX8 186 RX8 yX8_grows wsX8_grows) := goodIn_app (goodIn_of _ (by decide +kernel)) ggX8_chance_X8_grows
set_option maxRecDepth 20000 in
theorem ggX8_chance_X8_sum : GoodIn wsX8_chance wsX8_sum := goodIn_r _ [29, 30, 18, 19, 20, 6, 21, 8, 17, 41, 42, 43, 44, 45, 46, 47, 48, 49, 50, 51, 52, 53, 54, 55, 56, 57, 58, 59, 60, 61, 62, 63, 64, 65, 66] (by decide +kernel) (by decide +kernel)
set_option maxRecDepth 20000 in
theorem gX8_chance_X8_sum : GoodIn wsX8_chance (wsV RX8 149 RX8 yX8_sum wsX8_sum) := goodIn_app (goodIn_of _ (by decide +kernel)) ggX8_chance_X8_sum
set_option maxRecDepth 20000 in
theorem ggX8_chance_X8_below : GoodIn wsX8_chance wsX8_below := goodIn_r _ [34, 8, 2, 26, 27, 28, 6, 29, 30, 18, 19, 20, 21, 17, 41, 42, 43, 44, 45, 46, 47, 48, 49, 50, 51, 52, 53, 54, 55, 56, 57, 58, 59, 60, 61, 62, 63, 64, 65, 66] (by decide +kernel) (by decide +kernel)
set_option maxRecDepth 20000 in
theorem gX8_chance_X8_below : GoodIn wsX8_chance (wsV RX8 189 RX8 yX8_below wsX8_below) := goodIn_app (goodIn_of _ (by decide +kernel)) ggX8_chance_X8_below
set_option maxRecDepth 20000 in
theorem ggX8_chance_X8_term : GoodIn wsX8_chance wsX8_term := goodIn_r _ [37, 38, 39, 6, 40] (by decide +kernel) (by decide +kernel)
set_option maxRecDepth 20000 in
theorem gX8_chance_X8_term : GoodIn wsX8_chance (va_wsS RX8 193 yX8_term wsX8_term) := goodIn_app (goodIn_of _ (by decide +kernel)) ggX8_chance_X8_term
theorem dX8_chance_0 : decode cX8_chance 0 = .ok (.aload_n 0, 1) := by decide +kernel
theorem dX8_chance_1 : decode cX8_chance 1 = .ok (.iload_n 1, 1) := by decide +kernel
theorem dX8_chance_2 : decode cX8_chance 2 = .ok (.invokevirtual 136, 3) := by decide +kernel
theorem dX8_chance_5 : decode cX8_chance 5 = .ok (.ifCond .eq 12, 3) := by decide +kernel
theorem dX8_chance_8 : decode cX8_chance 8 = .ok (.iload_n 2, 1) := by decide +kernel
theorem dX8_chance_9 : decode cX8_chance 9 = .ok (.iconst 0, 1) := by decide +kernel
theorem dX8_chance_10 : decode cX8_chance 10 = .ok (.iconst 1, 1) := by decide +kernel
theorem dX8_chance_11 : decode cX8_chance 11 = .ok (.invokestatic 98, 3) := by decide +kernel
theorem dX8_chance_14 : decode cX8_chance 14 = .ok (.ifCond .ne 7, 3) := by decide +kernel
theorem dX8_chance_17 : decode cX8_chance 17 = .ok (.ldc2_w 184, 3) := by decide +kernel
theorem dX8_chance_20 : decode cX8_chance 20 = .ok (.lreturn, 1) := by decide +kernel
theorem dX8_chance_21 : decode cX8_chance 21 = .ok (.aload_n 0, 1) := by decide +kernel
theorem dX8_chance_22 : decode cX8_chance 22 = .ok (.invokevirtual 186, 3) := by decide +kernel
theorem dX8_chance_25 : decode cX8_chance 25 = .ok (.aload_n 0, 1) := by decide +kernel
theorem dX8_chance_26 : decode cX8_chance 26 = .ok (.getfield 40, 3) := by decide +kernel
theorem dX8_chance_29 : decode cX8_chance 29 = .ok (.iload_n 1, 1) := by decide +kernel
theorem dX8_chance_30 : decode cX8_chance 30 = .ok (.laload, 1) := by decide +kernel
theorem dX8_chance_31 : decode cX8_chance 31 = .ok (.aload_n 0, 1) := by decide +kernel
theorem dX8_chance_32 : decode cX8_chance 32 = .ok (.iload_n 1, 1) := by decide +kernel
theorem dX8_chance_33 : decode cX8_chance 33 = .ok (.invokevirtual 149, 3) := by decide +kernel
theorem dX8_chance_36 : decode cX8_chance 36 = .ok (.i2l, 1) := by decide +kernel
theorem dX8_chance_37 : decode cX8_chance 37 = .ok (.lmul, 1) := by decide +kernel
theorem dX8_chance_38 : decode cX8_chance 38 = .ok (.aload_n 0, 1) := by decide +kernel
theorem dX8_chance_39 : decode cX8_chance 39 = .ok (.invokevirtual 189, 3) := by decide +kernel
theorem dX8_chance_42 : decode cX8_chance 42 = .ok (.iload_n 2, 1) := by decide +kernel
theorem dX8_chance_43 : decode cX8_chance 43 = .ok (.invokestatic 193, 3) := by decide +kernel
theorem dX8_chance_46 : decode cX8_chance 46 = .ok (.lreturn, 1) := by decide +kernel
theorem dX8_crossing_0 : decode cX8_crossing 0 = .ok (.lconst 0, 1) := by decide +kernel
theorem dX8_crossing_1 : decode cX8_crossing 1 = .ok (.lstore 4, 2) := by decide +kernel
theorem dX8_crossing_3 : decode cX8_crossing 3 = .ok (.iconst 0, 1) := by decide +kernel
theorem dX8_crossing_4 : decode cX8_crossing 4 = .ok (.istore 6, 2) := by decide +kernel
theorem dX8_crossing_6 : decode cX8_crossing 6 = .ok (.iload 6, 2) := by decide +kernel
theorem dX8_crossing_8 : decode cX8_crossing 8 = .ok (.aload_n 0, 1) := by decide +kernel
theorem dX8_crossing_9 : decode cX8_crossing 9 = .ok (.getfield 76, 3) := by decide +kernel
theorem dX8_crossing_12 : decode cX8_crossing 12 = .ok (.if_icmp .ge 77, 3) := by decide +kernel
theorem dX8_crossing_15 : decode cX8_crossing 15 = .ok (.iconst 0, 1) := by decide +kernel
theorem dX8_crossing_16 : decode cX8_crossing 16 = .ok (.istore 7, 2) := by decide +kernel
theorem dX8_crossing_18 : decode cX8_crossing 18 = .ok (.iload 7, 2) := by decide +kernel
theorem dX8_crossing_20 : decode cX8_crossing 20 = .ok (.aload_n 0, 1) := by decide +kernel
theorem dX8_crossing_21 : decode cX8_crossing 21 = .ok (.getfield 76, 3) := by decide +kernel
theorem dX8_crossing_24 : decode cX8_crossing 24 = .ok (.if_icmp .ge 59, 3) := by decide +kernel
theorem dX8_crossing_27 : decode cX8_crossing 27 = .ok (.lload 4, 2) := by decide +kernel
theorem dX8_crossing_29 : decode cX8_crossing 29 = .ok (.iload_n 3, 1) := by decide +kernel
theorem dX8_crossing_30 : decode cX8_crossing 30 = .ok (.ifCond .ne 18, 3) := by decide +kernel
theorem dX8_crossing_33 : decode cX8_crossing 33 = .ok (.aload_n 1, 1) := by decide +kernel
theorem dX8_crossing_34 : decode cX8_crossing 34 = .ok (.iload_n 2, 1) := by decide +kernel
theorem dX8_crossing_35 : decode cX8_crossing 35 = .ok (.iload 6, 2) := by decide +kernel
theorem dX8_crossing_37 : decode cX8_crossing 37 = .ok (.iadd, 1) := by decide +kernel
theorem dX8_crossing_38 : decode cX8_crossing 38 = .ok (.iaload, 1) := by decide +kernel
theorem dX8_crossing_39 : decode cX8_crossing 39 = .ok (.aload_n 1, 1) := by decide +kernel
theorem dX8_crossing_40 : decode cX8_crossing 40 = .ok (.iload_n 2, 1) := by decide +kernel
theorem dX8_crossing_41 : decode cX8_crossing 41 = .ok (.iload 7, 2) := by decide +kernel
theorem dX8_crossing_43 : decode cX8_crossing 43 = .ok (.iadd, 1) := by decide +kernel
theorem dX8_crossing_44 : decode cX8_crossing 44 = .ok (.iaload, 1) := by decide +kernel
theorem dX8_crossing_45 : decode cX8_crossing 45 = .ok (.if_icmp .eq 28, 3) := by decide +kernel
theorem dX8_crossing_48 : decode cX8_crossing 48 = .ok (.aload_n 0, 1) := by decide +kernel
theorem dX8_crossing_49 : decode cX8_crossing 49 = .ok (.getfield 40, 3) := by decide +kernel
theorem dX8_crossing_52 : decode cX8_crossing 52 = .ok (.iload 6, 2) := by decide +kernel
theorem dX8_crossing_54 : decode cX8_crossing 54 = .ok (.laload, 1) := by decide +kernel
theorem dX8_crossing_55 : decode cX8_crossing 55 = .ok (.aload_n 0, 1) := by decide +kernel
theorem dX8_crossing_56 : decode cX8_crossing 56 = .ok (.getfield 13, 3) := by decide +kernel
theorem dX8_crossing_59 : decode cX8_crossing 59 = .ok (.bipush 6, 2) := by decide +kernel
theorem dX8_crossing_61 : decode cX8_crossing 61 = .ok (.iload 6, 2) := by decide +kernel
theorem dX8_crossing_63 : decode cX8_crossing 63 = .ok (.imul, 1) := by decide +kernel
theorem dX8_crossing_64 : decode cX8_crossing 64 = .ok (.iload 7, 2) := by decide +kernel
theorem dX8_crossing_66 : decode cX8_crossing 66 = .ok (.iadd, 1) := by decide +kernel
theorem dX8_crossing_67 : decode cX8_crossing 67 = .ok (.iaload, 1) := by decide +kernel
theorem dX8_crossing_68 : decode cX8_crossing 68 = .ok (.i2l, 1) := by decide +kernel
theorem dX8_crossing_69 : decode cX8_crossing 69 = .ok (.lmul, 1) := by decide +kernel
theorem dX8_crossing_70 : decode cX8_crossing 70 = .ok (.goto 4, 3) := by decide +kernel
theorem dX8_crossing_73 : decode cX8_crossing 73 = .ok (.lconst 0, 1) := by decide +kernel
theorem dX8_crossing_74 : decode cX8_crossing 74 = .ok (.ladd, 1) := by decide +kernel
theorem dX8_crossing_75 : decode cX8_crossing 75 = .ok (.lstore 4, 2) := by decide +kernel
theorem dX8_crossing_77 : decode cX8_crossing 77 = .ok (.iinc 7 1, 3) := by decide +kernel
theorem dX8_crossing_80 : decode cX8_crossing 80 = .ok (.goto (-62), 3) := by decide +kernel
theorem dX8_crossing_83 : decode cX8_crossing 83 = .ok (.iinc 6 1, 3) := by decide +kernel
theorem dX8_crossing_86 : decode cX8_crossing 86 = .ok (.goto (-80), 3) := by decide +kernel
theorem dX8_crossing_89 : decode cX8_crossing 89 = .ok (.lload 4, 2) := by decide +kernel
theorem dX8_crossing_91 : decode cX8_crossing 91 = .ok (.lreturn, 1) := by decide +kernel
set_option maxRecDepth 20000 in
theorem ggX8_expense_X8_crossing : GoodIn wsX8_expense wsX8_crossing := goodIn_r _ [9, 3, 4, 10, 20, 21, 22, 23, 24, 25, 26, 27, 28, 29, 30, 31, 32, 33, 34, 35, 36, 37, 38, 39, 40, 41, 42, 43, 44, 45] (by decide +kernel) (by decide +kernel)
set_option maxRecDepth 20000 in
theorem gX8_expense_X8_crossing : GoodIn wsX8_expense (wsV RX8 199 RX8 yX8_crossing wsX8_crossing) := goodIn_app (goodIn_of _ (by decide +kernel)) ggX8_expense_X8_crossing
set_option maxRecDepth 20000 in
theorem ggX8_expense_X8_sum : GoodIn wsX8_expense wsX8_sum := goodIn_r _ [14, 15, 16, 17, 18, 8, 19, 3, 10, 20, 21, 22, 23, 24, 25, 26, 27, 28, 29, 30, 31, 32, 33, 34, 35, 36, 37, 38, 39, 40, 41, 42, 43, 44, 45] (by decide +kernel) (by decide +kernel)
set_option maxRecDepth 20000 in
theorem gX8_expense_X8_sum : GoodIn wsX8_expense (wsV RX8 149 RX8 yX8_sum wsX8_sum) := goodIn_app (goodIn_of _ (by decide +kernel)) ggX8_expense_X8_sum
theorem dX8_expense_0 : decode cX8_expense 0 = .ok (.ldc2_w 197, 3) := by decide +kernel
theorem dX8_expense_3 : decode cX8_expense 3 = .ok (.aload_n 0, 1) := by decide +kernel
theorem dX8_expense_4 : decode cX8_expense 4 = .ok (.getfield 16, 3) := by decide +kernel
theorem dX8_expense_7 : decode cX8_expense 7 = .ok (.iconst 2, 1) := by decide +kernel
theorem dX8_expense_8 : decode cX8_expense 8 = .ok (.iaload, 1) := by decide +kernel
theorem dX8_expense_9 : decode cX8_expense 9 = .ok (.i2l, 1) := by decide +kernel
theorem dX8_expense_10 : decode cX8_expense 10 = .ok (.lmul, 1) := by decide +kernel
theorem dX8_expense_11 : decode cX8_expense 11 = .ok (.aload_n 0, 1) := by decide +kernel
theorem dX8_expense_12 : decode cX8_expense 12 = .ok (.aload_n 1, 1) := by decide +kernel
theorem dX8_expense_13 : decode cX8_expense 13 = .ok (.iload_n 2, 1) := by decide +kernel
theorem dX8_expense_14 : decode cX8_expense 14 = .ok (.iconst 0, 1) := by decide +kernel
theorem dX8_expense_15 : decode cX8_expense 15 = .ok (.invokevirtual 199, 3) := by decide +kernel
theorem dX8_expense_18 : decode cX8_expense 18 = .ok (.lmul, 1) := by decide +kernel
theorem dX8_expense_19 : decode cX8_expense 19 = .ok (.lstore_n 3, 1) := by decide +kernel
theorem dX8_expense_20 : decode cX8_expense 20 = .ok (.iconst 0, 1) := by decide +kernel
theorem dX8_expense_21 : decode cX8_expense 21 = .ok (.istore 5, 2) := by decide +kernel
theorem dX8_expense_23 : decode cX8_expense 23 = .ok (.iload 5, 2) := by decide +kernel
theorem dX8_expense_25 : decode cX8_expense 25 = .ok (.aload_n 0, 1) := by decide +kernel
theorem dX8_expense_26 : decode cX8_expense 26 = .ok (.getfield 76, 3) := by decide +kernel
theorem dX8_expense_29 : decode cX8_expense 29 = .ok (.if_icmp .ge 80, 3) := by decide +kernel
theorem dX8_expense_32 : decode cX8_expense 32 = .ok (.iconst 0, 1) := by decide +kernel
theorem dX8_expense_33 : decode cX8_expense 33 = .ok (.istore 6, 2) := by decide +kernel
theorem dX8_expense_35 : decode cX8_expense 35 = .ok (.iload 6, 2) := by decide +kernel
theorem dX8_expense_37 : decode cX8_expense 37 = .ok (.aload_n 0, 1) := by decide +kernel
theorem dX8_expense_38 : decode cX8_expense 38 = .ok (.getfield 76, 3) := by decide +kernel
theorem dX8_expense_41 : decode cX8_expense 41 = .ok (.if_icmp .ge 62, 3) := by decide +kernel
theorem dX8_expense_44 : decode cX8_expense 44 = .ok (.lload_n 3, 1) := by decide +kernel
theorem dX8_expense_45 : decode cX8_expense 45 = .ok (.aload_n 1, 1) := by decide +kernel
theorem dX8_expense_46 : decode cX8_expense 46 = .ok (.iload_n 2, 1) := by decide +kernel
theorem dX8_expense_47 : decode cX8_expense 47 = .ok (.iload 5, 2) := by decide +kernel
theorem dX8_expense_49 : decode cX8_expense 49 = .ok (.iadd, 1) := by decide +kernel
theorem dX8_expense_50 : decode cX8_expense 50 = .ok (.iaload, 1) := by decide +kernel
theorem dX8_expense_51 : decode cX8_expense 51 = .ok (.aload_n 1, 1) := by decide +kernel
theorem dX8_expense_52 : decode cX8_expense 52 = .ok (.iload_n 2, 1) := by decide +kernel
theorem dX8_expense_53 : decode cX8_expense 53 = .ok (.iload 6, 2) := by decide +kernel
theorem dX8_expense_55 : decode cX8_expense 55 = .ok (.iadd, 1) := by decide +kernel
theorem dX8_expense_56 : decode cX8_expense 56 = .ok (.iaload, 1) := by decide +kernel
theorem dX8_expense_57 : decode cX8_expense 57 = .ok (.if_icmp .ne 37, 3) := by decide +kernel
theorem dX8_expense_60 : decode cX8_expense 60 = .ok (.aload_n 0, 1) := by decide +kernel
theorem dX8_expense_61 : decode cX8_expense 61 = .ok (.getfield 40, 3) := by decide +kernel
theorem dX8_expense_64 : decode cX8_expense 64 = .ok (.iload 5, 2) := by decide +kernel
theorem dX8_expense_66 : decode cX8_expense 66 = .ok (.laload, 1) := by decide +kernel
theorem dX8_expense_67 : decode cX8_expense 67 = .ok (.aload_n 0, 1) := by decide +kernel
theorem dX8_expense_68 : decode cX8_expense 68 = .ok (.iload 5, 2) := by decide +kernel
theorem dX8_expense_70 : decode cX8_expense 70 = .ok (.invokevirtual 149, 3) := by decide +kernel
theorem dX8_expense_73 : decode cX8_expense 73 = .ok (.i2l, 1) := by decide +kernel
theorem dX8_expense_74 : decode cX8_expense 74 = .ok (.lmul, 1) := by decide +kernel
theorem dX8_expense_75 : decode cX8_expense 75 = .ok (.aload_n 0, 1) := by decide +kernel
theorem dX8_expense_76 : decode cX8_expense 76 = .ok (.getfield 16, 3) := by decide +kernel
theorem dX8_expense_79 : decode cX8_expense 79 = .ok (.iconst 1, 1) := by decide +kernel
theorem dX8_expense_80 : decode cX8_expense 80 = .ok (.iaload, 1) := by decide +kernel
theorem dX8_expense_81 : decode cX8_expense 81 = .ok (.i2l, 1) := by decide +kernel
theorem dX8_expense_82 : decode cX8_expense 82 = .ok (.lmul, 1) := by decide +kernel
theorem dX8_expense_83 : decode cX8_expense 83 = .ok (.aload_n 0, 1) := by decide +kernel
theorem dX8_expense_84 : decode cX8_expense 84 = .ok (.getfield 16, 3) := by decide +kernel
theorem dX8_expense_87 : decode cX8_expense 87 = .ok (.iconst 3, 1) := by decide +kernel
theorem dX8_expense_88 : decode cX8_expense 88 = .ok (.iaload, 1) := by decide +kernel
theorem dX8_expense_89 : decode cX8_expense 89 = .ok (.i2l, 1) := by decide +kernel
theorem dX8_expense_90 : decode cX8_expense 90 = .ok (.lmul, 1) := by decide +kernel
theorem dX8_expense_91 : decode cX8_expense 91 = .ok (.goto 4, 3) := by decide +kernel
theorem dX8_expense_94 : decode cX8_expense 94 = .ok (.lconst 0, 1) := by decide +kernel
theorem dX8_expense_95 : decode cX8_expense 95 = .ok (.ladd, 1) := by decide +kernel
theorem dX8_expense_96 : decode cX8_expense 96 = .ok (.lstore_n 3, 1) := by decide +kernel
theorem dX8_expense_97 : decode cX8_expense 97 = .ok (.iinc 6 1, 3) := by decide +kernel
theorem dX8_expense_100 : decode cX8_expense 100 = .ok (.goto (-65), 3) := by decide +kernel
theorem dX8_expense_103 : decode cX8_expense 103 = .ok (.iinc 5 1, 3) := by decide +kernel
theorem dX8_expense_106 : decode cX8_expense 106 = .ok (.goto (-83), 3) := by decide +kernel
theorem dX8_expense_109 : decode cX8_expense 109 = .ok (.lload_n 3, 1) := by decide +kernel
theorem dX8_expense_110 : decode cX8_expense 110 = .ok (.lreturn, 1) := by decide +kernel
set_option maxRecDepth 20000 in
theorem ggX8_mean_X8_isIn : GoodIn wsX8_mean wsX8_isIn := goodIn_r _ [8] (by decide +kernel) (by decide +kernel)
set_option maxRecDepth 20000 in
theorem gX8_mean_X8_isIn : GoodIn wsX8_mean (va_wsS RX8 98 yX8_isIn wsX8_isIn) := goodIn_app (goodIn_of _ (by decide +kernel)) ggX8_mean_X8_isIn
set_option maxRecDepth 20000 in
theorem ggX8_mean_X8_grows : GoodIn wsX8_mean wsX8_grows := goodIn_r _ [12, 13, 14, 15, 16, 17, 18, 19, 7, 20, 21, 22, 23, 24, 48, 49, 50, 51, 52, 53, 54, 55, 56, 57, 58, 59, 60, 61, 62, 63, 64, 65, 66, 67, 68, 69, 70, 71, 72, 73] (by decide +kernel) (by decide +kernel)
set_option maxRecDepth 20000 in
theorem gX8_mean_X8_grows : GoodIn wsX8_mean (wsV RX8 186 RX8 yX8_grows wsX8_grows) := goodIn_app (goodIn_of _ (by decide +kernel)) ggX8_mean_X8_grows
set_option maxRecDepth 20000 in
theorem ggX8_mean_X8_below : GoodIn wsX8_mean wsX8_below := goodIn_r _ [28, 13, 16, 29, 30, 31, 7, 32, 2, 17, 18, 19, 20, 15, 48, 49, 50, 51, 52, 53, 54, 55, 56, 57, 58, 59, 60, 61, 62, 63, 64, 65, 66, 67, 68, 69, 70, 71, 72, 73] (by decide +kernel) (by decide +kernel)
set_option maxRecDepth 20000 in
theorem gX8_mean_X8_below : GoodIn wsX8_mean (wsV RX8 189 RX8 yX8_below wsX8_below) := goodIn_app (goodIn_of _ (by decide +kernel)) ggX8_mean_X8_below
set_option maxRecDepth 20000 in
theorem ggX8_mean_X8_crossing : GoodIn wsX8_mean wsX8_crossing := goodIn_r _ [36, 13, 16, 15, 48, 49, 50, 51, 52, 53, 54, 55, 56, 57, 58, 59, 60, 61, 62, 63, 64, 65, 66, 67, 68, 69, 70, 71, 72, 73] (by decide +kernel) (by decide +kernel)
set_option maxRecDepth 20000 in
theorem gX8_mean_X8_crossing : GoodIn wsX8_mean (wsV RX8 199 RX8 yX8_crossing wsX8_crossing) := goodIn_app (goodIn_of _ (by decide +kernel)) ggX8_mean_X8_crossing
set_option maxRecDepth 20000 in
theorem ggX8_mean_X8_term : GoodIn wsX8_mean wsX8_term := goodIn_r _ [39, 40, 41, 7, 42] (by decide +kernel) (by decide +kernel)
set_option maxRecDepth 20000 in
theorem gX8_mean_X8_term : GoodIn wsX8_mean (va_wsS RX8 193 yX8_term wsX8_term) := goodIn_app (goodIn_of _ (by decide +kernel)) ggX8_mean_X8_term
set_option maxRecDepth 20000 in
theorem ggX8_mean_X8_expense : GoodIn wsX8_mean wsX8_expense := goodIn_r _ [46, 3, 47, 13, 16, 33, 34, 35, 7, 36, 15, 29, 30, 31, 32, 2, 17, 18, 19, 20, 48, 49, 50, 51, 52, 53, 54, 55, 56, 57, 58, 59, 60, 61, 62, 63, 64, 65, 66, 67, 68, 69, 70, 71, 72, 73] (by decide +kernel) (by decide +kernel)
set_option maxRecDepth 20000 in
theorem gX8_mean_X8_expense : GoodIn wsX8_mean (wsV RX8 203 RX8 yX8_expense wsX8_expense) := goodIn_app (goodIn_of _ (by decide +kernel)) ggX8_mean_X8_expense
theorem dX8_mean_0 : decode cX8_mean 0 = .ok (.iload_n 1, 1) := by decide +kernel
theorem dX8_mean_1 : decode cX8_mean 1 = .ok (.iconst 0, 1) := by decide +kernel
theorem dX8_mean_2 : decode cX8_mean 2 = .ok (.iconst 3, 1) := by decide +kernel
theorem dX8_mean_3 : decode cX8_mean 3 = .ok (.invokestatic 98, 3) := by decide +kernel
theorem dX8_mean_6 : decode cX8_mean 6 = .ok (.ifCond .eq 12, 3) := by decide +kernel
theorem dX8_mean_9 : decode cX8_mean 9 = .ok (.iload_n 2, 1) := by decide +kernel
theorem dX8_mean_10 : decode cX8_mean 10 = .ok (.iconst 0, 1) := by decide +kernel
theorem dX8_mean_11 : decode cX8_mean 11 = .ok (.iconst 1, 1) := by decide +kernel
theorem dX8_mean_12 : decode cX8_mean 12 = .ok (.invokestatic 98, 3) := by decide +kernel
theorem dX8_mean_15 : decode cX8_mean 15 = .ok (.ifCond .ne 7, 3) := by decide +kernel
theorem dX8_mean_18 : decode cX8_mean 18 = .ok (.ldc2_w 184, 3) := by decide +kernel
theorem dX8_mean_21 : decode cX8_mean 21 = .ok (.lreturn, 1) := by decide +kernel
theorem dX8_mean_22 : decode cX8_mean 22 = .ok (.aload_n 0, 1) := by decide +kernel
theorem dX8_mean_23 : decode cX8_mean 23 = .ok (.invokevirtual 186, 3) := by decide +kernel
theorem dX8_mean_26 : decode cX8_mean 26 = .ok (.aload_n 0, 1) := by decide +kernel
theorem dX8_mean_27 : decode cX8_mean 27 = .ok (.invokevirtual 189, 3) := by decide +kernel
theorem dX8_mean_30 : decode cX8_mean 30 = .ok (.lstore_n 3, 1) := by decide +kernel
theorem dX8_mean_31 : decode cX8_mean 31 = .ok (.iload_n 1, 1) := by decide +kernel
theorem dX8_mean_32 : decode cX8_mean 32 = .ok (.iconst 2, 1) := by decide +kernel
theorem dX8_mean_33 : decode cX8_mean 33 = .ok (.if_icmp .ge 29, 3) := by decide +kernel
theorem dX8_mean_36 : decode cX8_mean 36 = .ok (.aload_n 0, 1) := by decide +kernel
theorem dX8_mean_37 : decode cX8_mean 37 = .ok (.aload_n 0, 1) := by decide +kernel
theorem dX8_mean_38 : decode cX8_mean 38 = .ok (.getfield 19, 3) := by decide +kernel
theorem dX8_mean_41 : decode cX8_mean 41 = .ok (.bipush 6, 2) := by decide +kernel
theorem dX8_mean_43 : decode cX8_mean 43 = .ok (.iload_n 1, 1) := by decide +kernel
theorem dX8_mean_44 : decode cX8_mean 44 = .ok (.iconst 1, 1) := by decide +kernel
theorem dX8_mean_45 : decode cX8_mean 45 = .ok (.if_icmp .ne 7, 3) := by decide +kernel
theorem dX8_mean_48 : decode cX8_mean 48 = .ok (.iconst 1, 1) := by decide +kernel
theorem dX8_mean_49 : decode cX8_mean 49 = .ok (.goto 4, 3) := by decide +kernel
theorem dX8_mean_52 : decode cX8_mean 52 = .ok (.iconst 0, 1) := by decide +kernel
theorem dX8_mean_53 : decode cX8_mean 53 = .ok (.invokevirtual 199, 3) := by decide +kernel
theorem dX8_mean_56 : decode cX8_mean 56 = .ok (.lload_n 3, 1) := by decide +kernel
theorem dX8_mean_57 : decode cX8_mean 57 = .ok (.iload_n 2, 1) := by decide +kernel
theorem dX8_mean_58 : decode cX8_mean 58 = .ok (.invokestatic 193, 3) := by decide +kernel
theorem dX8_mean_61 : decode cX8_mean 61 = .ok (.lreturn, 1) := by decide +kernel
theorem dX8_mean_62 : decode cX8_mean 62 = .ok (.iload_n 1, 1) := by decide +kernel
theorem dX8_mean_63 : decode cX8_mean 63 = .ok (.iconst 3, 1) := by decide +kernel
theorem dX8_mean_64 : decode cX8_mean 64 = .ok (.if_icmp .ne 23, 3) := by decide +kernel
theorem dX8_mean_67 : decode cX8_mean 67 = .ok (.aload_n 0, 1) := by decide +kernel
theorem dX8_mean_68 : decode cX8_mean 68 = .ok (.aload_n 0, 1) := by decide +kernel
theorem dX8_mean_69 : decode cX8_mean 69 = .ok (.getfield 19, 3) := by decide +kernel
theorem dX8_mean_72 : decode cX8_mean 72 = .ok (.bipush 6, 2) := by decide +kernel
theorem dX8_mean_74 : decode cX8_mean 74 = .ok (.invokevirtual 203, 3) := by decide +kernel
theorem dX8_mean_77 : decode cX8_mean 77 = .ok (.ldc2_w 197, 3) := by decide +kernel
theorem dX8_mean_80 : decode cX8_mean 80 = .ok (.lload_n 3, 1) := by decide +kernel
theorem dX8_mean_81 : decode cX8_mean 81 = .ok (.lmul, 1) := by decide +kernel
theorem dX8_mean_82 : decode cX8_mean 82 = .ok (.iload_n 2, 1) := by decide +kernel
theorem dX8_mean_83 : decode cX8_mean 83 = .ok (.invokestatic 193, 3) := by decide +kernel
theorem dX8_mean_86 : decode cX8_mean 86 = .ok (.lreturn, 1) := by decide +kernel
theorem dX8_mean_87 : decode cX8_mean 87 = .ok (.aload_n 0, 1) := by decide +kernel
theorem dX8_mean_88 : decode cX8_mean 88 = .ok (.getfield 19, 3) := by decide +kernel
theorem dX8_mean_91 : decode cX8_mean 91 = .ok (.bipush 12, 2) := by decide +kernel
theorem dX8_mean_93 : decode cX8_mean 93 = .ok (.iaload, 1) := by decide +kernel
theorem dX8_mean_94 : decode cX8_mean 94 = .ok (.tableswitch 83 0 2 #[26, 43, 69], 26) := by decide +kernel
theorem dX8_mean_120 : decode cX8_mean 120 = .ok (.aload_n 0, 1) := by decide +kernel
theorem dX8_mean_121 : decode cX8_mean 121 = .ok (.aload_n 0, 1) := by decide +kernel
theorem dX8_mean_122 : decode cX8_mean 122 = .ok (.getfield 19, 3) := by decide +kernel
theorem dX8_mean_125 : decode cX8_mean 125 = .ok (.bipush 6, 2) := by decide +kernel
theorem dX8_mean_127 : decode cX8_mean 127 = .ok (.iconst 0, 1) := by decide +kernel
theorem dX8_mean_128 : decode cX8_mean 128 = .ok (.invokevirtual 199, 3) := by decide +kernel
theorem dX8_mean_131 : decode cX8_mean 131 = .ok (.lload_n 3, 1) := by decide +kernel
theorem dX8_mean_132 : decode cX8_mean 132 = .ok (.iload_n 2, 1) := by decide +kernel
theorem dX8_mean_133 : decode cX8_mean 133 = .ok (.invokestatic 193, 3) := by decide +kernel
theorem dX8_mean_136 : decode cX8_mean 136 = .ok (.lreturn, 1) := by decide +kernel
theorem dX8_mean_137 : decode cX8_mean 137 = .ok (.aload_n 0, 1) := by decide +kernel
theorem dX8_mean_138 : decode cX8_mean 138 = .ok (.aload_n 0, 1) := by decide +kernel
theorem dX8_mean_139 : decode cX8_mean 139 = .ok (.getfield 19, 3) := by decide +kernel
theorem dX8_mean_142 : decode cX8_mean 142 = .ok (.bipush 6, 2) := by decide +kernel
theorem dX8_mean_144 : decode cX8_mean 144 = .ok (.iconst 1, 1) := by decide +kernel
theorem dX8_mean_145 : decode cX8_mean 145 = .ok (.invokevirtual 199, 3) := by decide +kernel
theorem dX8_mean_148 : decode cX8_mean 148 = .ok (.lload_n 3, 1) := by decide +kernel
theorem dX8_mean_149 : decode cX8_mean 149 = .ok (.aload_n 0, 1) := by decide +kernel
theorem dX8_mean_150 : decode cX8_mean 150 = .ok (.getfield 19, 3) := by decide +kernel
theorem dX8_mean_153 : decode cX8_mean 153 = .ok (.bipush 13, 2) := by decide +kernel
theorem dX8_mean_155 : decode cX8_mean 155 = .ok (.iaload, 1) := by decide +kernel
theorem dX8_mean_156 : decode cX8_mean 156 = .ok (.i2l, 1) := by decide +kernel
theorem dX8_mean_157 : decode cX8_mean 157 = .ok (.lmul, 1) := by decide +kernel
theorem dX8_mean_158 : decode cX8_mean 158 = .ok (.iload_n 2, 1) := by decide +kernel
theorem dX8_mean_159 : decode cX8_mean 159 = .ok (.invokestatic 193, 3) := by decide +kernel
theorem dX8_mean_162 : decode cX8_mean 162 = .ok (.lreturn, 1) := by decide +kernel
theorem dX8_mean_163 : decode cX8_mean 163 = .ok (.lconst 1, 1) := by decide +kernel
theorem dX8_mean_164 : decode cX8_mean 164 = .ok (.aload_n 0, 1) := by decide +kernel
theorem dX8_mean_165 : decode cX8_mean 165 = .ok (.getfield 19, 3) := by decide +kernel
theorem dX8_mean_168 : decode cX8_mean 168 = .ok (.bipush 13, 2) := by decide +kernel
theorem dX8_mean_170 : decode cX8_mean 170 = .ok (.iaload, 1) := by decide +kernel
theorem dX8_mean_171 : decode cX8_mean 171 = .ok (.i2l, 1) := by decide +kernel
theorem dX8_mean_172 : decode cX8_mean 172 = .ok (.iload_n 2, 1) := by decide +kernel
theorem dX8_mean_173 : decode cX8_mean 173 = .ok (.invokestatic 193, 3) := by decide +kernel
theorem dX8_mean_176 : decode cX8_mean 176 = .ok (.lreturn, 1) := by decide +kernel
theorem dX8_mean_177 : decode cX8_mean 177 = .ok (.ldc2_w 207, 3) := by decide +kernel
theorem dX8_mean_180 : decode cX8_mean 180 = .ok (.lreturn, 1) := by decide +kernel
theorem dX8_goesOn_0 : decode cX8_goesOn 0 = .ok (.aload_n 0, 1) := by decide +kernel
theorem dX8_goesOn_1 : decode cX8_goesOn 1 = .ok (.getfield 76, 3) := by decide +kernel
theorem dX8_goesOn_4 : decode cX8_goesOn 4 = .ok (.iconst 1, 1) := by decide +kernel
theorem dX8_goesOn_5 : decode cX8_goesOn 5 = .ok (.isub, 1) := by decide +kernel
theorem dX8_goesOn_6 : decode cX8_goesOn 6 = .ok (.istore_n 1, 1) := by decide +kernel
theorem dX8_goesOn_7 : decode cX8_goesOn 7 = .ok (.iload_n 1, 1) := by decide +kernel
theorem dX8_goesOn_8 : decode cX8_goesOn 8 = .ok (.ifCond .le 92, 3) := by decide +kernel
theorem dX8_goesOn_11 : decode cX8_goesOn 11 = .ok (.iconst 0, 1) := by decide +kernel
theorem dX8_goesOn_12 : decode cX8_goesOn 12 = .ok (.istore_n 2, 1) := by decide +kernel
theorem dX8_goesOn_13 : decode cX8_goesOn 13 = .ok (.iconst 0, 1) := by decide +kernel
theorem dX8_goesOn_14 : decode cX8_goesOn 14 = .ok (.istore_n 3, 1) := by decide +kernel
theorem dX8_goesOn_15 : decode cX8_goesOn 15 = .ok (.iload_n 3, 1) := by decide +kernel
theorem dX8_goesOn_16 : decode cX8_goesOn 16 = .ok (.iload_n 1, 1) := by decide +kernel
theorem dX8_goesOn_17 : decode cX8_goesOn 17 = .ok (.if_icmp .ge 30, 3) := by decide +kernel
theorem dX8_goesOn_20 : decode cX8_goesOn 20 = .ok (.aload_n 0, 1) := by decide +kernel
theorem dX8_goesOn_21 : decode cX8_goesOn 21 = .ok (.getfield 47, 3) := by decide +kernel
theorem dX8_goesOn_24 : decode cX8_goesOn 24 = .ok (.iload_n 3, 1) := by decide +kernel
theorem dX8_goesOn_25 : decode cX8_goesOn 25 = .ok (.iaload, 1) := by decide +kernel
theorem dX8_goesOn_26 : decode cX8_goesOn 26 = .ok (.iload_n 2, 1) := by decide +kernel
theorem dX8_goesOn_27 : decode cX8_goesOn 27 = .ok (.if_icmp .le 12, 3) := by decide +kernel
theorem dX8_goesOn_30 : decode cX8_goesOn 30 = .ok (.aload_n 0, 1) := by decide +kernel
theorem dX8_goesOn_31 : decode cX8_goesOn 31 = .ok (.getfield 47, 3) := by decide +kernel
theorem dX8_goesOn_34 : decode cX8_goesOn 34 = .ok (.iload_n 3, 1) := by decide +kernel
theorem dX8_goesOn_35 : decode cX8_goesOn 35 = .ok (.iaload, 1) := by decide +kernel
theorem dX8_goesOn_36 : decode cX8_goesOn 36 = .ok (.goto 4, 3) := by decide +kernel
theorem dX8_goesOn_39 : decode cX8_goesOn 39 = .ok (.iload_n 2, 1) := by decide +kernel
theorem dX8_goesOn_40 : decode cX8_goesOn 40 = .ok (.istore_n 2, 1) := by decide +kernel
theorem dX8_goesOn_41 : decode cX8_goesOn 41 = .ok (.iinc 3 1, 3) := by decide +kernel
theorem dX8_goesOn_44 : decode cX8_goesOn 44 = .ok (.goto (-29), 3) := by decide +kernel
theorem dX8_goesOn_47 : decode cX8_goesOn 47 = .ok (.aload_n 0, 1) := by decide +kernel
theorem dX8_goesOn_48 : decode cX8_goesOn 48 = .ok (.getfield 47, 3) := by decide +kernel
theorem dX8_goesOn_51 : decode cX8_goesOn 51 = .ok (.iload_n 1, 1) := by decide +kernel
theorem dX8_goesOn_52 : decode cX8_goesOn 52 = .ok (.iaload, 1) := by decide +kernel
theorem dX8_goesOn_53 : decode cX8_goesOn 53 = .ok (.iload_n 2, 1) := by decide +kernel
theorem dX8_goesOn_54 : decode cX8_goesOn 54 = .ok (.if_icmp .gt 40, 3) := by decide +kernel
theorem dX8_goesOn_57 : decode cX8_goesOn 57 = .ok (.aload_n 0, 1) := by decide +kernel
theorem dX8_goesOn_58 : decode cX8_goesOn 58 = .ok (.getfield 47, 3) := by decide +kernel
theorem dX8_goesOn_61 : decode cX8_goesOn 61 = .ok (.iload_n 1, 1) := by decide +kernel
theorem dX8_goesOn_62 : decode cX8_goesOn 62 = .ok (.dup2, 1) := by decide +kernel
theorem dX8_goesOn_63 : decode cX8_goesOn 63 = .ok (.iaload, 1) := by decide +kernel
theorem dX8_goesOn_64 : decode cX8_goesOn 64 = .ok (.iconst 1, 1) := by decide +kernel
theorem dX8_goesOn_65 : decode cX8_goesOn 65 = .ok (.iadd, 1) := by decide +kernel
theorem dX8_goesOn_66 : decode cX8_goesOn 66 = .ok (.iastore, 1) := by decide +kernel
theorem dX8_goesOn_67 : decode cX8_goesOn 67 = .ok (.iload_n 1, 1) := by decide +kernel
theorem dX8_goesOn_68 : decode cX8_goesOn 68 = .ok (.iconst 1, 1) := by decide +kernel
theorem dX8_goesOn_69 : decode cX8_goesOn 69 = .ok (.iadd, 1) := by decide +kernel
theorem dX8_goesOn_70 : decode cX8_goesOn 70 = .ok (.istore_n 3, 1) := by decide +kernel
theorem dX8_goesOn_71 : decode cX8_goesOn 71 = .ok (.iload_n 3, 1) := by decide +kernel
theorem dX8_goesOn_72 : decode cX8_goesOn 72 = .ok (.aload_n 0, 1) := by decide +kernel
theorem dX8_goesOn_73 : decode cX8_goesOn 73 = .ok (.getfield 76, 3) := by decide +kernel
theorem dX8_goesOn_76 : decode cX8_goesOn 76 = .ok (.if_icmp .ge 16, 3) := by decide +kernel
theorem dX8_goesOn_79 : decode cX8_goesOn 79 = .ok (.aload_n 0, 1) := by decide +kernel
theorem dX8_goesOn_80 : decode cX8_goesOn 80 = .ok (.getfield 47, 3) := by decide +kernel
theorem dX8_goesOn_83 : decode cX8_goesOn 83 = .ok (.iload_n 3, 1) := by decide +kernel
theorem dX8_goesOn_84 : decode cX8_goesOn 84 = .ok (.iconst 0, 1) := by decide +kernel
theorem dX8_goesOn_85 : decode cX8_goesOn 85 = .ok (.iastore, 1) := by decide +kernel
theorem dX8_goesOn_86 : decode cX8_goesOn 86 = .ok (.iinc 3 1, 3) := by decide +kernel
theorem dX8_goesOn_89 : decode cX8_goesOn 89 = .ok (.goto (-18), 3) := by decide +kernel
theorem dX8_goesOn_92 : decode cX8_goesOn 92 = .ok (.iconst 1, 1) := by decide +kernel
theorem dX8_goesOn_93 : decode cX8_goesOn 93 = .ok (.ireturn, 1) := by decide +kernel
theorem dX8_goesOn_94 : decode cX8_goesOn 94 = .ok (.iinc 1 (-1), 3) := by decide +kernel
theorem dX8_goesOn_97 : decode cX8_goesOn 97 = .ok (.goto (-90), 3) := by decide +kernel
theorem dX8_goesOn_100 : decode cX8_goesOn 100 = .ok (.iconst 0, 1) := by decide +kernel
theorem dX8_goesOn_101 : decode cX8_goesOn 101 = .ok (.ireturn, 1) := by decide +kernel
set_option maxRecDepth 20000 in
theorem ggX8_finds_X8_grows : GoodIn wsX8_finds wsX8_grows := goodIn_r _ [7, 8, 9, 10, 11, 12, 13, 14, 6, 15, 16, 17, 18, 19, 39, 40, 41, 42, 43, 44, 45, 46, 47, 48, 49, 50, 51, 52, 53, 54, 55, 56, 57, 58, 59, 60, 61, 62, 63, 64] (by decide +kernel) (by decide +kernel)
set_option maxRecDepth 20000 in
theorem gX8_finds_X8_grows : GoodIn wsX8_finds (wsV RX8 186 RX8 yX8_grows wsX8_grows) := goodIn_app (goodIn_of _ (by decide +kernel)) ggX8_finds_X8_grows
set_option maxRecDepth 20000 in
theorem ggX8_finds_X8_expense : GoodIn wsX8_finds wsX8_expense := goodIn_r _ [23, 24, 25, 8, 11, 26, 27, 28, 6, 29, 10, 30, 31, 32, 33, 34, 12, 13, 14, 15, 39, 40, 41, 42, 43, 44, 45, 46, 47, 48, 49, 50, 51, 52, 53, 54, 55, 56, 57, 58, 59, 60, 61, 62, 63, 64] (by decide +kernel) (by decide +kernel)
set_option maxRecDepth 20000 in
theorem gX8_finds_X8_expense : GoodIn wsX8_finds (wsV RX8 203 RX8 yX8_expense wsX8_expense) := goodIn_app (goodIn_of _ (by decide +kernel)) ggX8_finds_X8_expense
set_option maxRecDepth 20000 in
theorem ggX8_finds_X8_goesOn : GoodIn wsX8_finds wsX8_goesOn := goodIn_r _ [38, 8, 1, 39, 40, 41, 42, 43, 44, 45, 46, 47, 48, 49, 50, 51, 52, 53, 54, 55, 56, 57, 58, 59, 60, 61, 62, 63, 64] (by decide +kernel) (by decide +kernel)
set_option maxRecDepth 20000 in
theorem gX8_finds_X8_goesOn : GoodIn wsX8_finds (wsV RX8 209 RX8 yX8_goesOn wsX8_goesOn) := goodIn_app (goodIn_of _ (by decide +kernel)) ggX8_finds_X8_goesOn
theorem dX8_finds_0 : decode cX8_finds 0 = .ok (.aload_n 0, 1) := by decide +kernel
theorem dX8_finds_1 : decode cX8_finds 1 = .ok (.invokevirtual 186, 3) := by decide +kernel
theorem dX8_finds_4 : decode cX8_finds 4 = .ok (.iconst 0, 1) := by decide +kernel
theorem dX8_finds_5 : decode cX8_finds 5 = .ok (.istore_n 1, 1) := by decide +kernel
theorem dX8_finds_6 : decode cX8_finds 6 = .ok (.iload_n 1, 1) := by decide +kernel
theorem dX8_finds_7 : decode cX8_finds 7 = .ok (.bipush 6, 2) := by decide +kernel
theorem dX8_finds_9 : decode cX8_finds 9 = .ok (.if_icmp .ge 23, 3) := by decide +kernel
theorem dX8_finds_12 : decode cX8_finds 12 = .ok (.aload_n 0, 1) := by decide +kernel
theorem dX8_finds_13 : decode cX8_finds 13 = .ok (.getfield 47, 3) := by decide +kernel
theorem dX8_finds_16 : decode cX8_finds 16 = .ok (.iload_n 1, 1) := by decide +kernel
theorem dX8_finds_17 : decode cX8_finds 17 = .ok (.iconst 0, 1) := by decide +kernel
theorem dX8_finds_18 : decode cX8_finds 18 = .ok (.iastore, 1) := by decide +kernel
theorem dX8_finds_19 : decode cX8_finds 19 = .ok (.aload_n 0, 1) := by decide +kernel
theorem dX8_finds_20 : decode cX8_finds 20 = .ok (.getfield 50, 3) := by decide +kernel
theorem dX8_finds_23 : decode cX8_finds 23 = .ok (.iload_n 1, 1) := by decide +kernel
theorem dX8_finds_24 : decode cX8_finds 24 = .ok (.iconst 0, 1) := by decide +kernel
theorem dX8_finds_25 : decode cX8_finds 25 = .ok (.iastore, 1) := by decide +kernel
theorem dX8_finds_26 : decode cX8_finds 26 = .ok (.iinc 1 1, 3) := by decide +kernel
theorem dX8_finds_29 : decode cX8_finds 29 = .ok (.goto (-23), 3) := by decide +kernel
theorem dX8_finds_32 : decode cX8_finds 32 = .ok (.aload_n 0, 1) := by decide +kernel
theorem dX8_finds_33 : decode cX8_finds 33 = .ok (.aload_n 0, 1) := by decide +kernel
theorem dX8_finds_34 : decode cX8_finds 34 = .ok (.getfield 47, 3) := by decide +kernel
theorem dX8_finds_37 : decode cX8_finds 37 = .ok (.iconst 0, 1) := by decide +kernel
theorem dX8_finds_38 : decode cX8_finds 38 = .ok (.invokevirtual 203, 3) := by decide +kernel
theorem dX8_finds_41 : decode cX8_finds 41 = .ok (.lstore_n 1, 1) := by decide +kernel
theorem dX8_finds_42 : decode cX8_finds 42 = .ok (.aload_n 0, 1) := by decide +kernel
theorem dX8_finds_43 : decode cX8_finds 43 = .ok (.invokevirtual 209, 3) := by decide +kernel
theorem dX8_finds_46 : decode cX8_finds 46 = .ok (.ifCond .eq 54, 3) := by decide +kernel
theorem dX8_finds_49 : decode cX8_finds 49 = .ok (.aload_n 0, 1) := by decide +kernel
theorem dX8_finds_50 : decode cX8_finds 50 = .ok (.aload_n 0, 1) := by decide +kernel
theorem dX8_finds_51 : decode cX8_finds 51 = .ok (.getfield 47, 3) := by decide +kernel
theorem dX8_finds_54 : decode cX8_finds 54 = .ok (.iconst 0, 1) := by decide +kernel
theorem dX8_finds_55 : decode cX8_finds 55 = .ok (.invokevirtual 203, 3) := by decide +kernel
theorem dX8_finds_58 : decode cX8_finds 58 = .ok (.lstore_n 3, 1) := by decide +kernel
theorem dX8_finds_59 : decode cX8_finds 59 = .ok (.lload_n 3, 1) := by decide +kernel
theorem dX8_finds_60 : decode cX8_finds 60 = .ok (.lload_n 1, 1) := by decide +kernel
theorem dX8_finds_61 : decode cX8_finds 61 = .ok (.lcmp, 1) := by decide +kernel
theorem dX8_finds_62 : decode cX8_finds 62 = .ok (.ifCond .ge 35, 3) := by decide +kernel
theorem dX8_finds_65 : decode cX8_finds 65 = .ok (.lload_n 3, 1) := by decide +kernel
theorem dX8_finds_66 : decode cX8_finds 66 = .ok (.lstore_n 1, 1) := by decide +kernel
theorem dX8_finds_67 : decode cX8_finds 67 = .ok (.iconst 0, 1) := by decide +kernel
theorem dX8_finds_68 : decode cX8_finds 68 = .ok (.istore 5, 2) := by decide +kernel
theorem dX8_finds_70 : decode cX8_finds 70 = .ok (.iload 5, 2) := by decide +kernel
theorem dX8_finds_72 : decode cX8_finds 72 = .ok (.bipush 6, 2) := by decide +kernel
theorem dX8_finds_74 : decode cX8_finds 74 = .ok (.if_icmp .ge 23, 3) := by decide +kernel
theorem dX8_finds_77 : decode cX8_finds 77 = .ok (.aload_n 0, 1) := by decide +kernel
theorem dX8_finds_78 : decode cX8_finds 78 = .ok (.getfield 50, 3) := by decide +kernel
theorem dX8_finds_81 : decode cX8_finds 81 = .ok (.iload 5, 2) := by decide +kernel
theorem dX8_finds_83 : decode cX8_finds 83 = .ok (.aload_n 0, 1) := by decide +kernel
theorem dX8_finds_84 : decode cX8_finds 84 = .ok (.getfield 47, 3) := by decide +kernel
theorem dX8_finds_87 : decode cX8_finds 87 = .ok (.iload 5, 2) := by decide +kernel
theorem dX8_finds_89 : decode cX8_finds 89 = .ok (.iaload, 1) := by decide +kernel
theorem dX8_finds_90 : decode cX8_finds 90 = .ok (.iastore, 1) := by decide +kernel
theorem dX8_finds_91 : decode cX8_finds 91 = .ok (.iinc 5 1, 3) := by decide +kernel
theorem dX8_finds_94 : decode cX8_finds 94 = .ok (.goto (-24), 3) := by decide +kernel
theorem dX8_finds_97 : decode cX8_finds 97 = .ok (.goto (-55), 3) := by decide +kernel
theorem dX8_finds_100 : decode cX8_finds 100 = .ok (.lload_n 1, 1) := by decide +kernel
theorem dX8_finds_101 : decode cX8_finds 101 = .ok (.lreturn, 1) := by decide +kernel
set_option maxRecDepth 20000 in
theorem ggX8_best_X8_isCell : GoodIn wsX8_best wsX8_isCell := goodIn_r _ [6, 7, 8, 9, 5, 10, 50, 51, 52, 53, 54, 55, 56, 57, 58, 59, 60, 61, 62, 63, 64, 65, 66, 67, 68, 69, 70, 71, 72, 73, 74, 75] (by decide +kernel) (by decide +kernel)
set_option maxRecDepth 20000 in
theorem gX8_best_X8_isCell : GoodIn wsX8_best (wsV RX8 136 RX8 yX8_isCell wsX8_isCell) := goodIn_app (goodIn_of _ (by decide +kernel)) ggX8_best_X8_isCell
set_option maxRecDepth 20000 in
theorem ggX8_best_X8_finds : GoodIn wsX8_best wsX8_finds := goodIn_r _ [14, 15, 1, 16, 17, 18, 5, 19, 7, 20, 21, 22, 23, 24, 25, 26, 27, 28, 29, 30, 31, 32, 33, 34, 35, 36, 37, 38, 39, 40, 41, 42, 43, 44, 45, 46, 47, 48, 49, 50, 51, 52, 53, 54, 55, 56, 57, 58, 59, 60, 61, 62, 63, 64, 65, 66, 67, 68, 69, 70, 71, 72, 73, 74, 75] (by decide +kernel) (by decide +kernel)
set_option maxRecDepth 20000 in
theorem gX8_best_X8_finds : GoodIn wsX8_best (wsV RX8 212 RX8 yX8_finds wsX8_finds) := goodIn_app (goodIn_of _ (by decide +kernel)) ggX8_best_X8_finds
theorem dX8_best_0 : decode cX8_best 0 = .ok (.aload_n 0, 1) := by decide +kernel
theorem dX8_best_1 : decode cX8_best 1 = .ok (.iload_n 1, 1) := by decide +kernel
theorem dX8_best_2 : decode cX8_best 2 = .ok (.invokevirtual 136, 3) := by decide +kernel
theorem dX8_best_5 : decode cX8_best 5 = .ok (.ifCond .ne 5, 3) := by decide +kernel
theorem dX8_best_8 : decode cX8_best 8 = .ok (.iconst (-1), 1) := by decide +kernel
theorem dX8_best_9 : decode cX8_best 9 = .ok (.ireturn, 1) := by decide +kernel
theorem dX8_best_10 : decode cX8_best 10 = .ok (.aload_n 0, 1) := by decide +kernel
theorem dX8_best_11 : decode cX8_best 11 = .ok (.invokevirtual 212, 3) := by decide +kernel
theorem dX8_best_14 : decode cX8_best 14 = .ok (.pop2, 1) := by decide +kernel
theorem dX8_best_15 : decode cX8_best 15 = .ok (.aload_n 0, 1) := by decide +kernel
theorem dX8_best_16 : decode cX8_best 16 = .ok (.getfield 50, 3) := by decide +kernel
theorem dX8_best_19 : decode cX8_best 19 = .ok (.iload_n 1, 1) := by decide +kernel
theorem dX8_best_20 : decode cX8_best 20 = .ok (.iaload, 1) := by decide +kernel
theorem dX8_best_21 : decode cX8_best 21 = .ok (.ireturn, 1) := by decide +kernel
set_option maxRecDepth 20000 in
theorem ggX8_least_X8_isIn : GoodIn wsX8_least wsX8_isIn := goodIn_r _ [6] (by decide +kernel) (by decide +kernel)
set_option maxRecDepth 20000 in
theorem gX8_least_X8_isIn : GoodIn wsX8_least (va_wsS RX8 98 yX8_isIn wsX8_isIn) := goodIn_app (goodIn_of _ (by decide +kernel)) ggX8_least_X8_isIn
set_option maxRecDepth 20000 in
theorem ggX8_least_X8_finds : GoodIn wsX8_least wsX8_finds := goodIn_r _ [10, 11, 12, 13, 14, 15, 5, 16, 17, 18, 19, 20, 21, 22, 23, 24, 25, 26, 27, 28, 29, 30, 31, 32, 2, 33, 34, 35, 36, 37, 38, 39, 40, 41, 42, 43, 44, 45, 46, 57, 58, 59, 60, 61, 62, 63, 64, 65, 66, 67, 68, 69, 70, 71, 72, 73, 74, 75, 76, 77, 78, 79, 80, 81, 82] (by decide +kernel) (by decide +kernel)
set_option maxRecDepth 20000 in
theorem gX8_least_X8_finds : GoodIn wsX8_least (wsV RX8 212 RX8 yX8_finds wsX8_finds) := goodIn_app (goodIn_of _ (by decide +kernel)) ggX8_least_X8_finds
set_option maxRecDepth 20000 in
theorem ggX8_least_X8_below : GoodIn wsX8_least wsX8_below := goodIn_r _ [50, 17, 20, 38, 39, 40, 5, 41, 42, 21, 22, 23, 24, 19, 57, 58, 59, 60, 61, 62, 63, 64, 65, 66, 67, 68, 69, 70, 71, 72, 73, 74, 75, 76, 77, 78, 79, 80, 81, 82] (by decide +kernel) (by decide +kernel)
set_option maxRecDepth 20000 in
theorem gX8_least_X8_below : GoodIn wsX8_least (wsV RX8 189 RX8 yX8_below wsX8_below) := goodIn_app (goodIn_of _ (by decide +kernel)) ggX8_least_X8_below
set_option maxRecDepth 20000 in
theorem ggX8_least_X8_term : GoodIn wsX8_least wsX8_term := goodIn_r _ [53, 54, 55, 5, 56] (by decide +kernel) (by decide +kernel)
set_option maxRecDepth 20000 in
theorem gX8_least_X8_term : GoodIn wsX8_least (va_wsS RX8 193 yX8_term wsX8_term) := goodIn_app (goodIn_of _ (by decide +kernel)) ggX8_least_X8_term
theorem dX8_least_0 : decode cX8_least 0 = .ok (.iload_n 1, 1) := by decide +kernel
theorem dX8_least_1 : decode cX8_least 1 = .ok (.iconst 0, 1) := by decide +kernel
theorem dX8_least_2 : decode cX8_least 2 = .ok (.iconst 1, 1) := by decide +kernel
theorem dX8_least_3 : decode cX8_least 3 = .ok (.invokestatic 98, 3) := by decide +kernel
theorem dX8_least_6 : decode cX8_least 6 = .ok (.ifCond .ne 7, 3) := by decide +kernel
theorem dX8_least_9 : decode cX8_least 9 = .ok (.ldc2_w 184, 3) := by decide +kernel
theorem dX8_least_12 : decode cX8_least 12 = .ok (.lreturn, 1) := by decide +kernel
theorem dX8_least_13 : decode cX8_least 13 = .ok (.aload_n 0, 1) := by decide +kernel
theorem dX8_least_14 : decode cX8_least 14 = .ok (.invokevirtual 212, 3) := by decide +kernel
theorem dX8_least_17 : decode cX8_least 17 = .ok (.ldc2_w 197, 3) := by decide +kernel
theorem dX8_least_20 : decode cX8_least 20 = .ok (.aload_n 0, 1) := by decide +kernel
theorem dX8_least_21 : decode cX8_least 21 = .ok (.invokevirtual 189, 3) := by decide +kernel
theorem dX8_least_24 : decode cX8_least 24 = .ok (.lmul, 1) := by decide +kernel
theorem dX8_least_25 : decode cX8_least 25 = .ok (.iload_n 1, 1) := by decide +kernel
theorem dX8_least_26 : decode cX8_least 26 = .ok (.invokestatic 193, 3) := by decide +kernel
theorem dX8_least_29 : decode cX8_least 29 = .ok (.lreturn, 1) := by decide +kernel
set_option maxRecDepth 20000 in
theorem ggX8_give_X8_finds : GoodIn wsX8_give wsX8_finds := goodIn_r _ [8, 9, 3, 10, 11, 12, 7, 13, 1, 14, 15, 16, 17, 18, 19, 20, 21, 22, 23, 24, 25, 26, 27, 28, 29, 30, 31, 32, 33, 34, 35, 36, 37, 38, 2, 39, 40, 41, 42, 52, 53, 54, 55, 56, 57, 58, 59, 60, 61, 62, 63, 64, 65, 66, 67, 68, 69, 70, 71, 72, 73, 74, 75, 76, 77] (by decide +kernel) (by decide +kernel)
set_option maxRecDepth 20000 in
theorem gX8_give_X8_finds : GoodIn wsX8_give (wsV RX8 212 RX8 yX8_finds wsX8_finds) := goodIn_app (goodIn_of _ (by decide +kernel)) ggX8_give_X8_finds
set_option maxRecDepth 20000 in
theorem ggX8_give_X8_keeps : GoodIn wsX8_give wsX8_keeps := goodIn_r _ [46, 47, 48, 2, 52, 53, 54, 55, 56, 57, 58, 59, 60, 61, 62, 63, 64, 65, 66, 67, 68, 69, 70, 71, 72, 73, 74, 75, 76, 77] (by decide +kernel) (by decide +kernel)
set_option maxRecDepth 20000 in
theorem gX8_give_X8_keeps : GoodIn wsX8_give (wsV RX8 139 RX8 yX8_keeps wsX8_keeps) := goodIn_app (goodIn_of _ (by decide +kernel)) ggX8_give_X8_keeps
set_option maxRecDepth 20000 in
theorem ggX8_give_X8_registers : GoodIn wsX8_give wsX8_registers := goodIn_r _ [51] (by decide +kernel) (by decide +kernel)
set_option maxRecDepth 20000 in
theorem gX8_give_X8_registers : GoodIn wsX8_give (va_wsS RX8 142 yX8_registers wsX8_registers) := goodIn_app (goodIn_of _ (by decide +kernel)) ggX8_give_X8_registers
theorem dX8_give_0 : decode cX8_give 0 = .ok (.aload_n 0, 1) := by decide +kernel
theorem dX8_give_1 : decode cX8_give 1 = .ok (.invokevirtual 212, 3) := by decide +kernel
theorem dX8_give_4 : decode cX8_give 4 = .ok (.pop2, 1) := by decide +kernel
theorem dX8_give_5 : decode cX8_give 5 = .ok (.aload_n 0, 1) := by decide +kernel
theorem dX8_give_6 : decode cX8_give 6 = .ok (.invokevirtual 139, 3) := by decide +kernel
theorem dX8_give_9 : decode cX8_give 9 = .ok (.iconst 0, 1) := by decide +kernel
theorem dX8_give_10 : decode cX8_give 10 = .ok (.istore_n 1, 1) := by decide +kernel
theorem dX8_give_11 : decode cX8_give 11 = .ok (.iconst 0, 1) := by decide +kernel
theorem dX8_give_12 : decode cX8_give 12 = .ok (.istore_n 2, 1) := by decide +kernel
theorem dX8_give_13 : decode cX8_give 13 = .ok (.iload_n 2, 1) := by decide +kernel
theorem dX8_give_14 : decode cX8_give 14 = .ok (.aload_n 0, 1) := by decide +kernel
theorem dX8_give_15 : decode cX8_give 15 = .ok (.getfield 76, 3) := by decide +kernel
theorem dX8_give_18 : decode cX8_give 18 = .ok (.if_icmp .ge 50, 3) := by decide +kernel
theorem dX8_give_21 : decode cX8_give 21 = .ok (.iload_n 1, 1) := by decide +kernel
theorem dX8_give_22 : decode cX8_give 22 = .ok (.aload_n 0, 1) := by decide +kernel
theorem dX8_give_23 : decode cX8_give 23 = .ok (.getfield 19, 3) := by decide +kernel
theorem dX8_give_26 : decode cX8_give 26 = .ok (.bipush 6, 2) := by decide +kernel
theorem dX8_give_28 : decode cX8_give 28 = .ok (.iload_n 2, 1) := by decide +kernel
theorem dX8_give_29 : decode cX8_give 29 = .ok (.iadd, 1) := by decide +kernel
end
section
abbrev vwCl : List vw_C := [(RX0, TX0, 6), (RX1, TX1, 12), (RX2, TX2, 3), (RX3, TX3, 4), (RX4, TX4, 10), (RX5, TX5, 4), (RX6, TX6, 1), (RX7, TX7, 10), (RX8, TX8, 26)]
/-! ===== memory by layout: 96 cells, ints, longs, and the four references that change ===== -/
abbrev rm_M : Type := (Nat → Nat → Int32) × (Nat → Nat → Int64) × (Nat → Nat)
def rm_K : List (Nat × Nat) := [(7, 0), (5, 0), (9, 200), (9, 4), (2, 0), (11, 6), (0, 0), (10, 6), (9, 6), (9, 6), (6, 0), (9, 9), (3, 0), (9, 6),
  (1, 0), (12, 6), (9, 6), (9, 6), (9, 6), (9, 6), (9, 6), (9, 6), (12, 6), (9, 6), (9, 6), (9, 6), (9, 6), (9, 6), (9, 6), (9, 6), (9, 6), (10, 6), (10, 64),
  (1, 0), (12, 6), (9, 6), (9, 6), (9, 6), (9, 6), (9, 6), (9, 6), (12, 6), (9, 6), (9, 6), (9, 6), (9, 6), (9, 6), (9, 6), (9, 6), (9, 6), (10, 6), (10, 64),
  (4, 0), (9, 6), (9, 6), (4, 0), (9, 6), (9, 6), (4, 0), (9, 6), (9, 6), (4, 0), (9, 6), (9, 6), (4, 0), (9, 6), (9, 6), (4, 0), (9, 6), (9, 6), (4, 0), (9, 6), (9, 6), (4, 0), (9, 6), (9, 6), (4, 0), (9, 6), (9, 6),
  (8, 0), (9, 200), (9, 36), (9, 4), (9, 20), (9, 120), (9, 36), (9, 4), (9, 20), (9, 10), (9, 10), (10, 6), (10, 25), (9, 6), (9, 6), (9, 6), (9, 20)]
def rm_kd (q : Nat) : Nat × Nat := rm_K.getD q (99, 0)
def rm_O (ph : Nat → Nat) (q : Nat) (i : Nat → Int32) (j : Nat → Int64) (r : Nat → Nat) : Nat → List Value
  | 0 => [.ref (ph (q + 1)), .long (j 1), .ref (ph (q + 2)), .long (j 3), .int (i 4), .ref (ph (q + 3))]
  | 1 => [.int (i 0), .int (i 1), .int (i 2), .int (i 3), .int (i 4), .int (i 5), .ref (ph (q + 1)), .ref (ph (q + 8)), .ref (ph (q + 15)), .ref (ph (q + 16)), .ref (ph (q + 17)), .ref (ph (q + 18))]
  | 2 => [.ref (ph (q + 1)), .int (i 1), .int (i 2)]
  | 3 => [.ref (ph (q + 1)), .int (i 1), .int (i 2), .int (i 3)]
  | 4 => [.ref (ph (q + 1)), .ref (ph (q + 2)), .int (i 2), .int (i 3), .int (i 4), .int (i 5), .int (i 6), .int (i 7), .int (i 8), .int (i 9)]
  | 5 => [.ref (ph (q + 1)), .ref (ph (q + 2)), .int (i 2), .int (i 3)]
  | 6 => [.ref (ph (q + 1))]
  | 7 => [.ref (ph (q + 1)), .ref (ph (q + 4)), .ref (ph (q + 6)), .ref (ph (q + 10)), .ref (ph (q + 12)), .ref (ph (q + 52)), .ref (ph (r 6)), .ref (ph (r 7)), .ref (ph (r 8)), .ref (ph (r 9))]
  | 8 => [.int (i 0), .ref (ph (q + 1)), .int (i 2), .int (i 3), .ref (ph (q + 2)), .ref (ph (q + 3)), .ref (ph (q + 4)), .ref (ph (q + 5)), .int (i 8), .int (i 9), .int (i 10), .ref (ph (q + 6)), .ref (ph (q + 7)), .ref (ph (q + 8)), .int (i 14), .int (i 15), .ref (ph (q + 9)), .ref (ph (q + 10)), .ref (ph (q + 11)), .ref (ph (q + 12)), .ref (ph (q + 13)), .ref (ph (q + 14)), .ref (ph (q + 15)), .int (i 23), .int (i 24), .ref (ph (q + 16))]
  | _ => []
abbrev rm_Y : Type := ClassId × ClassId × ClassId × ClassId
def rm_e (cy : rm_Y) (ph : Nat → Nat) (q : Nat) (i : Nat → Int32) (j : Nat → Int64) (r : Nat → Nat) : va_E :=
  if (rm_kd q).1 = 9 then .inl (cy.1, (rm_kd q).2, .inl i)
  else if (rm_kd q).1 = 10 then .inl (cy.2.1, (rm_kd q).2, .inr (.inl j))
  else if (rm_kd q).1 = 11 then .inl (cy.2.2.1, (rm_kd q).2, .inr (.inr (.inr (.inr (fun k => if k < (rm_kd q).2 then some (ph (q + 56 + 3 * k)) else none)))))
  else if (rm_kd q).1 = 12 then .inl (cy.2.2.2, (rm_kd q).2, .inr (.inr (.inr (.inr (fun k => if k < (rm_kd q).2 then some (ph (q + 1 + k)) else none)))))
  else .inr ((rm_kd q).1, rm_O ph q i j r (rm_kd q).1)
def rm_W (cy : rm_Y) (ph : Nat → Nat) (M : rm_M) : va_W := (List.range 96).map (fun q => (ph q, rm_e cy ph q (M.1 q) (M.2.1 q) M.2.2))
def rm_A (ph : Nat → Nat) : Nat → Prop := fun a => ∃ k, k < 96 ∧ ph k = a
def rm_inj (ph : Nat → Nat) : Prop := ∀ i j, i < 96 → j < 96 → ph i = ph j → i = j
def rm_sI (M : rm_M) (q k : Nat) (x : Int32) : rm_M := (fun a => if a = q then upd (M.1 q) k x else M.1 a, M.2)
def rm_sJ (M : rm_M) (q k : Nat) (x : Int64) : rm_M := (M.1, fun a => if a = q then vp_updL (M.2.1 q) k x else M.2.1 a, M.2.2)
def rm_sR (M : rm_M) (k v : Nat) : rm_M := (M.1, M.2.1, fun a => if a = k then v else M.2.2 a)
def rm_cp (M : rm_M) (a b sp dp n : Nat) : rm_M := (fun z => if z = b then va_cpy (M.1 a) (M.1 b) sp dp n else M.1 z, M.2)
def rm_ib (i : Int32) (n : Nat) : Bool := decide (0 ≤ i.toInt) && decide (i.toInt < (n : Int))
theorem rm_ib_in {i : Int32} {n : Nat} (h : rm_ib i n = true) : vp_in i n := by
  unfold rm_ib at h
  simp only [Bool.and_eq_true, decide_eq_true_eq] at h
  exact vp_in_iff.mpr h
theorem rm_lt {q : Nat} (h : (rm_kd q).1 ≠ 99) : q < 96 := by
  rcases Nat.lt_or_ge q 96 with h1 | h1
  · exact h1
  · exfalso
    apply h
    unfold rm_kd
    rw [List.getD_eq_getElem?_getD, List.getElem?_eq_none (by exact h1)]
    rfl
theorem rm_W_at (cy : rm_Y) (ph : Nat → Nat) (M : rm_M) {q : Nat} (h : q < 96) : (rm_W cy ph M)[q]? = some (ph q, rm_e cy ph q (M.1 q) (M.2.1 q) M.2.2) := by
  unfold rm_W
  rw [List.getElem?_map, List.getElem?_range h]
  rfl
theorem rm_W_D (cy : rm_Y) {ph : Nat → Nat} (hi : rm_inj ph) (M : rm_M) : va_D (rm_A ph) (rm_W cy ph M) := by
  have key : ∀ (k : Nat) (q : Nat × va_E), (rm_W cy ph M)[k]? = some q → k < 96 ∧ q.1 = ph k := by
    intro k q hk
    have hl := (List.getElem?_eq_some_iff.mp hk).1
    have hl2 : k < 96 := by simpa [rm_W] using hl
    rw [rm_W_at cy ph M hl2] at hk
    exact ⟨hl2, by rw [← Option.some.inj hk]⟩
  refine ⟨fun i j x y hx hy hxy => ?_, fun k q hk => ?_⟩
  · obtain ⟨a1, a2⟩ := key i x hx
    obtain ⟨b1, b2⟩ := key j y hy
    exact hi i j a1 b1 (by rw [← a2, ← b2, hxy])
  · obtain ⟨a1, a2⟩ := key k q hk
    exact ⟨k, a1, a2.symm⟩
theorem rm_W_set (cy : rm_Y) (ph : Nat → Nat) (M M2 : rm_M) {q : Nat} {e : va_E} (h : q < 96) (hq : rm_e cy ph q (M2.1 q) (M2.2.1 q) M2.2.2 = e)
    (ho : ∀ k, k < 96 → k ≠ q → rm_e cy ph k (M2.1 k) (M2.2.1 k) M2.2.2 = rm_e cy ph k (M.1 k) (M.2.1 k) M.2.2) : (rm_W cy ph M).set q (ph q, e) = rm_W cy ph M2 := by
  apply List.ext_getElem?
  intro k
  by_cases hk : k = q
  · subst hk
    rw [List.getElem?_set_self (by simpa [rm_W] using h), rm_W_at cy ph M2 h, hq]
  · rw [List.getElem?_set_ne (Ne.symm hk)]
    rcases Nat.lt_or_ge k 96 with h1 | h1
    · rw [rm_W_at cy ph M h1, rm_W_at cy ph M2 h1, ho k h1 hk]
    · rw [List.getElem?_eq_none (by simpa [rm_W] using h1), List.getElem?_eq_none (by simpa [rm_W] using h1)]
theorem rm_e_obj (cy : rm_Y) (ph : Nat → Nat) {q ci n : Nat} (i : Nat → Int32) (j : Nat → Int64) (r : Nat → Nat) (h : rm_kd q = (ci, n)) (hc : ci < 9) : rm_e cy ph q i j r = .inr (ci, rm_O ph q i j r ci) := by
  unfold rm_e
  rw [h]
  simp only
  rw [if_neg (by omega), if_neg (by omega), if_neg (by omega), if_neg (by omega)]
theorem rm_e_int (cy : rm_Y) (ph : Nat → Nat) {q : Nat} (i : Nat → Int32) (j : Nat → Int64) (r : Nat → Nat) (h : (rm_kd q).1 = 9) : rm_e cy ph q i j r = .inl (cy.1, (rm_kd q).2, .inl i) := by
  unfold rm_e
  rw [if_pos h]
theorem rm_e_long (cy : rm_Y) (ph : Nat → Nat) {q : Nat} (i : Nat → Int32) (j : Nat → Int64) (r : Nat → Nat) (h : (rm_kd q).1 = 10) : rm_e cy ph q i j r = .inl (cy.2.1, (rm_kd q).2, .inr (.inl j)) := by
  unfold rm_e
  rw [if_neg (by rw [h]; decide), if_pos h]
theorem rm_e_st (cy : rm_Y) (ph : Nat → Nat) {q : Nat} (i : Nat → Int32) (j : Nat → Int64) (r : Nat → Nat) (h : (rm_kd q).1 = 11) : rm_e cy ph q i j r = .inl (cy.2.2.1, (rm_kd q).2, .inr (.inr (.inr (.inr (fun k => if k < (rm_kd q).2 then some (ph (q + 56 + 3 * k)) else none))))) := by
  unfold rm_e
  rw [if_neg (by rw [h]; decide), if_neg (by rw [h]; decide), if_pos h]
theorem rm_e_ii (cy : rm_Y) (ph : Nat → Nat) {q : Nat} (i : Nat → Int32) (j : Nat → Int64) (r : Nat → Nat) (h : (rm_kd q).1 = 12) : rm_e cy ph q i j r = .inl (cy.2.2.2, (rm_kd q).2, .inr (.inr (.inr (.inr (fun k => if k < (rm_kd q).2 then some (ph (q + 1 + k)) else none))))) := by
  unfold rm_e
  rw [if_neg (by rw [h]; decide), if_neg (by rw [h]; decide), if_neg (by rw [h]; decide), if_pos h]
theorem rm_O_r (ph : Nat → Nat) (q : Nat) (i : Nat → Int32) (j : Nat → Int64) (r r2 : Nat → Nat) {n : Nat} (h : n ≠ 7) : rm_O ph q i j r n = rm_O ph q i j r2 n := by
  unfold rm_O
  split <;> first | rfl | exact absurd rfl h
theorem rm_e_r (cy : rm_Y) (ph : Nat → Nat) {q : Nat} (i : Nat → Int32) (j : Nat → Int64) (r r2 : Nat → Nat) (h : (rm_kd q).1 ≠ 7) : rm_e cy ph q i j r = rm_e cy ph q i j r2 := by
  unfold rm_e
  rw [rm_O_r ph q i j r r2 h]
theorem rm_kd7 : ∀ q, q < 96 → q ≠ 0 → (rm_kd q).1 ≠ 7 := by decide +kernel
/-! the world behind a write -/
theorem rm_W_sI_obj (cy : rm_Y) (ph : Nat → Nat) (M : rm_M) {q ci n k : Nat} {x : Int32} (h : rm_kd q = (ci, n)) (hc : ci < 9) (hs : (rm_O ph q (M.1 q) (M.2.1 q) M.2.2 ci).set k (.int x) = rm_O ph q (upd (M.1 q) k x) (M.2.1 q) M.2.2 ci) :
    (rm_W cy ph M).set q (ph q, .inr (ci, (rm_O ph q (M.1 q) (M.2.1 q) M.2.2 ci).set k (.int x))) = rm_W cy ph (rm_sI M q k x) := by
  refine rm_W_set cy ph M _ (rm_lt (by rw [h]; show ci ≠ 99; omega)) ?_ (fun a _ ha => ?_)
  · rw [rm_e_obj cy ph _ _ _ h hc, hs]
    show Sum.inr (ci, rm_O ph q (if q = q then upd (M.1 q) k x else M.1 q) (M.2.1 q) M.2.2 ci) = _
    rw [if_pos rfl]
  · show rm_e cy ph a (if a = q then upd (M.1 q) k x else M.1 a) (M.2.1 a) M.2.2 = _
    rw [if_neg ha]
theorem rm_W_sJ_obj (cy : rm_Y) (ph : Nat → Nat) (M : rm_M) {q ci n k : Nat} {x : Int64} (h : rm_kd q = (ci, n)) (hc : ci < 9) (hs : (rm_O ph q (M.1 q) (M.2.1 q) M.2.2 ci).set k (.long x) = rm_O ph q (M.1 q) (vp_updL (M.2.1 q) k x) M.2.2 ci) :
    (rm_W cy ph M).set q (ph q, .inr (ci, (rm_O ph q (M.1 q) (M.2.1 q) M.2.2 ci).set k (.long x))) = rm_W cy ph (rm_sJ M q k x) := by
  refine rm_W_set cy ph M _ (rm_lt (by rw [h]; show ci ≠ 99; omega)) ?_ (fun a _ ha => ?_)
  · rw [rm_e_obj cy ph _ _ _ h hc, hs]
    show Sum.inr (ci, rm_O ph q (M.1 q) (if q = q then vp_updL (M.2.1 q) k x else M.2.1 q) M.2.2 ci) = _
    rw [if_pos rfl]
  · show rm_e cy ph a (M.1 a) (if a = q then vp_updL (M.2.1 q) k x else M.2.1 a) M.2.2 = _
    rw [if_neg ha]
theorem rm_W_sR_obj (cy : rm_Y) (ph : Nat → Nat) (M : rm_M) {k v : Nat} (hs : (rm_O ph 0 (M.1 0) (M.2.1 0) M.2.2 7).set k (.ref (ph v)) = rm_O ph 0 (M.1 0) (M.2.1 0) (fun a => if a = k then v else M.2.2 a) 7) :
    (rm_W cy ph M).set 0 (ph 0, .inr (7, (rm_O ph 0 (M.1 0) (M.2.1 0) M.2.2 7).set k (.ref (ph v)))) = rm_W cy ph (rm_sR M k v) := by
  refine rm_W_set cy ph M _ (by decide) ?_ (fun a h1 ha => ?_)
  · rw [rm_e_obj cy ph _ _ _ (show rm_kd 0 = (7, 0) from rfl) (by decide), hs]
    rfl
  · exact rm_e_r cy ph _ _ _ _ (rm_kd7 a h1 ha)
theorem rm_W_sI_arr (cy : rm_Y) (ph : Nat → Nat) (M : rm_M) {q k : Nat} {x : Int32} (h : (rm_kd q).1 = 9) :
    (rm_W cy ph M).set q (ph q, .inl (cy.1, (rm_kd q).2, .inl (upd (M.1 q) k x))) = rm_W cy ph (rm_sI M q k x) := by
  refine rm_W_set cy ph M _ (rm_lt (by rw [h]; decide)) ?_ (fun a _ ha => ?_)
  · rw [rm_e_int cy ph _ _ _ h]
    show Sum.inl (cy.1, (rm_kd q).2, Sum.inl (if q = q then upd (M.1 q) k x else M.1 q)) = _
    rw [if_pos rfl]
  · show rm_e cy ph a (if a = q then upd (M.1 q) k x else M.1 a) (M.2.1 a) M.2.2 = _
    rw [if_neg ha]
theorem rm_W_sJ_arr (cy : rm_Y) (ph : Nat → Nat) (M : rm_M) {q k : Nat} {x : Int64} (h : (rm_kd q).1 = 10) :
    (rm_W cy ph M).set q (ph q, .inl (cy.2.1, (rm_kd q).2, .inr (.inl (vp_updL (M.2.1 q) k x)))) = rm_W cy ph (rm_sJ M q k x) := by
  refine rm_W_set cy ph M _ (rm_lt (by rw [h]; decide)) ?_ (fun a _ ha => ?_)
  · rw [rm_e_long cy ph _ _ _ h]
    show Sum.inl (cy.2.1, (rm_kd q).2, Sum.inr (Sum.inl (if q = q then vp_updL (M.2.1 q) k x else M.2.1 q))) = _
    rw [if_pos rfl]
  · show rm_e cy ph a (M.1 a) (if a = q then vp_updL (M.2.1 q) k x else M.2.1 a) M.2.2 = _
    rw [if_neg ha]
theorem rm_W_cp (cy : rm_Y) (ph : Nat → Nat) (M : rm_M) {a b sp dp n : Nat} (h : (rm_kd b).1 = 9) :
    (rm_W cy ph M).set b (ph b, .inl (cy.1, (rm_kd b).2, .inl (va_cpy (M.1 a) (M.1 b) sp dp n))) = rm_W cy ph (rm_cp M a b sp dp n) := by
  refine rm_W_set cy ph M _ (rm_lt (by rw [h]; decide)) ?_ (fun z _ hz => ?_)
  · rw [rm_e_int cy ph _ _ _ h]
    show Sum.inl (cy.1, (rm_kd b).2, Sum.inl (if b = b then va_cpy (M.1 a) (M.1 b) sp dp n else M.1 b)) = _
    rw [if_pos rfl]
  · show rm_e cy ph z (if z = b then va_cpy (M.1 a) (M.1 b) sp dp n else M.1 z) (M.2.1 z) M.2.2 = _
    rw [if_neg hz]
/-! the nest mates' links, and what a state must know -/
def rm_nw : List Cond := [.methodLinkNest RX0 51 yX7_sameArea "RingPages", .methodLinkNest RX1 83 yX7_holds "RingPages", .methodLinkNest RX3 19 yX7_holds "RingPages", .methodLinkNest RX4 57 yX7_holds "RingPages", .methodLinkNest RX5 89 yX7_isLaw "RingPages", .methodLinkNest RX6 61 yX7_holds "RingPages"]
def rm_N (U : State) : Prop := ∀ w ∈ rm_nw, va_Nw w U
theorem rm_N.warm {s U : State} (hW : s.WarmedH U.vm) (h : rm_N s) : rm_N U := by
  intro w hw
  have h1 := h w hw
  simp only [rm_nw, List.mem_cons, List.not_mem_nil, or_false] at hw
  rcases hw with rfl | rfl | rfl | rfl | rfl | rfl <;> exact va_Nw.warmM hW h1
theorem rm_N.same {s U : State} (hv : s.vm = U.vm) (h : rm_N s) : rm_N U := by
  intro w hw
  have h1 := h w hw
  simp only [rm_nw, List.mem_cons, List.not_mem_nil, or_false] at hw
  rcases hw with rfl | rfl | rfl | rfl | rfl | rfl <;> exact va_Nw.same rfl hv h1
abbrev rm_ty (cy : rm_Y) : List (ClassId × FieldType) := [(cy.1, .int), (cy.2.1, .long), (cy.2.2.1, .object "RingPages$State"), (cy.2.2.2, .array .int)]
def rm_P (cy : rm_Y) (ph : Nat → Nat) (D : va_G) (M : rm_M) (U : State) : Prop := va_P D vwCl (rm_W cy ph M) U.heap
def rm_B (cy : rm_Y) (ph : Nat → Nat) (D : va_G) (M : rm_M) (U : State) : Prop := rm_P cy ph D M U ∧ va_K D vwCl (rm_ty cy) U ∧ rm_N U
/-- where a walk is: program .. code, the post, array classes, tables, cells and slots so far -/
abbrev rm_G : Type := Program × Launch × Env × Room × State × MethodId × Array Value × List Frame × Method × Code × (State → Prop) × rm_Y × va_G × Nat × Nat
def rm_L (G : rm_G) (ph : Nat → Nat) (nL pc : Nat) (lv : List (Nat × Value)) (st : List Value) (M : rm_M) : Prop :=
  match G with
  | (p, l, e, R, s, m, args, below, meth, c, Q, cy, D, cells, slots) => ∀ (ls : Array Slot) (H : Heap) (locs : List Loc), lv_has ls nL lv → va_P D vwCl (rm_W cy ph M) H → va_S (rm_A ph) s.heap H locs → W p l e R s m args below meth c H locs cells slots Q (F0 m pc ls st)
def rm_k (G : rm_G) (ph : Nat → Nat) (cc : ByteArray) (own : String) (Ts : List Cond) (nL fr lo : Nat) : Prop :=
  match G with
  | (p, _, _, R, s, m, args, _, _, c, _, cy, D, cells, slots) => p.tables.exec = Jvm.exec ∧ c.code = cc ∧ c.maxLocals = nL ∧ s.vm.findClass own = some m.cls ∧ (∀ w ∈ Ts, w.before args s = true) ∧ va_K D vwCl (rm_ty cy) s ∧ rm_N s ∧ rm_inj ph ∧ R.frames = fr ∧ R.locals = lo ∧ cells ≤ R.cells ∧ slots ≤ R.slots
end
section
def rm_F : Nat := 4096
def rm_lt1 {α β : Type} (x : α) (K : α → Option β) : Option β := K x
theorem rm_if {α : Type} {c : Prop} [Decidable c] {X : Option α} {rho : α} (h : (if c then X else none) = some rho) : c ∧ X = some rho := by
  by_cases q : c
  · rw [if_pos q] at h; exact ⟨q, h⟩
  · rw [if_neg q] at h; cases h
theorem rm_kself {q k n : Nat} (h : rm_kd q = (k, n)) : rm_kd q = (k, (rm_kd q).2) := by rw [h]
theorem rm_net {q : Nat} (h : rm_kd q = (1, 0)) : q = 14 ∨ q = 33 := by
  have h1 : ∀ q, q < 96 → rm_kd q = (1, 0) → q = 14 ∨ q = 33 := by decide +kernel
  exact h1 q (rm_lt (by rw [h]; decide)) h
theorem rm_sta {q : Nat} (h : rm_kd q = (4, 0)) : q = 52 ∨ q = 55 ∨ q = 58 ∨ q = 61 ∨ q = 64 ∨ q = 67 ∨ q = 70 ∨ q = 73 ∨ q = 76 := by
  have h1 : ∀ q, q < 96 → rm_kd q = (4, 0) → q = 52 ∨ q = 55 ∨ q = 58 ∨ q = 61 ∨ q = 64 ∨ q = 67 ∨ q = 70 ∨ q = 73 ∨ q = 76 := by decide +kernel
  exact h1 q (rm_lt (by rw [h]; decide)) h
theorem rm_kX1_1 {q : Nat} (h : rm_kd q = (1, 0)) : rm_kd (q + 1) = (12, 6) := by rcases rm_net h with rfl | rfl <;> rfl
theorem rm_kX1_8 {q : Nat} (h : rm_kd q = (1, 0)) : rm_kd (q + 8) = (12, 6) := by rcases rm_net h with rfl | rfl <;> rfl
theorem rm_kX1_15 {q : Nat} (h : rm_kd q = (1, 0)) : rm_kd (q + 15) = (9, 6) := by rcases rm_net h with rfl | rfl <;> rfl
theorem rm_kX1_16 {q : Nat} (h : rm_kd q = (1, 0)) : rm_kd (q + 16) = (9, 6) := by rcases rm_net h with rfl | rfl <;> rfl
theorem rm_kX1_17 {q : Nat} (h : rm_kd q = (1, 0)) : rm_kd (q + 17) = (10, 6) := by rcases rm_net h with rfl | rfl <;> rfl
theorem rm_kX1_18 {q : Nat} (h : rm_kd q = (1, 0)) : rm_kd (q + 18) = (10, 64) := by rcases rm_net h with rfl | rfl <;> rfl
theorem rm_kX4_1 {q : Nat} (h : rm_kd q = (4, 0)) : rm_kd (q + 1) = (9, 6) := by rcases rm_sta h with rfl | rfl | rfl | rfl | rfl | rfl | rfl | rfl | rfl <;> rfl
theorem rm_kX4_2 {q : Nat} (h : rm_kd q = (4, 0)) : rm_kd (q + 2) = (9, 6) := by rcases rm_sta h with rfl | rfl | rfl | rfl | rfl | rfl | rfl | rfl | rfl <;> rfl
theorem rm_ib_lt {i : Int32} {n : Nat} (h : rm_ib i n = true) : i.toNatClampNeg < n := Nat.not_le.mp fun z => rm_ib_in h (Or.inr z)
theorem rm_out {q : Nat} (h : rm_kd q = (12, 6)) : q = 15 ∨ q = 22 ∨ q = 34 ∨ q = 41 := by
  have h1 : ∀ q, q < 96 → rm_kd q = (12, 6) → q = 15 ∨ q = 22 ∨ q = 34 ∨ q = 41 := by decide +kernel
  exact h1 q (rm_lt (by rw [h]; decide)) h
theorem rm_kR {q : Nat} {i : Int32} (h : rm_kd q = (12, 6)) (hb : rm_ib i 6 = true) : rm_kd (q + 1 + i.toNatClampNeg) = (9, 6) := by
  have hl := rm_ib_lt hb
  have key : ∀ k, k < 6 → rm_kd (15 + 1 + k) = (9, 6) ∧ rm_kd (22 + 1 + k) = (9, 6) ∧ rm_kd (34 + 1 + k) = (9, 6) ∧ rm_kd (41 + 1 + k) = (9, 6) := by decide +kernel
  have := key _ hl
  rcases rm_out h with rfl | rfl | rfl | rfl
  · exact this.1
  · exact this.2.1
  · exact this.2.2.1
  · exact this.2.2.2
theorem rm_kS {i : Int32} (hb : rm_ib i 6 = true) : rm_kd (5 + 56 + 3 * i.toNatClampNeg) = (4, 0) := by
  have hl := rm_ib_lt hb
  have key : ∀ k, k < 6 → rm_kd (5 + 56 + 3 * k) = (4, 0) := by decide +kernel
  exact key _ hl
section RMR
variable {G : rm_G} {ph : Nat → Nat} {cc : ByteArray} {own : String} {Ts : List Cond} {nL fr lo pc : Nat} {lv : List (Nat × Value)} {st : List Value} {M : rm_M}
theorem rr_iconst (hG : rm_k G ph cc own Ts nL fr lo) {n : Int} {v : Int32} (hd : decode cc pc = .ok (.iconst n, 1)) (hv : Int32.ofInt n = v) (kk : rm_L G ph nL (pc + 1) lv (.int v :: st) M) : rm_L G ph nL pc lv (st) M := by
  obtain ⟨p, l, e, R, s, m, args, below, meth, c, Q, cy, D, cells, slots⟩ := G
  obtain ⟨hx, hb, hml, hown, hts, hK, hN, hi, hfr, hlo, hc, hs⟩ := hG
  intro ls H locs hl hP hS
  exact lv_iconst hx hb hd hv (kk ls H locs hl hP hS)
theorem rr_bipush (hG : rm_k G ph cc own Ts nL fr lo) {n : Int} {v : Int32} (hd : decode cc pc = .ok (.bipush n, 2)) (hv : (Int8.ofInt n).toInt32 = v) (kk : rm_L G ph nL (pc + 2) lv (.int v :: st) M) : rm_L G ph nL pc lv (st) M := by
  obtain ⟨p, l, e, R, s, m, args, below, meth, c, Q, cy, D, cells, slots⟩ := G
  obtain ⟨hx, hb, hml, hown, hts, hK, hN, hi, hfr, hlo, hc, hs⟩ := hG
  intro ls H locs hl hP hS
  exact lv_bipush hx hb hd hv (kk ls H locs hl hP hS)
theorem rr_sipush (hG : rm_k G ph cc own Ts nL fr lo) {n : Int} {v : Int32} (hd : decode cc pc = .ok (.sipush n, 3)) (hv : (Int16.ofInt n).toInt32 = v) (kk : rm_L G ph nL (pc + 3) lv (.int v :: st) M) : rm_L G ph nL pc lv (st) M := by
  obtain ⟨p, l, e, R, s, m, args, below, meth, c, Q, cy, D, cells, slots⟩ := G
  obtain ⟨hx, hb, hml, hown, hts, hK, hN, hi, hfr, hlo, hc, hs⟩ := hG
  intro ls H locs hl hP hS
  exact lv_sipush hx hb hd hv (kk ls H locs hl hP hS)
theorem rr_lconst (hG : rm_k G ph cc own Ts nL fr lo) {n : Fin 2} {v : Int64} (hd : decode cc pc = .ok (.lconst n, 1)) (hv : Int64.ofNat (n : Nat) = v) (kk : rm_L G ph nL (pc + 1) lv (.long v :: st) M) : rm_L G ph nL pc lv (st) M := by
  obtain ⟨p, l, e, R, s, m, args, below, meth, c, Q, cy, D, cells, slots⟩ := G
  obtain ⟨hx, hb, hml, hown, hts, hK, hN, hi, hfr, hlo, hc, hs⟩ := hG
  intro ls H locs hl hP hS
  exact lv_lconst hx hb hd hv (kk ls H locs hl hP hS)
theorem rr_ldc2 (hG : rm_k G ph cc own Ts nL fr lo) {n : Nat} {v : Int64} (hd : decode cc pc = .ok (.ldc2_w n, 3)) (hw : Cond.constantLong own n v ∈ Ts) (kk : rm_L G ph nL (pc + 3) lv (.long v :: st) M) : rm_L G ph nL pc lv (st) M := by
  obtain ⟨p, l, e, R, s, m, args, below, meth, c, Q, cy, D, cells, slots⟩ := G
  obtain ⟨hx, hb, hml, hown, hts, hK, hN, hi, hfr, hlo, hc, hs⟩ := hG
  intro ls H locs hl hP hS
  exact lv_ldc2 hx hb hown (hts _ hw) hd (kk ls H locs hl hP hS)
theorem rr_ldcw (hG : rm_k G ph cc own Ts nL fr lo) {n : Nat} {v : Int32} (hd : decode cc pc = .ok (.ldc_w n, 3)) (hw : Cond.constant own n v ∈ Ts) (kk : rm_L G ph nL (pc + 3) lv (.int v :: st) M) : rm_L G ph nL pc lv (st) M := by
  obtain ⟨p, l, e, R, s, m, args, below, meth, c, Q, cy, D, cells, slots⟩ := G
  obtain ⟨hx, hb, hml, hown, hts, hK, hN, hi, hfr, hlo, hc, hs⟩ := hG
  intro ls H locs hl hP hS
  exact lv_ldcw hx hb hown (hts _ hw) hd (kk ls H locs hl hP hS)
theorem rr_ldc (hG : rm_k G ph cc own Ts nL fr lo) {n : Nat} {v : Int32} (hd : decode cc pc = .ok (.ldc n, 2)) (hw : Cond.constant own n v ∈ Ts) (kk : rm_L G ph nL (pc + 2) lv (.int v :: st) M) : rm_L G ph nL pc lv (st) M := by
  obtain ⟨p, l, e, R, s, m, args, below, meth, c, Q, cy, D, cells, slots⟩ := G
  obtain ⟨hx, hb, hml, hown, hts, hK, hN, hi, hfr, hlo, hc, hs⟩ := hG
  intro ls H locs hl hP hS
  exact lv_ldc hx hb hown (hts _ hw) hd (kk ls H locs hl hP hS)
theorem rr_iload_n (hG : rm_k G ph cc own Ts nL fr lo) {k : Fin 4} {i : Nat} {x : Int32} (hd : decode cc pc = .ok (.iload_n k, 1)) (n : Nat) (hn : (k : Nat) = i) (ha : lv[n]? = some (i, .int x)) (kk : rm_L G ph nL (pc + 1) lv (.int x :: st) M) : rm_L G ph nL pc lv (st) M := by
  obtain ⟨p, l, e, R, s, m, args, below, meth, c, Q, cy, D, cells, slots⟩ := G
  obtain ⟨hx, hb, hml, hown, hts, hK, hN, hi, hfr, hlo, hc, hs⟩ := hG
  intro ls H locs hl hP hS
  exact lv_iload_n hx hb hd hn (lv_at hl n ha) (kk ls H locs hl hP hS)
theorem rr_iload (hG : rm_k G ph cc own Ts nL fr lo) {i : Nat} {x : Int32} (hd : decode cc pc = .ok (.iload i, 2)) (n : Nat) (ha : lv[n]? = some (i, .int x)) (kk : rm_L G ph nL (pc + 2) lv (.int x :: st) M) : rm_L G ph nL pc lv (st) M := by
  obtain ⟨p, l, e, R, s, m, args, below, meth, c, Q, cy, D, cells, slots⟩ := G
  obtain ⟨hx, hb, hml, hown, hts, hK, hN, hi, hfr, hlo, hc, hs⟩ := hG
  intro ls H locs hl hP hS
  exact lv_iload hx hb hd (lv_at hl n ha) (kk ls H locs hl hP hS)
theorem rr_istore_n (hG : rm_k G ph cc own Ts nL fr lo) {k : Fin 4} {i : Nat} {x : Int32} {lv2 : List (Nat × Value)} (hd : decode cc pc = .ok (.istore_n k, 1)) (hn : (k : Nat) = i) (hi2 : i < nL) (hl2 : (i, Value.int x) :: lv.filter (fun q => !(q.1 == i) && !(q.1 + 1 == i && q.2.category == 2)) = lv2) (kk : rm_L G ph nL (pc + 1) lv2 (st) M) : rm_L G ph nL pc lv (.int x :: st) M := by
  obtain ⟨p, l, e, R, s, m, args, below, meth, c, Q, cy, D, cells, slots⟩ := G
  obtain ⟨hx, hb, hml, hown, hts, hK, hN, hi, hfr, hlo, hc, hs⟩ := hG
  intro ls H locs hl hP hS
  exact lv_istore_n hx hb hd hn hl hi2 hl2 (fun ls hl => kk ls H locs hl hP hS)
theorem rr_istore (hG : rm_k G ph cc own Ts nL fr lo) {i : Nat} {x : Int32} {lv2 : List (Nat × Value)} (hd : decode cc pc = .ok (.istore i, 2)) (hi2 : i < nL) (hl2 : (i, Value.int x) :: lv.filter (fun q => !(q.1 == i) && !(q.1 + 1 == i && q.2.category == 2)) = lv2) (kk : rm_L G ph nL (pc + 2) lv2 (st) M) : rm_L G ph nL pc lv (.int x :: st) M := by
  obtain ⟨p, l, e, R, s, m, args, below, meth, c, Q, cy, D, cells, slots⟩ := G
  obtain ⟨hx, hb, hml, hown, hts, hK, hN, hi, hfr, hlo, hc, hs⟩ := hG
  intro ls H locs hl hP hS
  exact lv_istore hx hb hd hl hi2 hl2 (fun ls hl => kk ls H locs hl hP hS)
theorem rr_lload_n (hG : rm_k G ph cc own Ts nL fr lo) {k : Fin 4} {i : Nat} {x : Int64} (hd : decode cc pc = .ok (.lload_n k, 1)) (n : Nat) (hn : (k : Nat) = i) (ha : lv[n]? = some (i, .long x)) (kk : rm_L G ph nL (pc + 1) lv (.long x :: st) M) : rm_L G ph nL pc lv (st) M := by
  obtain ⟨p, l, e, R, s, m, args, below, meth, c, Q, cy, D, cells, slots⟩ := G
  obtain ⟨hx, hb, hml, hown, hts, hK, hN, hi, hfr, hlo, hc, hs⟩ := hG
  intro ls H locs hl hP hS
  exact lv_lload_n hx hb hd hn (lv_at hl n ha) (kk ls H locs hl hP hS)
theorem rr_lload (hG : rm_k G ph cc own Ts nL fr lo) {i : Nat} {x : Int64} (hd : decode cc pc = .ok (.lload i, 2)) (n : Nat) (ha : lv[n]? = some (i, .long x)) (kk : rm_L G ph nL (pc + 2) lv (.long x :: st) M) : rm_L G ph nL pc lv (st) M := by
  obtain ⟨p, l, e, R, s, m, args, below, meth, c, Q, cy, D, cells, slots⟩ := G
  obtain ⟨hx, hb, hml, hown, hts, hK, hN, hi, hfr, hlo, hc, hs⟩ := hG
  intro ls H locs hl hP hS
  exact lv_lload hx hb hd (lv_at hl n ha) (kk ls H locs hl hP hS)
theorem rr_lstore_n (hG : rm_k G ph cc own Ts nL fr lo) {k : Fin 4} {i : Nat} {x : Int64} {lv2 : List (Nat × Value)} (hd : decode cc pc = .ok (.lstore_n k, 1)) (hn : (k : Nat) = i) (hi2 : i + 1 < nL) (hl2 : (i, Value.long x) :: lv.filter (fun q => !(q.1 == i) && (!(q.1 == i + 1) && !(q.1 + 1 == i && q.2.category == 2))) = lv2) (kk : rm_L G ph nL (pc + 1) lv2 (st) M) : rm_L G ph nL pc lv (.long x :: st) M := by
  obtain ⟨p, l, e, R, s, m, args, below, meth, c, Q, cy, D, cells, slots⟩ := G
  obtain ⟨hx, hb, hml, hown, hts, hK, hN, hi, hfr, hlo, hc, hs⟩ := hG
  intro ls H locs hl hP hS
  exact lv_lstore_n hx hb hd hn hl hi2 hl2 (fun ls hl => kk ls H locs hl hP hS)
theorem rr_lstore (hG : rm_k G ph cc own Ts nL fr lo) {i : Nat} {x : Int64} {lv2 : List (Nat × Value)} (hd : decode cc pc = .ok (.lstore i, 2)) (hi2 : i + 1 < nL) (hl2 : (i, Value.long x) :: lv.filter (fun q => !(q.1 == i) && (!(q.1 == i + 1) && !(q.1 + 1 == i && q.2.category == 2))) = lv2) (kk : rm_L G ph nL (pc + 2) lv2 (st) M) : rm_L G ph nL pc lv (.long x :: st) M := by
  obtain ⟨p, l, e, R, s, m, args, below, meth, c, Q, cy, D, cells, slots⟩ := G
  obtain ⟨hx, hb, hml, hown, hts, hK, hN, hi, hfr, hlo, hc, hs⟩ := hG
  intro ls H locs hl hP hS
  exact lv_lstore hx hb hd hl hi2 hl2 (fun ls hl => kk ls H locs hl hP hS)
theorem rr_aload_n (hG : rm_k G ph cc own Ts nL fr lo) {k : Fin 4} {i : Nat} {x : Nat} (hd : decode cc pc = .ok (.aload_n k, 1)) (n : Nat) (hn : (k : Nat) = i) (ha : lv[n]? = some (i, .ref x)) (kk : rm_L G ph nL (pc + 1) lv (.ref x :: st) M) : rm_L G ph nL pc lv (st) M := by
  obtain ⟨p, l, e, R, s, m, args, below, meth, c, Q, cy, D, cells, slots⟩ := G
  obtain ⟨hx, hb, hml, hown, hts, hK, hN, hi, hfr, hlo, hc, hs⟩ := hG
  intro ls H locs hl hP hS
  exact lv_aload_n hx hb hd hn (lv_at hl n ha) (kk ls H locs hl hP hS)
theorem rr_aload (hG : rm_k G ph cc own Ts nL fr lo) {i : Nat} {x : Nat} (hd : decode cc pc = .ok (.aload i, 2)) (n : Nat) (ha : lv[n]? = some (i, .ref x)) (kk : rm_L G ph nL (pc + 2) lv (.ref x :: st) M) : rm_L G ph nL pc lv (st) M := by
  obtain ⟨p, l, e, R, s, m, args, below, meth, c, Q, cy, D, cells, slots⟩ := G
  obtain ⟨hx, hb, hml, hown, hts, hK, hN, hi, hfr, hlo, hc, hs⟩ := hG
  intro ls H locs hl hP hS
  exact lv_aload hx hb hd (lv_at hl n ha) (kk ls H locs hl hP hS)
theorem rr_astore_n (hG : rm_k G ph cc own Ts nL fr lo) {k : Fin 4} {i : Nat} {x : Nat} {lv2 : List (Nat × Value)} (hd : decode cc pc = .ok (.astore_n k, 1)) (hn : (k : Nat) = i) (hi2 : i < nL) (hl2 : (i, Value.ref x) :: lv.filter (fun q => !(q.1 == i) && !(q.1 + 1 == i && q.2.category == 2)) = lv2) (kk : rm_L G ph nL (pc + 1) lv2 (st) M) : rm_L G ph nL pc lv (.ref x :: st) M := by
  obtain ⟨p, l, e, R, s, m, args, below, meth, c, Q, cy, D, cells, slots⟩ := G
  obtain ⟨hx, hb, hml, hown, hts, hK, hN, hi, hfr, hlo, hc, hs⟩ := hG
  intro ls H locs hl hP hS
  exact lv_astore_n hx hb hd hn hl hi2 hl2 (fun ls hl => kk ls H locs hl hP hS)
theorem rr_astore (hG : rm_k G ph cc own Ts nL fr lo) {i : Nat} {x : Nat} {lv2 : List (Nat × Value)} (hd : decode cc pc = .ok (.astore i, 2)) (hi2 : i < nL) (hl2 : (i, Value.ref x) :: lv.filter (fun q => !(q.1 == i) && !(q.1 + 1 == i && q.2.category == 2)) = lv2) (kk : rm_L G ph nL (pc + 2) lv2 (st) M) : rm_L G ph nL pc lv (.ref x :: st) M := by
  obtain ⟨p, l, e, R, s, m, args, below, meth, c, Q, cy, D, cells, slots⟩ := G
  obtain ⟨hx, hb, hml, hown, hts, hK, hN, hi, hfr, hlo, hc, hs⟩ := hG
  intro ls H locs hl hP hS
  exact lv_astore hx hb hd hl hi2 hl2 (fun ls hl => kk ls H locs hl hP hS)
theorem rr_iinc (hG : rm_k G ph cc own Ts nL fr lo) {i k : Nat} {n : Int} {x v : Int32} {lv2 : List (Nat × Value)} (hd : decode cc pc = .ok (.iinc i n, 3)) (hk : lv[k]? = some (i, .int x)) (hv : x + Int32.ofInt n = v) (hi2 : i < nL) (hl2 : (i, Value.int v) :: lv.filter (fun q => !(q.1 == i) && !(q.1 + 1 == i && q.2.category == 2)) = lv2) (kk : rm_L G ph nL (pc + 3) lv2 (st) M) : rm_L G ph nL pc lv (st) M := by
  obtain ⟨p, l, e, R, s, m, args, below, meth, c, Q, cy, D, cells, slots⟩ := G
  obtain ⟨hx, hb, hml, hown, hts, hK, hN, hi, hfr, hlo, hc, hs⟩ := hG
  intro ls H locs hl hP hS
  exact lv_iinc hx hb hd hl hk hv hi2 hl2 (fun ls hl => kk ls H locs hl hP hS)
theorem rr_iadd (hG : rm_k G ph cc own Ts nL fr lo) {x y : Int32} (hd : decode cc pc = .ok (.iadd, 1))  (kk : rm_L G ph nL (pc + 1) lv (.int (x + y) :: st) M) : rm_L G ph nL pc lv (.int y :: .int x :: st) M := by
  obtain ⟨p, l, e, R, s, m, args, below, meth, c, Q, cy, D, cells, slots⟩ := G
  obtain ⟨hx, hb, hml, hown, hts, hK, hN, hi, hfr, hlo, hc, hs⟩ := hG
  intro ls H locs hl hP hS
  exact lv_iadd hx hb hd (kk ls H locs hl hP hS)
theorem rr_isub (hG : rm_k G ph cc own Ts nL fr lo) {x y : Int32} (hd : decode cc pc = .ok (.isub, 1))  (kk : rm_L G ph nL (pc + 1) lv (.int (x - y) :: st) M) : rm_L G ph nL pc lv (.int y :: .int x :: st) M := by
  obtain ⟨p, l, e, R, s, m, args, below, meth, c, Q, cy, D, cells, slots⟩ := G
  obtain ⟨hx, hb, hml, hown, hts, hK, hN, hi, hfr, hlo, hc, hs⟩ := hG
  intro ls H locs hl hP hS
  exact lv_isub hx hb hd (kk ls H locs hl hP hS)
theorem rr_imul (hG : rm_k G ph cc own Ts nL fr lo) {x y : Int32} (hd : decode cc pc = .ok (.imul, 1))  (kk : rm_L G ph nL (pc + 1) lv (.int (x * y) :: st) M) : rm_L G ph nL pc lv (.int y :: .int x :: st) M := by
  obtain ⟨p, l, e, R, s, m, args, below, meth, c, Q, cy, D, cells, slots⟩ := G
  obtain ⟨hx, hb, hml, hown, hts, hK, hN, hi, hfr, hlo, hc, hs⟩ := hG
  intro ls H locs hl hP hS
  exact lv_imul hx hb hd (kk ls H locs hl hP hS)
theorem rr_iand (hG : rm_k G ph cc own Ts nL fr lo) {x y : Int32} (hd : decode cc pc = .ok (.iand, 1))  (kk : rm_L G ph nL (pc + 1) lv (.int (x &&& y) :: st) M) : rm_L G ph nL pc lv (.int y :: .int x :: st) M := by
  obtain ⟨p, l, e, R, s, m, args, below, meth, c, Q, cy, D, cells, slots⟩ := G
  obtain ⟨hx, hb, hml, hown, hts, hK, hN, hi, hfr, hlo, hc, hs⟩ := hG
  intro ls H locs hl hP hS
  exact lv_iand hx hb hd (kk ls H locs hl hP hS)
theorem rr_ior (hG : rm_k G ph cc own Ts nL fr lo) {x y : Int32} (hd : decode cc pc = .ok (.ior, 1))  (kk : rm_L G ph nL (pc + 1) lv (.int (x ||| y) :: st) M) : rm_L G ph nL pc lv (.int y :: .int x :: st) M := by
  obtain ⟨p, l, e, R, s, m, args, below, meth, c, Q, cy, D, cells, slots⟩ := G
  obtain ⟨hx, hb, hml, hown, hts, hK, hN, hi, hfr, hlo, hc, hs⟩ := hG
  intro ls H locs hl hP hS
  exact lv_ior hx hb hd (kk ls H locs hl hP hS)
theorem rr_ixor (hG : rm_k G ph cc own Ts nL fr lo) {x y : Int32} (hd : decode cc pc = .ok (.ixor, 1))  (kk : rm_L G ph nL (pc + 1) lv (.int (x ^^^ y) :: st) M) : rm_L G ph nL pc lv (.int y :: .int x :: st) M := by
  obtain ⟨p, l, e, R, s, m, args, below, meth, c, Q, cy, D, cells, slots⟩ := G
  obtain ⟨hx, hb, hml, hown, hts, hK, hN, hi, hfr, hlo, hc, hs⟩ := hG
  intro ls H locs hl hP hS
  exact lv_ixor hx hb hd (kk ls H locs hl hP hS)
theorem rr_ishl (hG : rm_k G ph cc own Ts nL fr lo) {x y : Int32} (hd : decode cc pc = .ok (.ishl, 1))  (kk : rm_L G ph nL (pc + 1) lv (.int (x <<< (y &&& 31)) :: st) M) : rm_L G ph nL pc lv (.int y :: .int x :: st) M := by
  obtain ⟨p, l, e, R, s, m, args, below, meth, c, Q, cy, D, cells, slots⟩ := G
  obtain ⟨hx, hb, hml, hown, hts, hK, hN, hi, hfr, hlo, hc, hs⟩ := hG
  intro ls H locs hl hP hS
  exact lv_ishl hx hb hd (kk ls H locs hl hP hS)
theorem rr_ishr (hG : rm_k G ph cc own Ts nL fr lo) {x y : Int32} (hd : decode cc pc = .ok (.ishr, 1))  (kk : rm_L G ph nL (pc + 1) lv (.int (x >>> (y &&& 31)) :: st) M) : rm_L G ph nL pc lv (.int y :: .int x :: st) M := by
  obtain ⟨p, l, e, R, s, m, args, below, meth, c, Q, cy, D, cells, slots⟩ := G
  obtain ⟨hx, hb, hml, hown, hts, hK, hN, hi, hfr, hlo, hc, hs⟩ := hG
  intro ls H locs hl hP hS
  exact lv_ishr hx hb hd (kk ls H locs hl hP hS)
theorem rr_ladd (hG : rm_k G ph cc own Ts nL fr lo) {x y : Int64} (hd : decode cc pc = .ok (.ladd, 1))  (kk : rm_L G ph nL (pc + 1) lv (.long (x + y) :: st) M) : rm_L G ph nL pc lv (.long y :: .long x :: st) M := by
  obtain ⟨p, l, e, R, s, m, args, below, meth, c, Q, cy, D, cells, slots⟩ := G
  obtain ⟨hx, hb, hml, hown, hts, hK, hN, hi, hfr, hlo, hc, hs⟩ := hG
  intro ls H locs hl hP hS
  exact lv_ladd hx hb hd (kk ls H locs hl hP hS)
theorem rr_lsub (hG : rm_k G ph cc own Ts nL fr lo) {x y : Int64} (hd : decode cc pc = .ok (.lsub, 1))  (kk : rm_L G ph nL (pc + 1) lv (.long (x - y) :: st) M) : rm_L G ph nL pc lv (.long y :: .long x :: st) M := by
  obtain ⟨p, l, e, R, s, m, args, below, meth, c, Q, cy, D, cells, slots⟩ := G
  obtain ⟨hx, hb, hml, hown, hts, hK, hN, hi, hfr, hlo, hc, hs⟩ := hG
  intro ls H locs hl hP hS
  exact lv_lsub hx hb hd (kk ls H locs hl hP hS)
theorem rr_lmul (hG : rm_k G ph cc own Ts nL fr lo) {x y : Int64} (hd : decode cc pc = .ok (.lmul, 1))  (kk : rm_L G ph nL (pc + 1) lv (.long (x * y) :: st) M) : rm_L G ph nL pc lv (.long y :: .long x :: st) M := by
  obtain ⟨p, l, e, R, s, m, args, below, meth, c, Q, cy, D, cells, slots⟩ := G
  obtain ⟨hx, hb, hml, hown, hts, hK, hN, hi, hfr, hlo, hc, hs⟩ := hG
  intro ls H locs hl hP hS
  exact lv_lmul hx hb hd (kk ls H locs hl hP hS)
theorem rr_iushr (hG : rm_k G ph cc own Ts nL fr lo) {x y : Int32} (hd : decode cc pc = .ok (.iushr, 1))  (kk : rm_L G ph nL (pc + 1) lv (.int (x.toUInt32 >>> (y.toUInt32 &&& Int32.toUInt32 31)).toInt32 :: st) M) : rm_L G ph nL pc lv (.int y :: .int x :: st) M := by
  obtain ⟨p, l, e, R, s, m, args, below, meth, c, Q, cy, D, cells, slots⟩ := G
  obtain ⟨hx, hb, hml, hown, hts, hK, hN, hi, hfr, hlo, hc, hs⟩ := hG
  intro ls H locs hl hP hS
  exact lv_iushr hx hb hd (kk ls H locs hl hP hS)
theorem rr_ineg (hG : rm_k G ph cc own Ts nL fr lo) {x : Int32} (hd : decode cc pc = .ok (.ineg, 1))  (kk : rm_L G ph nL (pc + 1) lv (.int (-x) :: st) M) : rm_L G ph nL pc lv (.int x :: st) M := by
  obtain ⟨p, l, e, R, s, m, args, below, meth, c, Q, cy, D, cells, slots⟩ := G
  obtain ⟨hx, hb, hml, hown, hts, hK, hN, hi, hfr, hlo, hc, hs⟩ := hG
  intro ls H locs hl hP hS
  exact lv_ineg hx hb hd (kk ls H locs hl hP hS)
theorem rr_lneg (hG : rm_k G ph cc own Ts nL fr lo) {x : Int64} (hd : decode cc pc = .ok (.lneg, 1))  (kk : rm_L G ph nL (pc + 1) lv (.long (-x) :: st) M) : rm_L G ph nL pc lv (.long x :: st) M := by
  obtain ⟨p, l, e, R, s, m, args, below, meth, c, Q, cy, D, cells, slots⟩ := G
  obtain ⟨hx, hb, hml, hown, hts, hK, hN, hi, hfr, hlo, hc, hs⟩ := hG
  intro ls H locs hl hP hS
  exact lv_lneg hx hb hd (kk ls H locs hl hP hS)
theorem rr_i2l (hG : rm_k G ph cc own Ts nL fr lo) {x : Int32} (hd : decode cc pc = .ok (.i2l, 1))  (kk : rm_L G ph nL (pc + 1) lv (.long x.toInt64 :: st) M) : rm_L G ph nL pc lv (.int x :: st) M := by
  obtain ⟨p, l, e, R, s, m, args, below, meth, c, Q, cy, D, cells, slots⟩ := G
  obtain ⟨hx, hb, hml, hown, hts, hK, hN, hi, hfr, hlo, hc, hs⟩ := hG
  intro ls H locs hl hP hS
  exact lv_i2l hx hb hd rfl (kk ls H locs hl hP hS)
theorem rr_l2i (hG : rm_k G ph cc own Ts nL fr lo) {x : Int64} (hd : decode cc pc = .ok (.l2i, 1))  (kk : rm_L G ph nL (pc + 1) lv (.int x.toInt32 :: st) M) : rm_L G ph nL pc lv (.long x :: st) M := by
  obtain ⟨p, l, e, R, s, m, args, below, meth, c, Q, cy, D, cells, slots⟩ := G
  obtain ⟨hx, hb, hml, hown, hts, hK, hN, hi, hfr, hlo, hc, hs⟩ := hG
  intro ls H locs hl hP hS
  exact lv_l2i hx hb hd rfl (kk ls H locs hl hP hS)
theorem rr_lcmp (hG : rm_k G ph cc own Ts nL fr lo) {x y : Int64} (hd : decode cc pc = .ok (.lcmp, 1))  (kk : rm_L G ph nL (pc + 1) lv (.int (lg_cmp x y) :: st) M) : rm_L G ph nL pc lv (.long y :: .long x :: st) M := by
  obtain ⟨p, l, e, R, s, m, args, below, meth, c, Q, cy, D, cells, slots⟩ := G
  obtain ⟨hx, hb, hml, hown, hts, hK, hN, hi, hfr, hlo, hc, hs⟩ := hG
  intro ls H locs hl hP hS
  exact W.lcmp hx hb hd (kk ls H locs hl hP hS)
theorem rr_idiv (hG : rm_k G ph cc own Ts nL fr lo) {α : Type} {x y : Int32} {X : Option α} {rho : α} (hd : decode cc pc = .ok (.idiv, 1)) (hf : (if y = 0 then none else X) = some rho) (kk : X = some rho → rm_L G ph nL (pc + 1) lv (.int (x / y) :: st) M) : rm_L G ph nL pc lv (.int y :: .int x :: st) M := by
  have hne : ¬ y = 0 := fun q => by rw [if_pos q] at hf; cases hf
  rw [if_neg hne] at hf
  have kk := kk hf
  obtain ⟨p, l, e, R, s, m, args, below, meth, c, Q, cy, D, cells, slots⟩ := G
  obtain ⟨hx, hb, hml, hown, hts, hK, hN, hi, hfr, hlo, hc, hs⟩ := hG
  intro ls H locs hl hP hS
  exact lv_idiv hx hb hd hne (kk ls H locs hl hP hS)
theorem rr_irem (hG : rm_k G ph cc own Ts nL fr lo) {α : Type} {x y : Int32} {X : Option α} {rho : α} (hd : decode cc pc = .ok (.irem, 1)) (hf : (if y = 0 then none else X) = some rho) (kk : X = some rho → rm_L G ph nL (pc + 1) lv (.int (x - x / y * y) :: st) M) : rm_L G ph nL pc lv (.int y :: .int x :: st) M := by
  have hne : ¬ y = 0 := fun q => by rw [if_pos q] at hf; cases hf
  rw [if_neg hne] at hf
  have kk := kk hf
  obtain ⟨p, l, e, R, s, m, args, below, meth, c, Q, cy, D, cells, slots⟩ := G
  obtain ⟨hx, hb, hml, hown, hts, hK, hN, hi, hfr, hlo, hc, hs⟩ := hG
  intro ls H locs hl hP hS
  exact lv_irem hx hb hd hne (kk ls H locs hl hP hS)
theorem rr_ldiv (hG : rm_k G ph cc own Ts nL fr lo) {α : Type} {x y : Int64} {X : Option α} {rho : α} (hd : decode cc pc = .ok (.ldiv, 1)) (hf : (if y = 0 then none else X) = some rho) (kk : X = some rho → rm_L G ph nL (pc + 1) lv (.long (x / y) :: st) M) : rm_L G ph nL pc lv (.long y :: .long x :: st) M := by
  have hne : ¬ y = 0 := fun q => by rw [if_pos q] at hf; cases hf
  rw [if_neg hne] at hf
  have kk := kk hf
  obtain ⟨p, l, e, R, s, m, args, below, meth, c, Q, cy, D, cells, slots⟩ := G
  obtain ⟨hx, hb, hml, hown, hts, hK, hN, hi, hfr, hlo, hc, hs⟩ := hG
  intro ls H locs hl hP hS
  exact lv_ldiv hx hb hd hne (kk ls H locs hl hP hS)
theorem rr_lrem (hG : rm_k G ph cc own Ts nL fr lo) {α : Type} {x y : Int64} {X : Option α} {rho : α} (hd : decode cc pc = .ok (.lrem, 1)) (hf : (if y = 0 then none else X) = some rho) (kk : X = some rho → rm_L G ph nL (pc + 1) lv (.long (x - x / y * y) :: st) M) : rm_L G ph nL pc lv (.long y :: .long x :: st) M := by
  have hne : ¬ y = 0 := fun q => by rw [if_pos q] at hf; cases hf
  rw [if_neg hne] at hf
  have kk := kk hf
  obtain ⟨p, l, e, R, s, m, args, below, meth, c, Q, cy, D, cells, slots⟩ := G
  obtain ⟨hx, hb, hml, hown, hts, hK, hN, hi, hfr, hlo, hc, hs⟩ := hG
  intro ls H locs hl hP hS
  exact lv_lrem hx hb hd hne (kk ls H locs hl hP hS)
theorem rr_dup (hG : rm_k G ph cc own Ts nL fr lo) {va : Value} (hd : decode cc pc = .ok (.dup, 1)) (hva : va.category = 1) (kk : rm_L G ph nL (pc + 1) lv (va :: va :: st) M) : rm_L G ph nL pc lv (va :: st) M := by
  obtain ⟨p, l, e, R, s, m, args, below, meth, c, Q, cy, D, cells, slots⟩ := G
  obtain ⟨hx, hb, hml, hown, hts, hK, hN, hi, hfr, hlo, hc, hs⟩ := hG
  intro ls H locs hl hP hS
  exact lv_dup hx hb hd hva (kk ls H locs hl hP hS)
theorem rr_dup2 (hG : rm_k G ph cc own Ts nL fr lo) {va vb : Value} (hd : decode cc pc = .ok (.dup2, 1)) (hva : va.category = 1) (hvb : vb.category = 1) (kk : rm_L G ph nL (pc + 1) lv (va :: vb :: va :: vb :: st) M) : rm_L G ph nL pc lv (va :: vb :: st) M := by
  obtain ⟨p, l, e, R, s, m, args, below, meth, c, Q, cy, D, cells, slots⟩ := G
  obtain ⟨hx, hb, hml, hown, hts, hK, hN, hi, hfr, hlo, hc, hs⟩ := hG
  intro ls H locs hl hP hS
  exact lv_dup2_11 hx hb hd hva hvb (kk ls H locs hl hP hS)
theorem rr_pop (hG : rm_k G ph cc own Ts nL fr lo) {va : Value} (hd : decode cc pc = .ok (.pop, 1)) (hva : va.category = 1) (kk : rm_L G ph nL (pc + 1) lv (st) M) : rm_L G ph nL pc lv (va :: st) M := by
  obtain ⟨p, l, e, R, s, m, args, below, meth, c, Q, cy, D, cells, slots⟩ := G
  obtain ⟨hx, hb, hml, hown, hts, hK, hN, hi, hfr, hlo, hc, hs⟩ := hG
  intro ls H locs hl hP hS
  exact lv_pop hx hb hd hva (kk ls H locs hl hP hS)
theorem rr_pop2 (hG : rm_k G ph cc own Ts nL fr lo) {va : Value} (hd : decode cc pc = .ok (.pop2, 1)) (hva : va.category = 2) (kk : rm_L G ph nL (pc + 1) lv (st) M) : rm_L G ph nL pc lv (va :: st) M := by
  obtain ⟨p, l, e, R, s, m, args, below, meth, c, Q, cy, D, cells, slots⟩ := G
  obtain ⟨hx, hb, hml, hown, hts, hK, hN, hi, hfr, hlo, hc, hs⟩ := hG
  intro ls H locs hl hP hS
  exact lv_pop2_2 hx hb hd hva (kk ls H locs hl hP hS)
theorem rr_goto (hG : rm_k G ph cc own Ts nL fr lo) {off : Int} {tgt : Nat} (hd : decode cc pc = .ok (.goto off, 3)) (ht : (pc : Int) + off = (tgt : Int)) (kk : rm_L G ph nL tgt lv (st) M) : rm_L G ph nL pc lv (st) M := by
  obtain ⟨p, l, e, R, s, m, args, below, meth, c, Q, cy, D, cells, slots⟩ := G
  obtain ⟨hx, hb, hml, hown, hts, hK, hN, hi, hfr, hlo, hc, hs⟩ := hG
  intro ls H locs hl hP hS
  exact lv_goto hx hb hd ht (kk ls H locs hl hP hS)
theorem rr_icmp_eq (hG : rm_k G ph cc own Ts nL fr lo) {α : Type} {x y : Int32} {off : Int} {tgt : Nat} {X Y : Option α} {rho : α} (hd : decode cc pc = .ok (.if_icmp .eq off, 3)) (ht : (pc : Int) + off = (tgt : Int)) (hf : (if x = y then X else Y) = some rho) (kt : x = y → X = some rho → rm_L G ph nL tgt lv (st) M) (kf : ¬ (x = y) → Y = some rho → rm_L G ph nL (pc + 3) lv (st) M) : rm_L G ph nL pc lv (.int y :: .int x :: st) M := by
  obtain ⟨p, l, e, R, s, m, args, below, meth, c, Q, cy, D, cells, slots⟩ := G
  obtain ⟨hx, hb, hml, hown, hts, hK, hN, hi, hfr, hlo, hc, hs⟩ := hG
  intro ls H locs hl hP hS
  refine lv_icmp_eq hx hb hd ht (fun q => ?_) (fun q => ?_)
  · exact kt q (by rw [if_pos q] at hf; exact hf) ls H locs hl hP hS
  · exact kf q (by rw [if_neg q] at hf; exact hf) ls H locs hl hP hS
theorem rr_if_eq (hG : rm_k G ph cc own Ts nL fr lo) {α : Type} {x : Int32} {off : Int} {tgt : Nat} {X Y : Option α} {rho : α} (hd : decode cc pc = .ok (.ifCond .eq off, 3)) (ht : (pc : Int) + off = (tgt : Int)) (hf : (if x = 0 then X else Y) = some rho) (kt : x = 0 → X = some rho → rm_L G ph nL tgt lv (st) M) (kf : ¬ (x = 0) → Y = some rho → rm_L G ph nL (pc + 3) lv (st) M) : rm_L G ph nL pc lv (.int x :: st) M := by
  obtain ⟨p, l, e, R, s, m, args, below, meth, c, Q, cy, D, cells, slots⟩ := G
  obtain ⟨hx, hb, hml, hown, hts, hK, hN, hi, hfr, hlo, hc, hs⟩ := hG
  intro ls H locs hl hP hS
  refine lv_if_eq hx hb hd ht (fun q => ?_) (fun q => ?_)
  · exact kt q (by rw [if_pos q] at hf; exact hf) ls H locs hl hP hS
  · exact kf q (by rw [if_neg q] at hf; exact hf) ls H locs hl hP hS
theorem rr_icmp_lt (hG : rm_k G ph cc own Ts nL fr lo) {α : Type} {x y : Int32} {off : Int} {tgt : Nat} {X Y : Option α} {rho : α} (hd : decode cc pc = .ok (.if_icmp .lt off, 3)) (ht : (pc : Int) + off = (tgt : Int)) (hf : (if x < y then X else Y) = some rho) (kt : x < y → X = some rho → rm_L G ph nL tgt lv (st) M) (kf : ¬ (x < y) → Y = some rho → rm_L G ph nL (pc + 3) lv (st) M) : rm_L G ph nL pc lv (.int y :: .int x :: st) M := by
  obtain ⟨p, l, e, R, s, m, args, below, meth, c, Q, cy, D, cells, slots⟩ := G
  obtain ⟨hx, hb, hml, hown, hts, hK, hN, hi, hfr, hlo, hc, hs⟩ := hG
  intro ls H locs hl hP hS
  refine lv_icmp_lt hx hb hd ht (fun q => ?_) (fun q => ?_)
  · exact kt q (by rw [if_pos q] at hf; exact hf) ls H locs hl hP hS
  · exact kf q (by rw [if_neg q] at hf; exact hf) ls H locs hl hP hS
theorem rr_if_lt (hG : rm_k G ph cc own Ts nL fr lo) {α : Type} {x : Int32} {off : Int} {tgt : Nat} {X Y : Option α} {rho : α} (hd : decode cc pc = .ok (.ifCond .lt off, 3)) (ht : (pc : Int) + off = (tgt : Int)) (hf : (if x < 0 then X else Y) = some rho) (kt : x < 0 → X = some rho → rm_L G ph nL tgt lv (st) M) (kf : ¬ (x < 0) → Y = some rho → rm_L G ph nL (pc + 3) lv (st) M) : rm_L G ph nL pc lv (.int x :: st) M := by
  obtain ⟨p, l, e, R, s, m, args, below, meth, c, Q, cy, D, cells, slots⟩ := G
  obtain ⟨hx, hb, hml, hown, hts, hK, hN, hi, hfr, hlo, hc, hs⟩ := hG
  intro ls H locs hl hP hS
  refine lv_if_lt hx hb hd ht (fun q => ?_) (fun q => ?_)
  · exact kt q (by rw [if_pos q] at hf; exact hf) ls H locs hl hP hS
  · exact kf q (by rw [if_neg q] at hf; exact hf) ls H locs hl hP hS
theorem rr_icmp_ge (hG : rm_k G ph cc own Ts nL fr lo) {α : Type} {x y : Int32} {off : Int} {tgt : Nat} {X Y : Option α} {rho : α} (hd : decode cc pc = .ok (.if_icmp .ge off, 3)) (ht : (pc : Int) + off = (tgt : Int)) (hf : (if y ≤ x then X else Y) = some rho) (kt : y ≤ x → X = some rho → rm_L G ph nL tgt lv (st) M) (kf : ¬ (y ≤ x) → Y = some rho → rm_L G ph nL (pc + 3) lv (st) M) : rm_L G ph nL pc lv (.int y :: .int x :: st) M := by
  obtain ⟨p, l, e, R, s, m, args, below, meth, c, Q, cy, D, cells, slots⟩ := G
  obtain ⟨hx, hb, hml, hown, hts, hK, hN, hi, hfr, hlo, hc, hs⟩ := hG
  intro ls H locs hl hP hS
  refine lv_icmp_ge hx hb hd ht (fun q => ?_) (fun q => ?_)
  · exact kt q (by rw [if_pos q] at hf; exact hf) ls H locs hl hP hS
  · exact kf q (by rw [if_neg q] at hf; exact hf) ls H locs hl hP hS
theorem rr_if_ge (hG : rm_k G ph cc own Ts nL fr lo) {α : Type} {x : Int32} {off : Int} {tgt : Nat} {X Y : Option α} {rho : α} (hd : decode cc pc = .ok (.ifCond .ge off, 3)) (ht : (pc : Int) + off = (tgt : Int)) (hf : (if 0 ≤ x then X else Y) = some rho) (kt : 0 ≤ x → X = some rho → rm_L G ph nL tgt lv (st) M) (kf : ¬ (0 ≤ x) → Y = some rho → rm_L G ph nL (pc + 3) lv (st) M) : rm_L G ph nL pc lv (.int x :: st) M := by
  obtain ⟨p, l, e, R, s, m, args, below, meth, c, Q, cy, D, cells, slots⟩ := G
  obtain ⟨hx, hb, hml, hown, hts, hK, hN, hi, hfr, hlo, hc, hs⟩ := hG
  intro ls H locs hl hP hS
  refine lv_if_ge hx hb hd ht (fun q => ?_) (fun q => ?_)
  · exact kt q (by rw [if_pos q] at hf; exact hf) ls H locs hl hP hS
  · exact kf q (by rw [if_neg q] at hf; exact hf) ls H locs hl hP hS
theorem rr_icmp_gt (hG : rm_k G ph cc own Ts nL fr lo) {α : Type} {x y : Int32} {off : Int} {tgt : Nat} {X Y : Option α} {rho : α} (hd : decode cc pc = .ok (.if_icmp .gt off, 3)) (ht : (pc : Int) + off = (tgt : Int)) (hf : (if y < x then X else Y) = some rho) (kt : y < x → X = some rho → rm_L G ph nL tgt lv (st) M) (kf : ¬ (y < x) → Y = some rho → rm_L G ph nL (pc + 3) lv (st) M) : rm_L G ph nL pc lv (.int y :: .int x :: st) M := by
  obtain ⟨p, l, e, R, s, m, args, below, meth, c, Q, cy, D, cells, slots⟩ := G
  obtain ⟨hx, hb, hml, hown, hts, hK, hN, hi, hfr, hlo, hc, hs⟩ := hG
  intro ls H locs hl hP hS
  refine lv_icmp_gt hx hb hd ht (fun q => ?_) (fun q => ?_)
  · exact kt q (by rw [if_pos q] at hf; exact hf) ls H locs hl hP hS
  · exact kf q (by rw [if_neg q] at hf; exact hf) ls H locs hl hP hS
theorem rr_if_gt (hG : rm_k G ph cc own Ts nL fr lo) {α : Type} {x : Int32} {off : Int} {tgt : Nat} {X Y : Option α} {rho : α} (hd : decode cc pc = .ok (.ifCond .gt off, 3)) (ht : (pc : Int) + off = (tgt : Int)) (hf : (if 0 < x then X else Y) = some rho) (kt : 0 < x → X = some rho → rm_L G ph nL tgt lv (st) M) (kf : ¬ (0 < x) → Y = some rho → rm_L G ph nL (pc + 3) lv (st) M) : rm_L G ph nL pc lv (.int x :: st) M := by
  obtain ⟨p, l, e, R, s, m, args, below, meth, c, Q, cy, D, cells, slots⟩ := G
  obtain ⟨hx, hb, hml, hown, hts, hK, hN, hi, hfr, hlo, hc, hs⟩ := hG
  intro ls H locs hl hP hS
  refine lv_if_gt hx hb hd ht (fun q => ?_) (fun q => ?_)
  · exact kt q (by rw [if_pos q] at hf; exact hf) ls H locs hl hP hS
  · exact kf q (by rw [if_neg q] at hf; exact hf) ls H locs hl hP hS
theorem rr_icmp_le (hG : rm_k G ph cc own Ts nL fr lo) {α : Type} {x y : Int32} {off : Int} {tgt : Nat} {X Y : Option α} {rho : α} (hd : decode cc pc = .ok (.if_icmp .le off, 3)) (ht : (pc : Int) + off = (tgt : Int)) (hf : (if x ≤ y then X else Y) = some rho) (kt : x ≤ y → X = some rho → rm_L G ph nL tgt lv (st) M) (kf : ¬ (x ≤ y) → Y = some rho → rm_L G ph nL (pc + 3) lv (st) M) : rm_L G ph nL pc lv (.int y :: .int x :: st) M := by
  obtain ⟨p, l, e, R, s, m, args, below, meth, c, Q, cy, D, cells, slots⟩ := G
  obtain ⟨hx, hb, hml, hown, hts, hK, hN, hi, hfr, hlo, hc, hs⟩ := hG
  intro ls H locs hl hP hS
  refine lv_icmp_le hx hb hd ht (fun q => ?_) (fun q => ?_)
  · exact kt q (by rw [if_pos q] at hf; exact hf) ls H locs hl hP hS
  · exact kf q (by rw [if_neg q] at hf; exact hf) ls H locs hl hP hS
theorem rr_if_le (hG : rm_k G ph cc own Ts nL fr lo) {α : Type} {x : Int32} {off : Int} {tgt : Nat} {X Y : Option α} {rho : α} (hd : decode cc pc = .ok (.ifCond .le off, 3)) (ht : (pc : Int) + off = (tgt : Int)) (hf : (if x ≤ 0 then X else Y) = some rho) (kt : x ≤ 0 → X = some rho → rm_L G ph nL tgt lv (st) M) (kf : ¬ (x ≤ 0) → Y = some rho → rm_L G ph nL (pc + 3) lv (st) M) : rm_L G ph nL pc lv (.int x :: st) M := by
  obtain ⟨p, l, e, R, s, m, args, below, meth, c, Q, cy, D, cells, slots⟩ := G
  obtain ⟨hx, hb, hml, hown, hts, hK, hN, hi, hfr, hlo, hc, hs⟩ := hG
  intro ls H locs hl hP hS
  refine lv_if_le hx hb hd ht (fun q => ?_) (fun q => ?_)
  · exact kt q (by rw [if_pos q] at hf; exact hf) ls H locs hl hP hS
  · exact kf q (by rw [if_neg q] at hf; exact hf) ls H locs hl hP hS
theorem rr_icmp_ne (hG : rm_k G ph cc own Ts nL fr lo) {α : Type} {x y : Int32} {off : Int} {tgt : Nat} {X Y : Option α} {rho : α} (hd : decode cc pc = .ok (.if_icmp .ne off, 3)) (ht : (pc : Int) + off = (tgt : Int)) (hf : (if x = y then Y else X) = some rho) (kt : ¬ (x = y) → X = some rho → rm_L G ph nL tgt lv (st) M) (kf : x = y → Y = some rho → rm_L G ph nL (pc + 3) lv (st) M) : rm_L G ph nL pc lv (.int y :: .int x :: st) M := by
  obtain ⟨p, l, e, R, s, m, args, below, meth, c, Q, cy, D, cells, slots⟩ := G
  obtain ⟨hx, hb, hml, hown, hts, hK, hN, hi, hfr, hlo, hc, hs⟩ := hG
  intro ls H locs hl hP hS
  refine lv_icmp_ne hx hb hd ht (fun q => ?_) (fun q => ?_)
  · exact kt q (by rw [if_neg q] at hf; exact hf) ls H locs hl hP hS
  · exact kf q (by rw [if_pos q] at hf; exact hf) ls H locs hl hP hS
theorem rr_if_ne (hG : rm_k G ph cc own Ts nL fr lo) {α : Type} {x : Int32} {off : Int} {tgt : Nat} {X Y : Option α} {rho : α} (hd : decode cc pc = .ok (.ifCond .ne off, 3)) (ht : (pc : Int) + off = (tgt : Int)) (hf : (if x = 0 then Y else X) = some rho) (kt : ¬ (x = 0) → X = some rho → rm_L G ph nL tgt lv (st) M) (kf : x = 0 → Y = some rho → rm_L G ph nL (pc + 3) lv (st) M) : rm_L G ph nL pc lv (.int x :: st) M := by
  obtain ⟨p, l, e, R, s, m, args, below, meth, c, Q, cy, D, cells, slots⟩ := G
  obtain ⟨hx, hb, hml, hown, hts, hK, hN, hi, hfr, hlo, hc, hs⟩ := hG
  intro ls H locs hl hP hS
  refine lv_if_ne hx hb hd ht (fun q => ?_) (fun q => ?_)
  · exact kt q (by rw [if_neg q] at hf; exact hf) ls H locs hl hP hS
  · exact kf q (by rw [if_pos q] at hf; exact hf) ls H locs hl hP hS
theorem rr_tableIn (hG : rm_k G ph cc own Ts nL fr lo) {dflt lw hg : Int} {offs : Array Int} {len : Nat} {x : Int32} {off : Int} {tgt : Nat} (z : Int) (hd : decode cc pc = .ok (.tableswitch dflt lw hg offs, len)) (hz : x.toInt = z) (h1 : ¬ z < lw) (h2 : ¬ hg < z) (ho : offs[(z - lw).toNat]? = some off) (ht : (pc : Int) + off = (tgt : Int)) (kk : rm_L G ph nL tgt lv (st) M) : rm_L G ph nL pc lv (.int x :: st) M := by
  obtain ⟨p, l, e, R, s, m, args, below, meth, c, Q, cy, D, cells, slots⟩ := G
  obtain ⟨hx, hb, hml, hown, hts, hK, hN, hi, hfr, hlo, hc, hs⟩ := hG
  intro ls H locs hl hP hS
  exact lv_tableIn hx hb hd (by rw [hz]; exact h1) (by rw [hz]; exact h2) (by rw [hz]; exact ho) ht (kk ls H locs hl hP hS)
theorem rr_tableOut (hG : rm_k G ph cc own Ts nL fr lo) {dflt lw hg : Int} {offs : Array Int} {len : Nat} {x : Int32} {tgt : Nat} (hd : decode cc pc = .ok (.tableswitch dflt lw hg offs, len)) (h : x.toInt < lw ∨ hg < x.toInt) (ht : (pc : Int) + dflt = (tgt : Int)) (kk : rm_L G ph nL tgt lv (st) M) : rm_L G ph nL pc lv (.int x :: st) M := by
  obtain ⟨p, l, e, R, s, m, args, below, meth, c, Q, cy, D, cells, slots⟩ := G
  obtain ⟨hx, hb, hml, hown, hts, hK, hN, hi, hfr, hlo, hc, hs⟩ := hG
  intro ls H locs hl hP hS
  exact lv_tableOut hx hb hd h ht (kk ls H locs hl hP hS)
theorem rr_lookup (hG : rm_k G ph cc own Ts nL fr lo) {dflt : Int} {ps : Array (Int × Int)} {len : Nat} {x : Int32} {off : Int} {tgt : Nat} (hd : decode cc pc = .ok (.lookupswitch dflt ps, len)) (hp : (ps.toList.zip (ps.toList.drop 1)).all (fun (a, next) => a.1 < next.1) = true) (ho : Op.lookupswitch.offset ps.toList dflt x.toInt = off) (ht : (pc : Int) + off = (tgt : Int)) (kk : rm_L G ph nL tgt lv (st) M) : rm_L G ph nL pc lv (.int x :: st) M := by
  obtain ⟨p, l, e, R, s, m, args, below, meth, c, Q, cy, D, cells, slots⟩ := G
  obtain ⟨hx, hb, hml, hown, hts, hK, hN, hi, hfr, hlo, hc, hs⟩ := hG
  intro ls H locs hl hP hS
  exact lv_lookup hx hb hd hp ho ht (kk ls H locs hl hP hS)
theorem rr_get (hG : rm_k G ph cc own Ts nL fr lo) {C ref : String} {T : u_T} {N index q : Nat} (ci k : Nat) {v : Value} (hd : decode cc pc = .ok (.getfield index, 3)) (hq : rm_kd q = (ci, 0)) (hci : ci < 9) (hcl : vwCl[ci]? = some (C, T, N)) (hin : ∀ w ∈ u_ws C T N, w ∈ Ts) (hk : k < N) (hw : Cond.fieldLink own index ref (T k).2.1 (T k).2.2.1 ∈ Ts) (hr : ref = (T k).1) (hv : (rm_O ph q (M.1 q) (M.2.1 q) M.2.2 ci)[k]? = some v) (kk : rm_L G ph nL (pc + 3) lv (v :: st) M) : rm_L G ph nL pc lv (.ref (ph q) :: st) M := by
  obtain ⟨p, l, e, R, s, m, args, below, meth, c, Q, cy, D, cells, slots⟩ := G
  obtain ⟨hx, hb, hml, hown, hts, hK, hN, hi, hfr, hlo, hc, hs⟩ := hG
  intro ls H locs hl hP hS
  have he := rm_W_at cy ph M (rm_lt (q := q) (by rw [hq]; show ci ≠ 99; omega))
  rw [rm_e_obj cy ph _ _ _ hq hci] at he
  subst hr
  exact va_get (D := D) hx hb hts hin hown hK hP q he hcl k hk (hts _ hw) (fun _ h9 => h9) hv hd (kk ls H locs hl hP hS)
theorem rr_putI (hG : rm_k G ph cc own Ts nL fr lo) {C ref : String} {T : u_T} {N index q : Nat} (ci k : Nat) {x : Int32} {ty : FieldType} {ty0 : Nat → FieldType} (hd : decode cc pc = .ok (.putfield index, 3)) (hq : rm_kd q = (ci, 0)) (hci : ci < 9) (hcl : vwCl[ci]? = some (C, T, N)) (hin : ∀ w ∈ u_ws C T N, w ∈ Ts) (hty : ∀ k, k < N → parseFieldDescriptor (T k).2.2.1 = some (ty0 k)) (hnm : ∀ a, a < N → ∀ b, b < N → a ≠ b → (T a).2.1 ≠ (T b).2.1) (hk : k < N) (hw : Cond.fieldLink own index ref (T k).2.1 (T k).2.2.1 ∈ Ts) (hr : ref = (T k).1) (hfin : (T k).2.2.2 = false) (hpd : ty0 k = ty) (hn : narrow ty (.int x) = .int x) (hfit : fits ty (.int x) = true) (hlen : k < (rm_O ph q (M.1 q) (M.2.1 q) M.2.2 ci).length) (hset : (rm_O ph q (M.1 q) (M.2.1 q) M.2.2 ci).set k (.int x) = rm_O ph q (upd (M.1 q) k x) (M.2.1 q) M.2.2 ci) (kk : rm_L G ph nL (pc + 3) lv (st) (rm_sI M q k x)) : rm_L G ph nL pc lv (.int x :: .ref (ph q) :: st) M := by
  obtain ⟨p, l, e, R, s, m, args, below, meth, c, Q, cy, D, cells, slots⟩ := G
  obtain ⟨hx, hb, hml, hown, hts, hK, hN, hi, hfr, hlo, hc, hs⟩ := hG
  intro ls H locs hl hP hS
  have he := rm_W_at cy ph M (rm_lt (q := q) (by rw [hq]; show ci ≠ 99; omega))
  rw [rm_e_obj cy ph _ _ _ hq hci] at he
  subst hr
  refine va_put (D := D) hx hb hts hin ty0 hty hnm hown hK hP (rm_W_D cy hi M) hS q he hcl k hk (hts _ hw) (fun _ h9 => h9) hfin (by rw [hty k hk, hpd]) hn hfit hlen hd (fun H locs hP hD hS => ?_)
  rw [rm_W_sI_obj cy ph M hq hci hset] at hP
  exact kk ls H locs hl hP hS
theorem rr_putJ (hG : rm_k G ph cc own Ts nL fr lo) {C ref : String} {T : u_T} {N index q : Nat} (ci k : Nat) {x : Int64} {ty : FieldType} {ty0 : Nat → FieldType} (hd : decode cc pc = .ok (.putfield index, 3)) (hq : rm_kd q = (ci, 0)) (hci : ci < 9) (hcl : vwCl[ci]? = some (C, T, N)) (hin : ∀ w ∈ u_ws C T N, w ∈ Ts) (hty : ∀ k, k < N → parseFieldDescriptor (T k).2.2.1 = some (ty0 k)) (hnm : ∀ a, a < N → ∀ b, b < N → a ≠ b → (T a).2.1 ≠ (T b).2.1) (hk : k < N) (hw : Cond.fieldLink own index ref (T k).2.1 (T k).2.2.1 ∈ Ts) (hr : ref = (T k).1) (hfin : (T k).2.2.2 = false) (hpd : ty0 k = ty) (hn : narrow ty (.long x) = .long x) (hfit : fits ty (.long x) = true) (hlen : k < (rm_O ph q (M.1 q) (M.2.1 q) M.2.2 ci).length) (hset : (rm_O ph q (M.1 q) (M.2.1 q) M.2.2 ci).set k (.long x) = rm_O ph q (M.1 q) (vp_updL (M.2.1 q) k x) M.2.2 ci) (kk : rm_L G ph nL (pc + 3) lv (st) (rm_sJ M q k x)) : rm_L G ph nL pc lv (.long x :: .ref (ph q) :: st) M := by
  obtain ⟨p, l, e, R, s, m, args, below, meth, c, Q, cy, D, cells, slots⟩ := G
  obtain ⟨hx, hb, hml, hown, hts, hK, hN, hi, hfr, hlo, hc, hs⟩ := hG
  intro ls H locs hl hP hS
  have he := rm_W_at cy ph M (rm_lt (q := q) (by rw [hq]; show ci ≠ 99; omega))
  rw [rm_e_obj cy ph _ _ _ hq hci] at he
  subst hr
  refine va_put (D := D) hx hb hts hin ty0 hty hnm hown hK hP (rm_W_D cy hi M) hS q he hcl k hk (hts _ hw) (fun _ h9 => h9) hfin (by rw [hty k hk, hpd]) hn hfit hlen hd (fun H locs hP hD hS => ?_)
  rw [rm_W_sJ_obj cy ph M hq hci hset] at hP
  exact kk ls H locs hl hP hS
theorem rr_putR (hG : rm_k G ph cc own Ts nL fr lo) {C ref : String} {T : u_T} {N index v : Nat} (k : Nat) {ty : FieldType} {ty0 : Nat → FieldType} (hd : decode cc pc = .ok (.putfield index, 3)) (hcl : vwCl[7]? = some (C, T, N)) (hin : ∀ w ∈ u_ws C T N, w ∈ Ts) (hty : ∀ k, k < N → parseFieldDescriptor (T k).2.2.1 = some (ty0 k)) (hnm : ∀ a, a < N → ∀ b, b < N → a ≠ b → (T a).2.1 ≠ (T b).2.1) (hk : k < N) (hw : Cond.fieldLink own index ref (T k).2.1 (T k).2.2.1 ∈ Ts) (hr : ref = (T k).1) (hfin : (T k).2.2.2 = false) (hpd : ty0 k = ty) (hn : narrow ty (.ref (ph v)) = .ref (ph v)) (hfit : fits ty (.ref (ph v)) = true) (hlen : k < (rm_O ph 0 (M.1 0) (M.2.1 0) M.2.2 7).length) (hset : (rm_O ph 0 (M.1 0) (M.2.1 0) M.2.2 7).set k (.ref (ph v)) = rm_O ph 0 (M.1 0) (M.2.1 0) (fun a => if a = k then v else M.2.2 a) 7) (kk : rm_L G ph nL (pc + 3) lv (st) (rm_sR M k v)) : rm_L G ph nL pc lv (.ref (ph v) :: .ref (ph 0) :: st) M := by
  obtain ⟨p, l, e, R, s, m, args, below, meth, c, Q, cy, D, cells, slots⟩ := G
  obtain ⟨hx, hb, hml, hown, hts, hK, hN, hi, hfr, hlo, hc, hs⟩ := hG
  intro ls H locs hl hP hS
  have he := rm_W_at cy ph M (show 0 < 96 by decide)
  rw [rm_e_obj cy ph _ _ _ (show rm_kd 0 = (7, 0) from rfl) (by decide)] at he
  subst hr
  refine va_put (D := D) hx hb hts hin ty0 hty hnm hown hK hP (rm_W_D cy hi M) hS 0 he hcl k hk (hts _ hw) (fun _ h9 => h9) hfin (by rw [hty k hk, hpd]) hn hfit hlen hd (fun H locs hP hD hS => ?_)
  rw [rm_W_sR_obj cy ph M hset] at hP
  exact kk ls H locs hl hP hS
theorem rr_iald (hG : rm_k G ph cc own Ts nL fr lo) {α : Type} {X : Option α} {rho : α} {i : Int32} {q n : Nat}  (hd : decode cc pc = .ok (.iaload, 1)) (hq : rm_kd q = (9, n)) (hf : (if rm_ib i n = true then X else none) = some rho) (kk : rm_ib i n = true → X = some rho → rm_L G ph nL (pc + 1) lv (.int (M.1 q i.toNatClampNeg) :: st) M) : rm_L G ph nL pc lv (.int i :: .ref (ph q) :: st) M := by
  have hib : rm_ib i n = true := by
    by_cases h : rm_ib i n = true
    · exact h
    · rw [if_neg h] at hf; cases hf
  rw [if_pos hib] at hf
  have kk := kk hib hf
  have hin := rm_ib_in hib
  obtain ⟨p, l, e, R, s, m, args, below, meth, c, Q, cy, D, cells, slots⟩ := G
  obtain ⟨hx, hb, hml, hown, hts, hK, hN, hi, hfr, hlo, hc, hs⟩ := hG
  intro ls H locs hl hP hS
  have hq1 : (rm_kd q).1 = 9 := by rw [hq]
  have hq2 : (rm_kd q).2 = n := by rw [hq]
  have he := rm_W_at cy ph M (rm_lt (q := q) (by rw [hq1]; decide))
  rw [rm_e_int cy ph _ _ _ hq1, hq2] at he
  exact va_iald (D := D) hx hb hK hP q 0 he rfl hin hd (kk ls H locs hl hP hS)
theorem rr_lald (hG : rm_k G ph cc own Ts nL fr lo) {α : Type} {X : Option α} {rho : α} {i : Int32} {q n : Nat}  (hd : decode cc pc = .ok (.laload, 1)) (hq : rm_kd q = (10, n)) (hf : (if rm_ib i n = true then X else none) = some rho) (kk : rm_ib i n = true → X = some rho → rm_L G ph nL (pc + 1) lv (.long (M.2.1 q i.toNatClampNeg) :: st) M) : rm_L G ph nL pc lv (.int i :: .ref (ph q) :: st) M := by
  have hib : rm_ib i n = true := by
    by_cases h : rm_ib i n = true
    · exact h
    · rw [if_neg h] at hf; cases hf
  rw [if_pos hib] at hf
  have kk := kk hib hf
  have hin := rm_ib_in hib
  obtain ⟨p, l, e, R, s, m, args, below, meth, c, Q, cy, D, cells, slots⟩ := G
  obtain ⟨hx, hb, hml, hown, hts, hK, hN, hi, hfr, hlo, hc, hs⟩ := hG
  intro ls H locs hl hP hS
  have hq1 : (rm_kd q).1 = 10 := by rw [hq]
  have hq2 : (rm_kd q).2 = n := by rw [hq]
  have he := rm_W_at cy ph M (rm_lt (q := q) (by rw [hq1]; decide))
  rw [rm_e_long cy ph _ _ _ hq1, hq2] at he
  exact va_lald (D := D) hx hb hK hP q 1 he rfl hin hd (kk ls H locs hl hP hS)
theorem rr_iast (hG : rm_k G ph cc own Ts nL fr lo) {α : Type} {X : Option α} {rho : α} {i : Int32} {q n : Nat} {x : Int32} (hd : decode cc pc = .ok (.iastore, 1)) (hq : rm_kd q = (9, n)) (hf : (if rm_ib i n = true then X else none) = some rho) (kk : rm_ib i n = true → X = some rho → rm_L G ph nL (pc + 1) lv (st) (rm_sI M q i.toNatClampNeg x)) : rm_L G ph nL pc lv (.int x :: .int i :: .ref (ph q) :: st) M := by
  have hib : rm_ib i n = true := by
    by_cases h : rm_ib i n = true
    · exact h
    · rw [if_neg h] at hf; cases hf
  rw [if_pos hib] at hf
  have kk := kk hib hf
  have hin := rm_ib_in hib
  obtain ⟨p, l, e, R, s, m, args, below, meth, c, Q, cy, D, cells, slots⟩ := G
  obtain ⟨hx, hb, hml, hown, hts, hK, hN, hi, hfr, hlo, hc, hs⟩ := hG
  intro ls H locs hl hP hS
  have hq1 : (rm_kd q).1 = 9 := by rw [hq]
  have hq2 : (rm_kd q).2 = n := by rw [hq]
  have he := rm_W_at cy ph M (rm_lt (q := q) (by rw [hq1]; decide))
  rw [rm_e_int cy ph _ _ _ hq1, hq2] at he
  refine va_iast (D := D) hx hb hK hP (rm_W_D cy hi M) hS q 0 he rfl hin hd (fun H locs hP hD hS => ?_)
  have hw := rm_W_sI_arr cy ph M (q := q) (k := i.toNatClampNeg) (x := x) hq1
  rw [hq2] at hw
  rw [hw] at hP
  exact kk ls H locs hl hP hS
theorem rr_last (hG : rm_k G ph cc own Ts nL fr lo) {α : Type} {X : Option α} {rho : α} {i : Int32} {q n : Nat} {x : Int64} (hd : decode cc pc = .ok (.lastore, 1)) (hq : rm_kd q = (10, n)) (hf : (if rm_ib i n = true then X else none) = some rho) (kk : rm_ib i n = true → X = some rho → rm_L G ph nL (pc + 1) lv (st) (rm_sJ M q i.toNatClampNeg x)) : rm_L G ph nL pc lv (.long x :: .int i :: .ref (ph q) :: st) M := by
  have hib : rm_ib i n = true := by
    by_cases h : rm_ib i n = true
    · exact h
    · rw [if_neg h] at hf; cases hf
  rw [if_pos hib] at hf
  have kk := kk hib hf
  have hin := rm_ib_in hib
  obtain ⟨p, l, e, R, s, m, args, below, meth, c, Q, cy, D, cells, slots⟩ := G
  obtain ⟨hx, hb, hml, hown, hts, hK, hN, hi, hfr, hlo, hc, hs⟩ := hG
  intro ls H locs hl hP hS
  have hq1 : (rm_kd q).1 = 10 := by rw [hq]
  have hq2 : (rm_kd q).2 = n := by rw [hq]
  have he := rm_W_at cy ph M (rm_lt (q := q) (by rw [hq1]; decide))
  rw [rm_e_long cy ph _ _ _ hq1, hq2] at he
  refine va_last (D := D) hx hb hK hP (rm_W_D cy hi M) hS q 1 he rfl hin hd (fun H locs hP hD hS => ?_)
  have hw := rm_W_sJ_arr cy ph M (q := q) (k := i.toNatClampNeg) (x := x) hq1
  rw [hq2] at hw
  rw [hw] at hP
  exact kk ls H locs hl hP hS
theorem rr_aldS (hG : rm_k G ph cc own Ts nL fr lo) {α : Type} {X : Option α} {rho : α} {i : Int32} {q n : Nat}  (hd : decode cc pc = .ok (.aaload, 1)) (hq : rm_kd q = (11, n)) (hf : (if rm_ib i n = true then X else none) = some rho) (kk : rm_ib i n = true → X = some rho → rm_L G ph nL (pc + 1) lv (.ref (ph (q + 56 + 3 * i.toNatClampNeg)) :: st) M) : rm_L G ph nL pc lv (.int i :: .ref (ph q) :: st) M := by
  have hib : rm_ib i n = true := by
    by_cases h : rm_ib i n = true
    · exact h
    · rw [if_neg h] at hf; cases hf
  rw [if_pos hib] at hf
  have kk := kk hib hf
  have hin := rm_ib_in hib
  obtain ⟨p, l, e, R, s, m, args, below, meth, c, Q, cy, D, cells, slots⟩ := G
  obtain ⟨hx, hb, hml, hown, hts, hK, hN, hi, hfr, hlo, hc, hs⟩ := hG
  intro ls H locs hl hP hS
  have hq1 : (rm_kd q).1 = 11 := by rw [hq]
  have hq2 : (rm_kd q).2 = n := by rw [hq]
  have he := rm_W_at cy ph M (rm_lt (q := q) (by rw [hq1]; decide))
  rw [rm_e_st cy ph _ _ _ hq1, hq2] at he
  have hlt : i.toNatClampNeg < n := Nat.not_le.mp fun z => hin (Or.inr z)
  refine va_aldq (D := D) hx hb hK hP q 2 he rfl hin hd ?_
  rw [if_pos hlt]
  exact kk ls H locs hl hP hS
theorem rr_aldR (hG : rm_k G ph cc own Ts nL fr lo) {α : Type} {X : Option α} {rho : α} {i : Int32} {q n : Nat}  (hd : decode cc pc = .ok (.aaload, 1)) (hq : rm_kd q = (12, n)) (hf : (if rm_ib i n = true then X else none) = some rho) (kk : rm_ib i n = true → X = some rho → rm_L G ph nL (pc + 1) lv (.ref (ph (q + 1 + i.toNatClampNeg)) :: st) M) : rm_L G ph nL pc lv (.int i :: .ref (ph q) :: st) M := by
  have hib : rm_ib i n = true := by
    by_cases h : rm_ib i n = true
    · exact h
    · rw [if_neg h] at hf; cases hf
  rw [if_pos hib] at hf
  have kk := kk hib hf
  have hin := rm_ib_in hib
  obtain ⟨p, l, e, R, s, m, args, below, meth, c, Q, cy, D, cells, slots⟩ := G
  obtain ⟨hx, hb, hml, hown, hts, hK, hN, hi, hfr, hlo, hc, hs⟩ := hG
  intro ls H locs hl hP hS
  have hq1 : (rm_kd q).1 = 12 := by rw [hq]
  have hq2 : (rm_kd q).2 = n := by rw [hq]
  have he := rm_W_at cy ph M (rm_lt (q := q) (by rw [hq1]; decide))
  rw [rm_e_ii cy ph _ _ _ hq1, hq2] at he
  have hlt : i.toNatClampNeg < n := Nat.not_le.mp fun z => hin (Or.inr z)
  refine W.aald (v := .ref (ph (q + 1 + i.toNatClampNeg))) (ty := .array .int) hx hb (hP q _ he) ((hK.2 3 _ rfl).1 n (fun j => va_rf (if j < n then some (ph (q + 1 + j)) else none))) rfl (fun q => by cases q) (by show ¬ (i < 0 ∨ (arrV _ _ _).slots.size ≤ _); rw [arrV_size]; exact hin) (by show (arrV _ _ _).slots[_]? = _; rw [arrV_read _ _ hlt, if_pos hlt]; rfl) rfl rfl hd (kk ls H locs hl hP hS)
theorem rr_sub {lv2 : List (Nat × Value)} (ks : List Nat) (hs : lv_pick lv ks = lv2) (kk : rm_L G ph nL pc lv2 st M) : rm_L G ph nL pc lv st M := by
  obtain ⟨p, l, e, R, s, m, args, below, meth, c, Q, cy, D, cells, slots⟩ := G
  intro ls H locs hl hP hS
  exact kk ls H locs (lv_sub hl ks hs) hP hS
theorem rr_bindI {α : Type} {x : Int32} {K : Int32 → Option α} {rho : α} (hf : rm_lt1 x K = some rho) (kk : ∀ y, y = x → K y = some rho → rm_L G ph nL pc lv (.int y :: st) M) : rm_L G ph nL pc lv (.int x :: st) M := kk x rfl hf
theorem rr_bindJ {α : Type} {x : Int64} {K : Int64 → Option α} {rho : α} (hf : rm_lt1 x K = some rho) (kk : ∀ y, y = x → K y = some rho → rm_L G ph nL pc lv (.long y :: st) M) : rm_L G ph nL pc lv (.long x :: st) M := kk x rfl hf
theorem rr_bindP {α : Type} {x : Nat} {K : Nat → Option α} {rho : α} (hf : rm_lt1 x K = some rho) (kk : ∀ y, y = x → K y = some rho → rm_L G ph nL pc lv (.ref (ph y) :: st) M) : rm_L G ph nL pc lv (.ref (ph x) :: st) M := kk x rfl hf
theorem rr_bindM {α : Type} {K : rm_M → Option α} {rho : α} (hf : rm_lt1 M K = some rho) (kk : ∀ M2, M2 = M → K M2 = some rho → rm_L G ph nL pc lv st M2) : rm_L G ph nL pc lv st M := kk M rfl hf
end RMR
end
section
/-! ===== ends, contracts, calls ===== -/
def rm_bd {α β : Type} (X : Option (α × rm_M)) (K : α → rm_M → Option β) : Option β := match X with
  | some q => K q.1 q.2
  | none => none
def rm_bv {β : Type} (X : Option rm_M) (K : rm_M → Option β) : Option β := match X with
  | some q => K q
  | none => none
def rm_z (x : Int32) (M : rm_M) : Option (Int32 × rm_M) := if x = 0 ∨ x = 1 then some (x, M) else none
theorem rm_bd_some {α β : Type} {X : Option (α × rm_M)} {K : α → rm_M → Option β} {rho : β} (h : rm_bd X K = some rho) : ∃ r M, X = some (r, M) ∧ K r M = some rho := by
  cases X with
  | none => cases h
  | some q => exact ⟨q.1, q.2, rfl, h⟩
theorem rm_bv_some {β : Type} {X : Option rm_M} {K : rm_M → Option β} {rho : β} (h : rm_bv X K = some rho) : ∃ M, X = some M ∧ K M = some rho := by
  cases X with
  | none => cases h
  | some q => exact ⟨q, rfl, h⟩
def rm_CI (y : MethodName) (ws : List Cond) (rf rl : Nat) (As : List Value) (ph : Nat → Nat) (M : rm_M) (rho : (Int32 × rm_M)) : Prop := ∀ (l : Launch) (D : va_G) (cy : rm_Y), rm_inj ph → Met l y ws ({ frames := rf, cells := 0, slots := 0, locals := rl }) (va_Pc As (rm_B cy ph D M)) (va_Qi (fun r u => (r, u) = rho) (rm_P cy ph D) (rm_A ph)) 0 0 (rm_A ph)
def rm_rI (G : rm_G) (ph : Nat → Nat) (ty : FieldType) (rho : (Int32 × rm_M)) : Prop :=
  match G with
  | (_, _, _, _, s, _, args, below, meth, _, Q, cy, D, cells, slots) => meth.sig.returnType = some ty ∧ meth.locks = false ∧ cells = 0 ∧ slots = 0 ∧ Q = MQ below (va_Qi (fun r u => (r, u) = rho) (rm_P cy ph D) (rm_A ph)) args s 0 0 (rm_A ph)
def rm_CJ (y : MethodName) (ws : List Cond) (rf rl : Nat) (As : List Value) (ph : Nat → Nat) (M : rm_M) (rho : (Int64 × rm_M)) : Prop := ∀ (l : Launch) (D : va_G) (cy : rm_Y), rm_inj ph → Met l y ws ({ frames := rf, cells := 0, slots := 0, locals := rl }) (va_Pc As (rm_B cy ph D M)) (va_Ql (fun r u => (r, u) = rho) (rm_P cy ph D) (rm_A ph)) 0 0 (rm_A ph)
def rm_rJ (G : rm_G) (ph : Nat → Nat) (rho : (Int64 × rm_M)) : Prop :=
  match G with
  | (_, _, _, _, s, _, args, below, meth, _, Q, cy, D, cells, slots) => meth.sig.returnType = some .long ∧ meth.locks = false ∧ cells = 0 ∧ slots = 0 ∧ Q = MQ below (va_Ql (fun r u => (r, u) = rho) (rm_P cy ph D) (rm_A ph)) args s 0 0 (rm_A ph)
def rm_CV (y : MethodName) (ws : List Cond) (rf rl : Nat) (As : List Value) (ph : Nat → Nat) (M : rm_M) (rho : rm_M) : Prop := ∀ (l : Launch) (D : va_G) (cy : rm_Y), rm_inj ph → Met l y ws ({ frames := rf, cells := 0, slots := 0, locals := rl }) (va_Pc As (rm_B cy ph D M)) (va_Qv (fun u => u = rho) (rm_P cy ph D) (rm_A ph)) 0 0 (rm_A ph)
def rm_rV (G : rm_G) (ph : Nat → Nat) (rho : rm_M) : Prop :=
  match G with
  | (_, _, _, _, s, _, args, below, meth, _, Q, cy, D, cells, slots) => meth.sig.returnType = none ∧ meth.locks = false ∧ cells = 0 ∧ slots = 0 ∧ Q = MQ below (va_Qv (fun u => u = rho) (rm_P cy ph D) (rm_A ph)) args s 0 0 (rm_A ph)
section RMC
variable {G : rm_G} {ph : Nat → Nat} {cc : ByteArray} {own : String} {Ts : List Cond} {nL fr lo pc : Nat} {lv : List (Nat × Value)} {st : List Value} {M : rm_M}
theorem rr_iret (hG : rm_k G ph cc own Ts nL fr lo) {x : Int32} {rho : Int32 × rm_M} (hR : rm_rI G ph .int rho) (hd : decode cc pc = .ok (.ireturn, 1)) (hf : some (x, M) = some rho) : rm_L G ph nL pc lv ([.int x]) M := by
  obtain ⟨p, l, e, R, s, m, args, below, meth, c, Q, cy, D, cells, slots⟩ := G
  obtain ⟨hx, hb, hml, hown, hts, hK, hN, hi, hfr, hlo, hc, hs⟩ := hG
  obtain ⟨hr, hlk, rfl, rfl, rfl⟩ := hR
  intro ls H locs hl hP hS
  exact W.iret (v := x) hx hb hr (fun t ht hW => ⟨⟨x, M, rfl, Option.some.inj hf, by show va_P _ _ _ t.heap; rw [ht]; exact hP⟩, hS.F ht⟩) hS.2.2 hd hlk
theorem rr_zret (hG : rm_k G ph cc own Ts nL fr lo) {x : Int32} {rho : Int32 × rm_M} (hR : rm_rI G ph .boolean rho) (hd : decode cc pc = .ok (.ireturn, 1)) (hf : rm_z x M = some rho) : rm_L G ph nL pc lv ([.int x]) M := by
  have hxx : x = 0 ∨ x = 1 := by
    by_cases h : x = 0 ∨ x = 1
    · exact h
    · rw [rm_z, if_neg h] at hf; cases hf
  rw [rm_z, if_pos hxx] at hf
  have hn : narrow .boolean (.int x) = .int x := by rcases hxx with rfl | rfl <;> decide +kernel
  obtain ⟨p, l, e, R, s, m, args, below, meth, c, Q, cy, D, cells, slots⟩ := G
  obtain ⟨hx, hb, hml, hown, hts, hK, hN, hi, hfr, hlo, hc, hs⟩ := hG
  obtain ⟨hr, hlk, rfl, rfl, rfl⟩ := hR
  intro ls H locs hl hP hS
  exact W.zret (v := x) (ty := .boolean) hx hb hr hn (fun t ht hW => ⟨⟨x, M, rfl, Option.some.inj hf, by show va_P _ _ _ t.heap; rw [ht]; exact hP⟩, hS.F ht⟩) hS.2.2 hd hlk
theorem rr_lret (hG : rm_k G ph cc own Ts nL fr lo) {x : Int64} {rho : Int64 × rm_M} (hR : rm_rJ G ph rho) (hd : decode cc pc = .ok (.lreturn, 1)) (hf : some (x, M) = some rho) : rm_L G ph nL pc lv ([.long x]) M := by
  obtain ⟨p, l, e, R, s, m, args, below, meth, c, Q, cy, D, cells, slots⟩ := G
  obtain ⟨hx, hb, hml, hown, hts, hK, hN, hi, hfr, hlo, hc, hs⟩ := hG
  obtain ⟨hr, hlk, rfl, rfl, rfl⟩ := hR
  intro ls H locs hl hP hS
  exact W.lret (v := x) hx hb hr (fun t ht hW => ⟨⟨x, M, rfl, Option.some.inj hf, by show va_P _ _ _ t.heap; rw [ht]; exact hP⟩, hS.F ht⟩) hS.2.2 hd hlk
theorem rr_vret (hG : rm_k G ph cc own Ts nL fr lo) {rho : rm_M} (hR : rm_rV G ph rho) (hd : decode cc pc = .ok (.return_, 1)) (hf : some M = some rho) : rm_L G ph nL pc lv ([]) M := by
  obtain ⟨p, l, e, R, s, m, args, below, meth, c, Q, cy, D, cells, slots⟩ := G
  obtain ⟨hx, hb, hml, hown, hts, hK, hN, hi, hfr, hlo, hc, hs⟩ := hG
  obtain ⟨hr, hlk, rfl, rfl, rfl⟩ := hR
  intro ls H locs hl hP hS
  exact W.vret hx hb hr (fun t ht hW => ⟨⟨M, rfl, Option.some.inj hf, by show va_P _ _ _ t.heap; rw [ht]; exact hP⟩, hS.F ht⟩) hS.2.2 hd hlk
theorem rr_cVI (hG : rm_k G ph cc own Ts nL fr lo) {α : Type} {X : Option (Int32 × rm_M)} {K : Int32 → rm_M → Option α} {rho : α} {y : MethodName} {ws ws2 : List Cond} {bytes : ByteArray} {maxL rf rl index n : Nat} {ret : Option FieldType} {C : String} {T : u_T} {N q ci : Nat} {stk : List Value} (As : List Value) (hd : decode cc pc = .ok (.invokevirtual index, 3)) (hf : rm_bd X K = some rho) (hq : rm_kd q = (ci, 0)) (hci : ci < 9) (hcl : vwCl[ci]? = some (C, T, N)) (hg : GoodIn Ts (wsV own index C y ws)) (hw : ws = Cond.code y bytes maxL ret :: ws2) (hds : y.cls = C ∧ y.cls ≠ "java/lang/invoke/MethodHandle" ∧ y.cls ≠ "java/lang/invoke/VarHandle" ∧ (parseMethodDescriptor y.desc).map (fun d => d.parameters.length) = some n) (hn : As.length = n) (hrm : rf + 1 ≤ fr ∧ 8 + (maxL + 11) + rl ≤ lo) (hst : stk = As.reverse ++ .ref (ph q) :: st) (hcat : (st.map fun v => v.category).sum ≤ 8) (hM : ∀ r M2, X = some (r, M2) → rm_CI y ws rf rl (.ref (ph q) :: As) ph M (r, M2)) (kk : ∀ r M2, X = some (r, M2) → K r M2 = some rho → rm_L G ph nL (pc + 3) lv (.int r :: st) M2) : rm_L G ph nL pc lv (stk) M := by
  obtain ⟨r, M2, hX, hK2⟩ := rm_bd_some hf
  obtain ⟨p, l, e, R, s, m, args, below, meth, c, Q, cy, D, cells, slots⟩ := G
  obtain ⟨hx, hb, hml, hown, hts, hK, hN, hi, hfr, hlo, hc, hs⟩ := hG
  intro ls H locs hl hP hS
  subst hst
  have he := rm_W_at cy ph M (rm_lt (q := q) (by rw [hq]; show ci ≠ 99; omega))
  rw [rm_e_obj cy ph _ _ _ hq hci] at he
  refine va_calli (va_runV (As := As) (rest := st) ⟨hx, hb, hml, hown, hts⟩ (hM r M2 hX l D cy hi) (cwV n hts hg hw rfl rfl hds ⟨by rw [hfr]; exact hrm.1, by rw [hlo]; exact hrm.2⟩) ⟨fun a U g mk q => ⟨q.1, q.2.1, va_K.moved (u := U) (U := U.calling g mk a) (Vm.Alike.refl U.vm) q.2.2.1, rm_N.same (s := U) (U := U.calling g mk a) rfl q.2.2.2⟩, va_recv hK hP hcl he, fun U hU hW => ⟨rfl, by show va_P _ _ _ U.heap; rw [hU]; exact hP, va_K.moved hW.alike hK, rm_N.warm hW hN⟩⟩ rfl hn hl.1 rfl (lv_room hcat) hd ⟨by simpa using hc, by simpa using hs⟩) hS (fun q _ h => h) (fun q h => h) (fun r1 u t H1 locs1 ht hvm hpost hB hz hk1 hS => ?_)
  have hru : r1 = r ∧ u = M2 := by cases hpost; exact ⟨rfl, rfl⟩
  obtain ⟨rfl, rfl⟩ := hru
  have hP1 : va_P D vwCl (rm_W cy ph u) H1 := by rw [← ht]; exact hB
  exact kk _ _ hX hK2 ls H1 locs1 hl hP1 hS
theorem rr_cSI (hG : rm_k G ph cc own Ts nL fr lo) {α : Type} {X : Option (Int32 × rm_M)} {K : Int32 → rm_M → Option α} {rho : α} {y : MethodName} {ws ws2 : List Cond} {bytes : ByteArray} {maxL rf rl index n : Nat} {ret : Option FieldType} {stk : List Value} (As : List Value) (hd : decode cc pc = .ok (.invokestatic index, 3)) (hf : rm_bd X K = some rho) (hg : GoodIn Ts (va_wsS own index y ws)) (hw : ws = Cond.code y bytes maxL ret :: ws2) (hds : y.cls ≠ "java/lang/invoke/MethodHandle" ∧ y.cls ≠ "java/lang/invoke/VarHandle" ∧ (parseMethodDescriptor y.desc).map (fun d => d.parameters.length) = some n) (hn : As.length = n) (hrm : rf + 1 ≤ fr ∧ 8 + (maxL + 11) + rl ≤ lo) (hst : stk = As.reverse ++ st) (hcat : (st.map fun v => v.category).sum ≤ 8) (hM : ∀ r M2, X = some (r, M2) → rm_CI y ws rf rl (As) ph M (r, M2)) (kk : ∀ r M2, X = some (r, M2) → K r M2 = some rho → rm_L G ph nL (pc + 3) lv (.int r :: st) M2) : rm_L G ph nL pc lv (stk) M := by
  obtain ⟨r, M2, hX, hK2⟩ := rm_bd_some hf
  obtain ⟨p, l, e, R, s, m, args, below, meth, c, Q, cy, D, cells, slots⟩ := G
  obtain ⟨hx, hb, hml, hown, hts, hK, hN, hi, hfr, hlo, hc, hs⟩ := hG
  intro ls H locs hl hP hS
  subst hst
  refine va_calli (va_runS (As := As) (rest := st) ⟨hx, hb, hml, hown, hts⟩ (hM r M2 hX l D cy hi) (va_cwS n hts hg hw rfl rfl hds ⟨by rw [hfr]; exact hrm.1, by rw [hlo]; exact hrm.2⟩) ⟨fun a U g mk q => ⟨q.1, q.2.1, va_K.moved (u := U) (U := U.calling g mk a) (Vm.Alike.refl U.vm) q.2.2.1, rm_N.same (s := U) (U := U.calling g mk a) rfl q.2.2.2⟩, fun U hU hW => ⟨rfl, by show va_P _ _ _ U.heap; rw [hU]; exact hP, va_K.moved hW.alike hK, rm_N.warm hW hN⟩⟩ rfl hn hl.1 rfl (lv_room hcat) hd ⟨by simpa using hc, by simpa using hs⟩) hS (fun q _ h => h) (fun q h => h) (fun r1 u t H1 locs1 ht hvm hpost hB hz hk1 hS => ?_)
  have hru : r1 = r ∧ u = M2 := by cases hpost; exact ⟨rfl, rfl⟩
  obtain ⟨rfl, rfl⟩ := hru
  have hP1 : va_P D vwCl (rm_W cy ph u) H1 := by rw [← ht]; exact hB
  exact kk _ _ hX hK2 ls H1 locs1 hl hP1 hS
theorem rr_cNI (hG : rm_k G ph cc own Ts nL fr lo) {α : Type} {X : Option (Int32 × rm_M)} {K : Int32 → rm_M → Option α} {rho : α} {y : MethodName} {ws ws2 : List Cond} {bytes : ByteArray} {maxL rf rl index n : Nat} {ret : Option FieldType} {stk : List Value} (As : List Value) (hd : decode cc pc = .ok (.invokestatic index, 3)) (hf : rm_bd X K = some rho) (hg : GoodIn Ts ws) (hnl : Cond.methodLinkNest own index y "RingPages" ∈ rm_nw) (hini : Cond.initialized y.cls ∈ Ts) (hsta : Cond.static y ∈ Ts) (hw : ws = Cond.code y bytes maxL ret :: ws2) (hds : y.cls ≠ "java/lang/invoke/MethodHandle" ∧ y.cls ≠ "java/lang/invoke/VarHandle" ∧ (parseMethodDescriptor y.desc).map (fun d => d.parameters.length) = some n) (hn : As.length = n) (hrm : rf + 1 ≤ fr ∧ 8 + (maxL + 11) + rl ≤ lo) (hst : stk = As.reverse ++ st) (hcat : (st.map fun v => v.category).sum ≤ 8) (hM : ∀ r M2, X = some (r, M2) → rm_CI y ws rf rl (As) ph M (r, M2)) (kk : ∀ r M2, X = some (r, M2) → K r M2 = some rho → rm_L G ph nL (pc + 3) lv (.int r :: st) M2) : rm_L G ph nL pc lv (stk) M := by
  obtain ⟨r, M2, hX, hK2⟩ := rm_bd_some hf
  obtain ⟨p, l, e, R, s, m, args, below, meth, c, Q, cy, D, cells, slots⟩ := G
  obtain ⟨hx, hb, hml, hown, hts, hK, hN, hi, hfr, hlo, hc, hs⟩ := hG
  intro ls H locs hl hP hS
  subst hst
  refine va_calli (va_runSN (As := As) (rest := st) ⟨hx, hb, hml, hown, hts⟩ (hM r M2 hX l D cy hi) ⟨va_cnB n hts hg hw rfl rfl (hN _ hnl) (hts _ hini) hds ⟨by rw [hfr]; exact hrm.1, by rw [hlo]; exact hrm.2⟩, hts _ hsta, trivial⟩ ⟨fun a U g mk q => ⟨q.1, q.2.1, va_K.moved (u := U) (U := U.calling g mk a) (Vm.Alike.refl U.vm) q.2.2.1, rm_N.same (s := U) (U := U.calling g mk a) rfl q.2.2.2⟩, fun U hU hW => ⟨rfl, by show va_P _ _ _ U.heap; rw [hU]; exact hP, va_K.moved hW.alike hK, rm_N.warm hW hN⟩⟩ rfl hn hl.1 rfl (lv_room hcat) hd ⟨by simpa using hc, by simpa using hs⟩) hS (fun q _ h => h) (fun q h => h) (fun r1 u t H1 locs1 ht hvm hpost hB hz hk1 hS => ?_)
  have hru : r1 = r ∧ u = M2 := by cases hpost; exact ⟨rfl, rfl⟩
  obtain ⟨rfl, rfl⟩ := hru
  have hP1 : va_P D vwCl (rm_W cy ph u) H1 := by rw [← ht]; exact hB
  exact kk _ _ hX hK2 ls H1 locs1 hl hP1 hS
theorem rr_cVJ (hG : rm_k G ph cc own Ts nL fr lo) {α : Type} {X : Option (Int64 × rm_M)} {K : Int64 → rm_M → Option α} {rho : α} {y : MethodName} {ws ws2 : List Cond} {bytes : ByteArray} {maxL rf rl index n : Nat} {ret : Option FieldType} {C : String} {T : u_T} {N q ci : Nat} {stk : List Value} (As : List Value) (hd : decode cc pc = .ok (.invokevirtual index, 3)) (hf : rm_bd X K = some rho) (hq : rm_kd q = (ci, 0)) (hci : ci < 9) (hcl : vwCl[ci]? = some (C, T, N)) (hg : GoodIn Ts (wsV own index C y ws)) (hw : ws = Cond.code y bytes maxL ret :: ws2) (hds : y.cls = C ∧ y.cls ≠ "java/lang/invoke/MethodHandle" ∧ y.cls ≠ "java/lang/invoke/VarHandle" ∧ (parseMethodDescriptor y.desc).map (fun d => d.parameters.length) = some n) (hn : As.length = n) (hrm : rf + 1 ≤ fr ∧ 8 + (maxL + 11) + rl ≤ lo) (hst : stk = As.reverse ++ .ref (ph q) :: st) (hcat : (st.map fun v => v.category).sum ≤ 8) (hM : ∀ r M2, X = some (r, M2) → rm_CJ y ws rf rl (.ref (ph q) :: As) ph M (r, M2)) (kk : ∀ r M2, X = some (r, M2) → K r M2 = some rho → rm_L G ph nL (pc + 3) lv (.long r :: st) M2) : rm_L G ph nL pc lv (stk) M := by
  obtain ⟨r, M2, hX, hK2⟩ := rm_bd_some hf
  obtain ⟨p, l, e, R, s, m, args, below, meth, c, Q, cy, D, cells, slots⟩ := G
  obtain ⟨hx, hb, hml, hown, hts, hK, hN, hi, hfr, hlo, hc, hs⟩ := hG
  intro ls H locs hl hP hS
  subst hst
  have he := rm_W_at cy ph M (rm_lt (q := q) (by rw [hq]; show ci ≠ 99; omega))
  rw [rm_e_obj cy ph _ _ _ hq hci] at he
  refine va_calll (va_runV (As := As) (rest := st) ⟨hx, hb, hml, hown, hts⟩ (hM r M2 hX l D cy hi) (cwV n hts hg hw rfl rfl hds ⟨by rw [hfr]; exact hrm.1, by rw [hlo]; exact hrm.2⟩) ⟨fun a U g mk q => ⟨q.1, q.2.1, va_K.moved (u := U) (U := U.calling g mk a) (Vm.Alike.refl U.vm) q.2.2.1, rm_N.same (s := U) (U := U.calling g mk a) rfl q.2.2.2⟩, va_recv hK hP hcl he, fun U hU hW => ⟨rfl, by show va_P _ _ _ U.heap; rw [hU]; exact hP, va_K.moved hW.alike hK, rm_N.warm hW hN⟩⟩ rfl hn hl.1 rfl (lv_room hcat) hd ⟨by simpa using hc, by simpa using hs⟩) hS (fun q _ h => h) (fun q h => h) (fun r1 u t H1 locs1 ht hvm hpost hB hz hk1 hS => ?_)
  have hru : r1 = r ∧ u = M2 := by cases hpost; exact ⟨rfl, rfl⟩
  obtain ⟨rfl, rfl⟩ := hru
  have hP1 : va_P D vwCl (rm_W cy ph u) H1 := by rw [← ht]; exact hB
  exact kk _ _ hX hK2 ls H1 locs1 hl hP1 hS
theorem rr_cSJ (hG : rm_k G ph cc own Ts nL fr lo) {α : Type} {X : Option (Int64 × rm_M)} {K : Int64 → rm_M → Option α} {rho : α} {y : MethodName} {ws ws2 : List Cond} {bytes : ByteArray} {maxL rf rl index n : Nat} {ret : Option FieldType} {stk : List Value} (As : List Value) (hd : decode cc pc = .ok (.invokestatic index, 3)) (hf : rm_bd X K = some rho) (hg : GoodIn Ts (va_wsS own index y ws)) (hw : ws = Cond.code y bytes maxL ret :: ws2) (hds : y.cls ≠ "java/lang/invoke/MethodHandle" ∧ y.cls ≠ "java/lang/invoke/VarHandle" ∧ (parseMethodDescriptor y.desc).map (fun d => d.parameters.length) = some n) (hn : As.length = n) (hrm : rf + 1 ≤ fr ∧ 8 + (maxL + 11) + rl ≤ lo) (hst : stk = As.reverse ++ st) (hcat : (st.map fun v => v.category).sum ≤ 8) (hM : ∀ r M2, X = some (r, M2) → rm_CJ y ws rf rl (As) ph M (r, M2)) (kk : ∀ r M2, X = some (r, M2) → K r M2 = some rho → rm_L G ph nL (pc + 3) lv (.long r :: st) M2) : rm_L G ph nL pc lv (stk) M := by
  obtain ⟨r, M2, hX, hK2⟩ := rm_bd_some hf
  obtain ⟨p, l, e, R, s, m, args, below, meth, c, Q, cy, D, cells, slots⟩ := G
  obtain ⟨hx, hb, hml, hown, hts, hK, hN, hi, hfr, hlo, hc, hs⟩ := hG
  intro ls H locs hl hP hS
  subst hst
  refine va_calll (va_runS (As := As) (rest := st) ⟨hx, hb, hml, hown, hts⟩ (hM r M2 hX l D cy hi) (va_cwS n hts hg hw rfl rfl hds ⟨by rw [hfr]; exact hrm.1, by rw [hlo]; exact hrm.2⟩) ⟨fun a U g mk q => ⟨q.1, q.2.1, va_K.moved (u := U) (U := U.calling g mk a) (Vm.Alike.refl U.vm) q.2.2.1, rm_N.same (s := U) (U := U.calling g mk a) rfl q.2.2.2⟩, fun U hU hW => ⟨rfl, by show va_P _ _ _ U.heap; rw [hU]; exact hP, va_K.moved hW.alike hK, rm_N.warm hW hN⟩⟩ rfl hn hl.1 rfl (lv_room hcat) hd ⟨by simpa using hc, by simpa using hs⟩) hS (fun q _ h => h) (fun q h => h) (fun r1 u t H1 locs1 ht hvm hpost hB hz hk1 hS => ?_)
  have hru : r1 = r ∧ u = M2 := by cases hpost; exact ⟨rfl, rfl⟩
  obtain ⟨rfl, rfl⟩ := hru
  have hP1 : va_P D vwCl (rm_W cy ph u) H1 := by rw [← ht]; exact hB
  exact kk _ _ hX hK2 ls H1 locs1 hl hP1 hS
theorem rr_cVV (hG : rm_k G ph cc own Ts nL fr lo) {α : Type} {X : Option rm_M} {K : rm_M → Option α} {rho : α} {y : MethodName} {ws ws2 : List Cond} {bytes : ByteArray} {maxL rf rl index n : Nat} {ret : Option FieldType} {C : String} {T : u_T} {N q ci : Nat} {stk : List Value} (As : List Value) (hd : decode cc pc = .ok (.invokevirtual index, 3)) (hf : rm_bv X K = some rho) (hq : rm_kd q = (ci, 0)) (hci : ci < 9) (hcl : vwCl[ci]? = some (C, T, N)) (hg : GoodIn Ts (wsV own index C y ws)) (hw : ws = Cond.code y bytes maxL ret :: ws2) (hds : y.cls = C ∧ y.cls ≠ "java/lang/invoke/MethodHandle" ∧ y.cls ≠ "java/lang/invoke/VarHandle" ∧ (parseMethodDescriptor y.desc).map (fun d => d.parameters.length) = some n) (hn : As.length = n) (hrm : rf + 1 ≤ fr ∧ 8 + (maxL + 11) + rl ≤ lo) (hst : stk = As.reverse ++ .ref (ph q) :: st) (hcat : (st.map fun v => v.category).sum ≤ 8) (hM : ∀ M2, X = some M2 → rm_CV y ws rf rl (.ref (ph q) :: As) ph M M2) (kk : ∀ M2, X = some M2 → K M2 = some rho → rm_L G ph nL (pc + 3) lv (st) M2) : rm_L G ph nL pc lv (stk) M := by
  obtain ⟨M2, hX, hK2⟩ := rm_bv_some hf
  obtain ⟨p, l, e, R, s, m, args, below, meth, c, Q, cy, D, cells, slots⟩ := G
  obtain ⟨hx, hb, hml, hown, hts, hK, hN, hi, hfr, hlo, hc, hs⟩ := hG
  intro ls H locs hl hP hS
  subst hst
  have he := rm_W_at cy ph M (rm_lt (q := q) (by rw [hq]; show ci ≠ 99; omega))
  rw [rm_e_obj cy ph _ _ _ hq hci] at he
  refine va_callv (va_runV (As := As) (rest := st) ⟨hx, hb, hml, hown, hts⟩ (hM M2 hX l D cy hi) (cwV n hts hg hw rfl rfl hds ⟨by rw [hfr]; exact hrm.1, by rw [hlo]; exact hrm.2⟩) ⟨fun a U g mk q => ⟨q.1, q.2.1, va_K.moved (u := U) (U := U.calling g mk a) (Vm.Alike.refl U.vm) q.2.2.1, rm_N.same (s := U) (U := U.calling g mk a) rfl q.2.2.2⟩, va_recv hK hP hcl he, fun U hU hW => ⟨rfl, by show va_P _ _ _ U.heap; rw [hU]; exact hP, va_K.moved hW.alike hK, rm_N.warm hW hN⟩⟩ rfl hn hl.1 rfl (lv_room hcat) hd ⟨by simpa using hc, by simpa using hs⟩) hS (fun q _ h => h) (fun q h => h) (fun u t H1 locs1 ht hvm hpost hB hz hk1 hS => ?_)
  obtain rfl : u = M2 := hpost
  have hP1 : va_P D vwCl (rm_W cy ph u) H1 := by rw [← ht]; exact hB
  exact kk _ hX hK2 ls H1 locs1 hl hP1 hS
theorem rr_cSV (hG : rm_k G ph cc own Ts nL fr lo) {α : Type} {X : Option rm_M} {K : rm_M → Option α} {rho : α} {y : MethodName} {ws ws2 : List Cond} {bytes : ByteArray} {maxL rf rl index n : Nat} {ret : Option FieldType} {stk : List Value} (As : List Value) (hd : decode cc pc = .ok (.invokestatic index, 3)) (hf : rm_bv X K = some rho) (hg : GoodIn Ts (va_wsS own index y ws)) (hw : ws = Cond.code y bytes maxL ret :: ws2) (hds : y.cls ≠ "java/lang/invoke/MethodHandle" ∧ y.cls ≠ "java/lang/invoke/VarHandle" ∧ (parseMethodDescriptor y.desc).map (fun d => d.parameters.length) = some n) (hn : As.length = n) (hrm : rf + 1 ≤ fr ∧ 8 + (maxL + 11) + rl ≤ lo) (hst : stk = As.reverse ++ st) (hcat : (st.map fun v => v.category).sum ≤ 8) (hM : ∀ M2, X = some M2 → rm_CV y ws rf rl (As) ph M M2) (kk : ∀ M2, X = some M2 → K M2 = some rho → rm_L G ph nL (pc + 3) lv (st) M2) : rm_L G ph nL pc lv (stk) M := by
  obtain ⟨M2, hX, hK2⟩ := rm_bv_some hf
  obtain ⟨p, l, e, R, s, m, args, below, meth, c, Q, cy, D, cells, slots⟩ := G
  obtain ⟨hx, hb, hml, hown, hts, hK, hN, hi, hfr, hlo, hc, hs⟩ := hG
  intro ls H locs hl hP hS
  subst hst
  refine va_callv (va_runS (As := As) (rest := st) ⟨hx, hb, hml, hown, hts⟩ (hM M2 hX l D cy hi) (va_cwS n hts hg hw rfl rfl hds ⟨by rw [hfr]; exact hrm.1, by rw [hlo]; exact hrm.2⟩) ⟨fun a U g mk q => ⟨q.1, q.2.1, va_K.moved (u := U) (U := U.calling g mk a) (Vm.Alike.refl U.vm) q.2.2.1, rm_N.same (s := U) (U := U.calling g mk a) rfl q.2.2.2⟩, fun U hU hW => ⟨rfl, by show va_P _ _ _ U.heap; rw [hU]; exact hP, va_K.moved hW.alike hK, rm_N.warm hW hN⟩⟩ rfl hn hl.1 rfl (lv_room hcat) hd ⟨by simpa using hc, by simpa using hs⟩) hS (fun q _ h => h) (fun q h => h) (fun u t H1 locs1 ht hvm hpost hB hz hk1 hS => ?_)
  obtain rfl : u = M2 := hpost
  have hP1 : va_P D vwCl (rm_W cy ph u) H1 := by rw [← ht]; exact hB
  exact kk _ hX hK2 ls H1 locs1 hl hP1 hS
theorem rr_copy (hG : rm_k G ph cc own Ts nL fr lo) {a b n0 n1 index : Nat} {sp dp n : Int32} (hd : decode cc pc = .ok (.invokestatic index, 3)) (hqa : rm_kd a = (9, n0)) (hqb : rm_kd b = (9, n1)) (h1 : ¬ sp < 0) (h2 : ¬ dp < 0) (h3 : ¬ n < 0) (h4 : sp.toNatClampNeg + n.toNatClampNeg ≤ n0) (h5 : dp.toNatClampNeg + n.toNatClampNeg ≤ n1) (hw1 : Cond.methodLink own index arraycopyName ∈ Ts) (hw2 : Cond.native arraycopyName ∈ Ts) (hw3 : Cond.static arraycopyName ∈ Ts) (hw4 : Cond.initialized "java/lang/System" ∈ Ts) (hf1 : 1 ≤ fr) (hlo1 : (st.map fun v => v.category).sum + (nativeFrameWords "java/lang/System" "arraycopy" 5 + 11) ≤ lo) (kk : rm_L G ph nL (pc + 3) lv (st) (rm_cp M a b sp.toNatClampNeg dp.toNatClampNeg n.toNatClampNeg)) : rm_L G ph nL pc lv (.int n :: .int dp :: .ref (ph b) :: .int sp :: .ref (ph a) :: st) M := by
  obtain ⟨p, l, e, R, s, m, args, below, meth, c, Q, cy, D, cells, slots⟩ := G
  obtain ⟨hx, hb, hml, hown, hts, hK, hN, hi, hfr, hlo, hc, hs⟩ := hG
  intro ls H locs hl hP hS
  have qa1 : (rm_kd a).1 = 9 := by rw [hqa]
  have qa2 : (rm_kd a).2 = n0 := by rw [hqa]
  have qb1 : (rm_kd b).1 = 9 := by rw [hqb]
  have qb2 : (rm_kd b).2 = n1 := by rw [hqb]
  have he := rm_W_at cy ph M (rm_lt (q := a) (by rw [qa1]; decide))
  have he2 := rm_W_at cy ph M (rm_lt (q := b) (by rw [qb1]; decide))
  rw [rm_e_int cy ph _ _ _ qa1, qa2] at he
  rw [rm_e_int cy ph _ _ _ qb1, qb2] at he2
  refine va_copyi (D := D) hx hb (hml.trans hl.1.symm) hown (hts _ hw1) (hts _ hw2) (hts _ hw3) (hts _ hw4) hK hP (rm_W_D cy hi M) hS a b 0 0 he he2 rfl rfl rfl h1 h2 h3 h4 h5 (fun _ _ => rfl) (by rw [hfr]; exact hf1) (by rw [hlo]; exact hlo1) hd (fun H locs hP hD hS => ?_)
  have hw := rm_W_cp cy ph M (a := a) (b := b) (sp := sp.toNatClampNeg) (dp := dp.toNatClampNeg) (n := n.toNatClampNeg) qb1
  rw [qb2] at hw
  rw [hw] at hP
  exact kk ls H locs hl hP hS
end RMC
theorem rm_metI {y : MethodName} {ws ws2 : List Cond} {rf rl : Nat} {As : List Value} {ph : Nat → Nat} {M : rm_M} {rho : (Int32 × rm_M)} {cc : ByteArray} {maxL : Nat} {ty : FieldType} {own : String} {lv : List (Nat × Value)} (hy : plainName y.cls = true) (hw : ws = Cond.code y cc maxL (some ty) :: ws2) (ho : y.cls = own) (hlen : (lg_sl As).length ≤ maxL) (hlv : lv_args 0 As = lv) (body : ∀ G, rm_k G ph cc own ws maxL rf rl → rm_rI G ph ty rho → rm_L G ph maxL 0 lv [] M) : rm_CI y ws rf rl As ph M rho := by
  intro l D cy hi
  refine Met.ofW (cc := cc) (maxL := maxL) (ret := some ty) hy hw ?_
  intro p e s m args below meth c s₁ B hml hv
  obtain ⟨rfl, hP, hK, hN⟩ := hv
  have hts := atoms_spec (ws := ws) B.pre
  have hown : s.vm.findClass own = some m.cls := by rw [← ho]; exact findClass_of_methodNamed B.named
  rw [lg_entry_eq]
  have hl := lv_entry As (n := maxL) hlen
  rw [hlv] at hl
  exact body (p, l, e, _, s, m, _, below, meth, c, _, cy, D, 0, 0) ⟨B.exec, B.bytes, hml, hown, hts, hK, hN, hi, rfl, rfl, Nat.zero_le _, Nat.zero_le _⟩ ⟨B.returns, B.notSynchronized, rfl, rfl, rfl⟩ _ _ _ hl hP va_S.rf
theorem rm_metJ {y : MethodName} {ws ws2 : List Cond} {rf rl : Nat} {As : List Value} {ph : Nat → Nat} {M : rm_M} {rho : (Int64 × rm_M)} {cc : ByteArray} {maxL : Nat} {own : String} {lv : List (Nat × Value)} (hy : plainName y.cls = true) (hw : ws = Cond.code y cc maxL (some .long) :: ws2) (ho : y.cls = own) (hlen : (lg_sl As).length ≤ maxL) (hlv : lv_args 0 As = lv) (body : ∀ G, rm_k G ph cc own ws maxL rf rl → rm_rJ G ph rho → rm_L G ph maxL 0 lv [] M) : rm_CJ y ws rf rl As ph M rho := by
  intro l D cy hi
  refine Met.ofW (cc := cc) (maxL := maxL) (ret := some .long) hy hw ?_
  intro p e s m args below meth c s₁ B hml hv
  obtain ⟨rfl, hP, hK, hN⟩ := hv
  have hts := atoms_spec (ws := ws) B.pre
  have hown : s.vm.findClass own = some m.cls := by rw [← ho]; exact findClass_of_methodNamed B.named
  rw [lg_entry_eq]
  have hl := lv_entry As (n := maxL) hlen
  rw [hlv] at hl
  exact body (p, l, e, _, s, m, _, below, meth, c, _, cy, D, 0, 0) ⟨B.exec, B.bytes, hml, hown, hts, hK, hN, hi, rfl, rfl, Nat.zero_le _, Nat.zero_le _⟩ ⟨B.returns, B.notSynchronized, rfl, rfl, rfl⟩ _ _ _ hl hP va_S.rf
theorem rm_metV {y : MethodName} {ws ws2 : List Cond} {rf rl : Nat} {As : List Value} {ph : Nat → Nat} {M : rm_M} {rho : rm_M} {cc : ByteArray} {maxL : Nat} {own : String} {lv : List (Nat × Value)} (hy : plainName y.cls = true) (hw : ws = Cond.code y cc maxL (none) :: ws2) (ho : y.cls = own) (hlen : (lg_sl As).length ≤ maxL) (hlv : lv_args 0 As = lv) (body : ∀ G, rm_k G ph cc own ws maxL rf rl → rm_rV G ph rho → rm_L G ph maxL 0 lv [] M) : rm_CV y ws rf rl As ph M rho := by
  intro l D cy hi
  refine Met.ofW (cc := cc) (maxL := maxL) (ret := none) hy hw ?_
  intro p e s m args below meth c s₁ B hml hv
  obtain ⟨rfl, hP, hK, hN⟩ := hv
  have hts := atoms_spec (ws := ws) B.pre
  have hown : s.vm.findClass own = some m.cls := by rw [← ho]; exact findClass_of_methodNamed B.named
  rw [lg_entry_eq]
  have hl := lv_entry As (n := maxL) hlen
  rw [hlv] at hl
  exact body (p, l, e, _, s, m, _, below, meth, c, _, cy, D, 0, 0) ⟨B.exec, B.bytes, hml, hown, hts, hK, hN, hi, rfl, rfl, Nat.zero_le _, Nat.zero_le _⟩ ⟨B.returns, B.notSynchronized, rfl, rfl, rfl⟩ _ _ _ hl hP va_S.rf
end
