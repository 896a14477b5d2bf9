section
-- ===== PART A: goes FIRST, ahead of the names: the tables' words, and 'selects' of the private methods out of them =====
/-- a private method of a class that the tables say can be made, by its rows of tables_1 -/
def lw_okq (q : MethodName × Nat) : Prop := (q.1.cls ≠ "java/lang/invoke/MethodHandle" ∧ q.1.cls ≠ "java/lang/invoke/VarHandle") ∧ Cond.instantiable q.1.cls q.2 ∈ tables_1 ∧ Cond.privateMethod q.1 ∈ tables_1 ∧ Cond.instanceMethod q.1 ∈ tables_1
theorem lw_p0 : lw_okq (⟨"RingPages", "layText", "()Z"⟩, 10) := ⟨⟨by decide +kernel, by decide +kernel⟩, List.mem_of_getElem? (i := 18) (by decide +kernel), List.mem_of_getElem? (i := 308) (by decide +kernel), List.mem_of_getElem? (i := 309) (by decide +kernel)⟩
theorem lw_p1 : lw_okq (⟨"RingPages$Text", "readItem", "(LRingPages$Net;LRingPages$State;)Z"⟩, 4) := ⟨⟨by decide +kernel, by decide +kernel⟩, List.mem_of_getElem? (i := 26) (by decide +kernel), List.mem_of_getElem? (i := 332) (by decide +kernel), List.mem_of_getElem? (i := 333) (by decide +kernel)⟩
theorem lw_p2 : lw_okq (⟨"RingPages$Text", "letterHere", "()I"⟩, 4) := ⟨⟨by decide +kernel, by decide +kernel⟩, List.mem_of_getElem? (i := 26) (by decide +kernel), List.mem_of_getElem? (i := 336) (by decide +kernel), List.mem_of_getElem? (i := 337) (by decide +kernel)⟩
theorem lw_p3 : lw_okq (⟨"RingPages$Text", "numbersBehind", "(I)I"⟩, 4) := ⟨⟨by decide +kernel, by decide +kernel⟩, List.mem_of_getElem? (i := 26) (by decide +kernel), List.mem_of_getElem? (i := 340) (by decide +kernel), List.mem_of_getElem? (i := 341) (by decide +kernel)⟩
theorem lw_p4 : lw_okq (⟨"RingPages$Text", "readNumbers", "(I)Z"⟩, 4) := ⟨⟨by decide +kernel, by decide +kernel⟩, List.mem_of_getElem? (i := 26) (by decide +kernel), List.mem_of_getElem? (i := 344) (by decide +kernel), List.mem_of_getElem? (i := 345) (by decide +kernel)⟩
theorem lw_p5 : lw_okq (⟨"RingPages$Text", "readNumber", "()I"⟩, 4) := ⟨⟨by decide +kernel, by decide +kernel⟩, List.mem_of_getElem? (i := 26) (by decide +kernel), List.mem_of_getElem? (i := 348) (by decide +kernel), List.mem_of_getElem? (i := 349) (by decide +kernel)⟩
theorem lw_p6 : lw_okq (⟨"RingPages$Text", "figureHere", "()I"⟩, 4) := ⟨⟨by decide +kernel, by decide +kernel⟩, List.mem_of_getElem? (i := 26) (by decide +kernel), List.mem_of_getElem? (i := 352) (by decide +kernel), List.mem_of_getElem? (i := 353) (by decide +kernel)⟩
theorem lw_p7 : lw_okq (⟨"RingPages$Text", "takeCells", "(LRingPages$Net;)Z"⟩, 4) := ⟨⟨by decide +kernel, by decide +kernel⟩, List.mem_of_getElem? (i := 26) (by decide +kernel), List.mem_of_getElem? (i := 356) (by decide +kernel), List.mem_of_getElem? (i := 357) (by decide +kernel)⟩
theorem lw_p8 : lw_okq (⟨"RingPages$Text", "takeJoin", "(LRingPages$Net;)Z"⟩, 4) := ⟨⟨by decide +kernel, by decide +kernel⟩, List.mem_of_getElem? (i := 26) (by decide +kernel), List.mem_of_getElem? (i := 360) (by decide +kernel), List.mem_of_getElem? (i := 361) (by decide +kernel)⟩
theorem lw_p9 : lw_okq (⟨"RingPages$Text", "isWeight", "(I)Z"⟩, 4) := ⟨⟨by decide +kernel, by decide +kernel⟩, List.mem_of_getElem? (i := 26) (by decide +kernel), List.mem_of_getElem? (i := 364) (by decide +kernel), List.mem_of_getElem? (i := 365) (by decide +kernel)⟩
theorem lw_p10 : lw_okq (⟨"RingPages$Net", "lead", "(III)V"⟩, 12) := ⟨⟨by decide +kernel, by decide +kernel⟩, List.mem_of_getElem? (i := 184) (by decide +kernel), List.mem_of_getElem? (i := 372) (by decide +kernel), List.mem_of_getElem? (i := 373) (by decide +kernel)⟩
theorem lw_p11 : lw_okq (⟨"RingPages$Text", "takeCellNumber", "(LRingPages$Net;[II)Z"⟩, 4) := ⟨⟨by decide +kernel, by decide +kernel⟩, List.mem_of_getElem? (i := 26) (by decide +kernel), List.mem_of_getElem? (i := 376) (by decide +kernel), List.mem_of_getElem? (i := 377) (by decide +kernel)⟩
theorem lw_p12 : lw_okq (⟨"RingPages$Text", "takeLaw", "(LRingPages$State;)Z"⟩, 4) := ⟨⟨by decide +kernel, by decide +kernel⟩, List.mem_of_getElem? (i := 26) (by decide +kernel), List.mem_of_getElem? (i := 380) (by decide +kernel), List.mem_of_getElem? (i := 381) (by decide +kernel)⟩
theorem lw_p13 : lw_okq (⟨"RingPages$Text", "takePrices", "(LRingPages$Net;)Z"⟩, 4) := ⟨⟨by decide +kernel, by decide +kernel⟩, List.mem_of_getElem? (i := 26) (by decide +kernel), List.mem_of_getElem? (i := 387) (by decide +kernel), List.mem_of_getElem? (i := 388) (by decide +kernel)⟩
theorem lw_p14 : lw_okq (⟨"RingPages$Net", "treesTo", "(I)J"⟩, 12) := ⟨⟨by decide +kernel, by decide +kernel⟩, List.mem_of_getElem? (i := 184) (by decide +kernel), List.mem_of_getElem? (i := 403) (by decide +kernel), List.mem_of_getElem? (i := 404) (by decide +kernel)⟩
theorem lw_p15 : lw_okq (⟨"RingPages$Net", "rowOf", "(II)I"⟩, 12) := ⟨⟨by decide +kernel, by decide +kernel⟩, List.mem_of_getElem? (i := 184) (by decide +kernel), List.mem_of_getElem? (i := 413) (by decide +kernel), List.mem_of_getElem? (i := 414) (by decide +kernel)⟩
def lw_privs_1 : List (MethodName × Nat) := [(⟨"RingPages", "layText", "()Z"⟩, 10), (⟨"RingPages$Text", "readItem", "(LRingPages$Net;LRingPages$State;)Z"⟩, 4), (⟨"RingPages$Text", "letterHere", "()I"⟩, 4), (⟨"RingPages$Text", "numbersBehind", "(I)I"⟩, 4), (⟨"RingPages$Text", "readNumbers", "(I)Z"⟩, 4), (⟨"RingPages$Text", "readNumber", "()I"⟩, 4), (⟨"RingPages$Text", "figureHere", "()I"⟩, 4), (⟨"RingPages$Text", "takeCells", "(LRingPages$Net;)Z"⟩, 4), (⟨"RingPages$Text", "takeJoin", "(LRingPages$Net;)Z"⟩, 4), (⟨"RingPages$Text", "isWeight", "(I)Z"⟩, 4), (⟨"RingPages$Net", "lead", "(III)V"⟩, 12), (⟨"RingPages$Text", "takeCellNumber", "(LRingPages$Net;[II)Z"⟩, 4), (⟨"RingPages$Text", "takeLaw", "(LRingPages$State;)Z"⟩, 4), (⟨"RingPages$Text", "takePrices", "(LRingPages$Net;)Z"⟩, 4), (⟨"RingPages$Net", "treesTo", "(I)J"⟩, 12), (⟨"RingPages$Net", "rowOf", "(II)I"⟩, 12)]
theorem lw_r1 : ∀ q ∈ lw_privs_1, lw_okq q := List.forall_mem_cons.mpr ⟨lw_p0, List.forall_mem_cons.mpr ⟨lw_p1, List.forall_mem_cons.mpr ⟨lw_p2, List.forall_mem_cons.mpr ⟨lw_p3, List.forall_mem_cons.mpr ⟨lw_p4, List.forall_mem_cons.mpr ⟨lw_p5, List.forall_mem_cons.mpr ⟨lw_p6, List.forall_mem_cons.mpr ⟨lw_p7, List.forall_mem_cons.mpr ⟨lw_p8, List.forall_mem_cons.mpr ⟨lw_p9, List.forall_mem_cons.mpr ⟨lw_p10, List.forall_mem_cons.mpr ⟨lw_p11, List.forall_mem_cons.mpr ⟨lw_p12, List.forall_mem_cons.mpr ⟨lw_p13, List.forall_mem_cons.mpr ⟨lw_p14, List.forall_mem_cons.mpr ⟨lw_p15, fun _ h => absurd h List.not_mem_nil⟩⟩⟩⟩⟩⟩⟩⟩⟩⟩⟩⟩⟩⟩⟩⟩
theorem lw_p16 : lw_okq (⟨"RingPages$Net", "minorOf", "(II)J"⟩, 12) := ⟨⟨by decide +kernel, by decide +kernel⟩, List.mem_of_getElem? (i := 184) (by decide +kernel), List.mem_of_getElem? (i := 417) (by decide +kernel), List.mem_of_getElem? (i := 418) (by decide +kernel)⟩
theorem lw_p17 : lw_okq (⟨"RingPages", "isCell", "(I)Z"⟩, 10) := ⟨⟨by decide +kernel, by decide +kernel⟩, List.mem_of_getElem? (i := 18) (by decide +kernel), List.mem_of_getElem? (i := 480) (by decide +kernel), List.mem_of_getElem? (i := 481) (by decide +kernel)⟩
theorem lw_p18 : lw_okq (⟨"RingPages$LongRun", "takeTried", "(J)V"⟩, 6) := ⟨⟨by decide +kernel, by decide +kernel⟩, List.mem_of_getElem? (i := 122) (by decide +kernel), List.mem_of_getElem? (i := 521) (by decide +kernel), List.mem_of_getElem? (i := 522) (by decide +kernel)⟩
theorem lw_p19 : lw_okq (⟨"RingPages$LongRun", "nextTried", "(I)Z"⟩, 6) := ⟨⟨by decide +kernel, by decide +kernel⟩, List.mem_of_getElem? (i := 122) (by decide +kernel), List.mem_of_getElem? (i := 526) (by decide +kernel), List.mem_of_getElem? (i := 527) (by decide +kernel)⟩
theorem lw_p20 : lw_okq (⟨"RingPages$LongRun", "highestAhead", "(I)I"⟩, 6) := ⟨⟨by decide +kernel, by decide +kernel⟩, List.mem_of_getElem? (i := 122) (by decide +kernel), List.mem_of_getElem? (i := 530) (by decide +kernel), List.mem_of_getElem? (i := 531) (by decide +kernel)⟩
theorem lw_p21 : lw_okq (⟨"RingPages$State", "isDue", "(LRingPages$Net;)Z"⟩, 10) := ⟨⟨by decide +kernel, by decide +kernel⟩, List.mem_of_getElem? (i := 54) (by decide +kernel), List.mem_of_getElem? (i := 571) (by decide +kernel), List.mem_of_getElem? (i := 572) (by decide +kernel)⟩
theorem lw_p22 : lw_okq (⟨"RingPages", "seek", "()V"⟩, 10) := ⟨⟨by decide +kernel, by decide +kernel⟩, List.mem_of_getElem? (i := 18) (by decide +kernel), List.mem_of_getElem? (i := 583) (by decide +kernel), List.mem_of_getElem? (i := 584) (by decide +kernel)⟩
theorem lw_p23 : lw_okq (⟨"RingPages$Whereabouts", "insideOf", "(LRingPages$Net;LRingPages$State;)I"⟩, 1) := ⟨⟨by decide +kernel, by decide +kernel⟩, List.mem_of_getElem? (i := 152) (by decide +kernel), List.mem_of_getElem? (i := 592) (by decide +kernel), List.mem_of_getElem? (i := 593) (by decide +kernel)⟩
theorem lw_p24 : lw_okq (⟨"RingPages$Whereabouts", "step", "(LRingPages$Net;LRingPages$State;II)Z"⟩, 1) := ⟨⟨by decide +kernel, by decide +kernel⟩, List.mem_of_getElem? (i := 152) (by decide +kernel), List.mem_of_getElem? (i := 597) (by decide +kernel), List.mem_of_getElem? (i := 598) (by decide +kernel)⟩
theorem lw_p25 : lw_okq (⟨"RingPages$Whereabouts", "movers", "(LRingPages$Net;I)I"⟩, 1) := ⟨⟨by decide +kernel, by decide +kernel⟩, List.mem_of_getElem? (i := 152) (by decide +kernel), List.mem_of_getElem? (i := 601) (by decide +kernel), List.mem_of_getElem? (i := 602) (by decide +kernel)⟩
theorem lw_p26 : lw_okq (⟨"RingPages$Whereabouts", "stayers", "(LRingPages$Net;LRingPages$State;I)I"⟩, 1) := ⟨⟨by decide +kernel, by decide +kernel⟩, List.mem_of_getElem? (i := 152) (by decide +kernel), List.mem_of_getElem? (i := 606) (by decide +kernel), List.mem_of_getElem? (i := 607) (by decide +kernel)⟩
theorem lw_p27 : lw_okq (⟨"RingPages$Rounds", "meanPaged", "(I[J)J"⟩, 4) := ⟨⟨by decide +kernel, by decide +kernel⟩, List.mem_of_getElem? (i := 162) (by decide +kernel), List.mem_of_getElem? (i := 621) (by decide +kernel), List.mem_of_getElem? (i := 622) (by decide +kernel)⟩
theorem lw_p28 : lw_okq (⟨"RingPages$Rounds", "isCutBehind", "(II)Z"⟩, 4) := ⟨⟨by decide +kernel, by decide +kernel⟩, List.mem_of_getElem? (i := 162) (by decide +kernel), List.mem_of_getElem? (i := 625) (by decide +kernel), List.mem_of_getElem? (i := 626) (by decide +kernel)⟩
theorem lw_p29 : lw_okq (⟨"RingPages", "rate", "(I)J"⟩, 10) := ⟨⟨by decide +kernel, by decide +kernel⟩, List.mem_of_getElem? (i := 18) (by decide +kernel), List.mem_of_getElem? (i := 670) (by decide +kernel), List.mem_of_getElem? (i := 671) (by decide +kernel)⟩
theorem lw_p30 : lw_okq (⟨"RingPagesModel", "clears", "()V"⟩, 26) := ⟨⟨by decide +kernel, by decide +kernel⟩, List.mem_of_getElem? (i := 704) (by decide +kernel), List.mem_of_getElem? (i := 710) (by decide +kernel), List.mem_of_getElem? (i := 711) (by decide +kernel)⟩
theorem lw_p31 : lw_okq (⟨"RingPagesModel", "joinOf", "(IIII)V"⟩, 26) := ⟨⟨by decide +kernel, by decide +kernel⟩, List.mem_of_getElem? (i := 704) (by decide +kernel), List.mem_of_getElem? (i := 714) (by decide +kernel), List.mem_of_getElem? (i := 715) (by decide +kernel)⟩
def lw_privs_2 : List (MethodName × Nat) := [(⟨"RingPages$Net", "minorOf", "(II)J"⟩, 12), (⟨"RingPages", "isCell", "(I)Z"⟩, 10), (⟨"RingPages$LongRun", "takeTried", "(J)V"⟩, 6), (⟨"RingPages$LongRun", "nextTried", "(I)Z"⟩, 6), (⟨"RingPages$LongRun", "highestAhead", "(I)I"⟩, 6), (⟨"RingPages$State", "isDue", "(LRingPages$Net;)Z"⟩, 10), (⟨"RingPages", "seek", "()V"⟩, 10), (⟨"RingPages$Whereabouts", "insideOf", "(LRingPages$Net;LRingPages$State;)I"⟩, 1), (⟨"RingPages$Whereabouts", "step", "(LRingPages$Net;LRingPages$State;II)Z"⟩, 1), (⟨"RingPages$Whereabouts", "movers", "(LRingPages$Net;I)I"⟩, 1), (⟨"RingPages$Whereabouts", "stayers", "(LRingPages$Net;LRingPages$State;I)I"⟩, 1), (⟨"RingPages$Rounds", "meanPaged", "(I[J)J"⟩, 4), (⟨"RingPages$Rounds", "isCutBehind", "(II)Z"⟩, 4), (⟨"RingPages", "rate", "(I)J"⟩, 10), (⟨"RingPagesModel", "clears", "()V"⟩, 26), (⟨"RingPagesModel", "joinOf", "(IIII)V"⟩, 26)]
theorem lw_r2 : ∀ q ∈ lw_privs_2, lw_okq q := List.forall_mem_cons.mpr ⟨lw_p16, List.forall_mem_cons.mpr ⟨lw_p17, List.forall_mem_cons.mpr ⟨lw_p18, List.forall_mem_cons.mpr ⟨lw_p19, List.forall_mem_cons.mpr ⟨lw_p20, List.forall_mem_cons.mpr ⟨lw_p21, List.forall_mem_cons.mpr ⟨lw_p22, List.forall_mem_cons.mpr ⟨lw_p23, List.forall_mem_cons.mpr ⟨lw_p24, List.forall_mem_cons.mpr ⟨lw_p25, List.forall_mem_cons.mpr ⟨lw_p26, List.forall_mem_cons.mpr ⟨lw_p27, List.forall_mem_cons.mpr ⟨lw_p28, List.forall_mem_cons.mpr ⟨lw_p29, List.forall_mem_cons.mpr ⟨lw_p30, List.forall_mem_cons.mpr ⟨lw_p31, fun _ h => absurd h List.not_mem_nil⟩⟩⟩⟩⟩⟩⟩⟩⟩⟩⟩⟩⟩⟩⟩⟩
theorem lw_p32 : lw_okq (⟨"RingPagesModel", "takes", "()V"⟩, 26) := ⟨⟨by decide +kernel, by decide +kernel⟩, List.mem_of_getElem? (i := 704) (by decide +kernel), List.mem_of_getElem? (i := 718) (by decide +kernel), List.mem_of_getElem? (i := 719) (by decide +kernel)⟩
theorem lw_p33 : lw_okq (⟨"RingPagesModel", "reads", "()I"⟩, 26) := ⟨⟨by decide +kernel, by decide +kernel⟩, List.mem_of_getElem? (i := 704) (by decide +kernel), List.mem_of_getElem? (i := 813) (by decide +kernel), List.mem_of_getElem? (i := 814) (by decide +kernel)⟩
theorem lw_p34 : lw_okq (⟨"RingPagesModel", "readsItem", "(II)Z"⟩, 26) := ⟨⟨by decide +kernel, by decide +kernel⟩, List.mem_of_getElem? (i := 704) (by decide +kernel), List.mem_of_getElem? (i := 817) (by decide +kernel), List.mem_of_getElem? (i := 818) (by decide +kernel)⟩
theorem lw_p35 : lw_okq (⟨"RingPagesModel", "number", "(III)Z"⟩, 26) := ⟨⟨by decide +kernel, by decide +kernel⟩, List.mem_of_getElem? (i := 704) (by decide +kernel), List.mem_of_getElem? (i := 821) (by decide +kernel), List.mem_of_getElem? (i := 822) (by decide +kernel)⟩
theorem lw_p36 : lw_okq (⟨"RingPagesModel", "letterAt", "(I)I"⟩, 26) := ⟨⟨by decide +kernel, by decide +kernel⟩, List.mem_of_getElem? (i := 704) (by decide +kernel), List.mem_of_getElem? (i := 825) (by decide +kernel), List.mem_of_getElem? (i := 826) (by decide +kernel)⟩
theorem lw_p37 : lw_okq (⟨"RingPagesModel", "readsJoin", "(I)Z"⟩, 26) := ⟨⟨by decide +kernel, by decide +kernel⟩, List.mem_of_getElem? (i := 704) (by decide +kernel), List.mem_of_getElem? (i := 832) (by decide +kernel), List.mem_of_getElem? (i := 833) (by decide +kernel)⟩
theorem lw_p38 : lw_okq (⟨"RingPagesModel", "more", "(II)Z"⟩, 26) := ⟨⟨by decide +kernel, by decide +kernel⟩, List.mem_of_getElem? (i := 704) (by decide +kernel), List.mem_of_getElem? (i := 836) (by decide +kernel), List.mem_of_getElem? (i := 837) (by decide +kernel)⟩
theorem lw_p39 : lw_okq (⟨"RingPagesModel", "readsCell", "(II)Z"⟩, 26) := ⟨⟨by decide +kernel, by decide +kernel⟩, List.mem_of_getElem? (i := 704) (by decide +kernel), List.mem_of_getElem? (i := 840) (by decide +kernel), List.mem_of_getElem? (i := 841) (by decide +kernel)⟩
theorem lw_p40 : lw_okq (⟨"RingPagesModel", "readsLaw", "(I)Z"⟩, 26) := ⟨⟨by decide +kernel, by decide +kernel⟩, List.mem_of_getElem? (i := 704) (by decide +kernel), List.mem_of_getElem? (i := 844) (by decide +kernel), List.mem_of_getElem? (i := 845) (by decide +kernel)⟩
theorem lw_p41 : lw_okq (⟨"RingPagesModel", "readsPrice", "(I)Z"⟩, 26) := ⟨⟨by decide +kernel, by decide +kernel⟩, List.mem_of_getElem? (i := 704) (by decide +kernel), List.mem_of_getElem? (i := 851) (by decide +kernel), List.mem_of_getElem? (i := 852) (by decide +kernel)⟩
theorem lw_p42 : lw_okq (⟨"RingPagesModel", "hang", "()Z"⟩, 26) := ⟨⟨by decide +kernel, by decide +kernel⟩, List.mem_of_getElem? (i := 704) (by decide +kernel), List.mem_of_getElem? (i := 859) (by decide +kernel), List.mem_of_getElem? (i := 860) (by decide +kernel)⟩
theorem lw_p43 : lw_okq (⟨"RingPagesModel", "isCell", "(I)Z"⟩, 26) := ⟨⟨by decide +kernel, by decide +kernel⟩, List.mem_of_getElem? (i := 704) (by decide +kernel), List.mem_of_getElem? (i := 871) (by decide +kernel), List.mem_of_getElem? (i := 872) (by decide +kernel)⟩
theorem lw_p44 : lw_okq (⟨"RingPagesModel", "keeps", "()V"⟩, 26) := ⟨⟨by decide +kernel, by decide +kernel⟩, List.mem_of_getElem? (i := 704) (by decide +kernel), List.mem_of_getElem? (i := 875) (by decide +kernel), List.mem_of_getElem? (i := 876) (by decide +kernel)⟩
theorem lw_p45 : lw_okq (⟨"RingPagesModel", "sum", "(I)I"⟩, 26) := ⟨⟨by decide +kernel, by decide +kernel⟩, List.mem_of_getElem? (i := 704) (by decide +kernel), List.mem_of_getElem? (i := 890) (by decide +kernel), List.mem_of_getElem? (i := 891) (by decide +kernel)⟩
theorem lw_p46 : lw_okq (⟨"RingPagesModel", "out", "(I)I"⟩, 26) := ⟨⟨by decide +kernel, by decide +kernel⟩, List.mem_of_getElem? (i := 704) (by decide +kernel), List.mem_of_getElem? (i := 894) (by decide +kernel), List.mem_of_getElem? (i := 895) (by decide +kernel)⟩
theorem lw_p47 : lw_okq (⟨"RingPagesModel", "joined", "(I)I"⟩, 26) := ⟨⟨by decide +kernel, by decide +kernel⟩, List.mem_of_getElem? (i := 704) (by decide +kernel), List.mem_of_getElem? (i := 898) (by decide +kernel), List.mem_of_getElem? (i := 899) (by decide +kernel)⟩
def lw_privs_3 : List (MethodName × Nat) := [(⟨"RingPagesModel", "takes", "()V"⟩, 26), (⟨"RingPagesModel", "reads", "()I"⟩, 26), (⟨"RingPagesModel", "readsItem", "(II)Z"⟩, 26), (⟨"RingPagesModel", "number", "(III)Z"⟩, 26), (⟨"RingPagesModel", "letterAt", "(I)I"⟩, 26), (⟨"RingPagesModel", "readsJoin", "(I)Z"⟩, 26), (⟨"RingPagesModel", "more", "(II)Z"⟩, 26), (⟨"RingPagesModel", "readsCell", "(II)Z"⟩, 26), (⟨"RingPagesModel", "readsLaw", "(I)Z"⟩, 26), (⟨"RingPagesModel", "readsPrice", "(I)Z"⟩, 26), (⟨"RingPagesModel", "hang", "()Z"⟩, 26), (⟨"RingPagesModel", "isCell", "(I)Z"⟩, 26), (⟨"RingPagesModel", "keeps", "()V"⟩, 26), (⟨"RingPagesModel", "sum", "(I)I"⟩, 26), (⟨"RingPagesModel", "out", "(I)I"⟩, 26), (⟨"RingPagesModel", "joined", "(I)I"⟩, 26)]
theorem lw_r3 : ∀ q ∈ lw_privs_3, lw_okq q := List.forall_mem_cons.mpr ⟨lw_p32, List.forall_mem_cons.mpr ⟨lw_p33, List.forall_mem_cons.mpr ⟨lw_p34, List.forall_mem_cons.mpr ⟨lw_p35, List.forall_mem_cons.mpr ⟨lw_p36, List.forall_mem_cons.mpr ⟨lw_p37, List.forall_mem_cons.mpr ⟨lw_p38, List.forall_mem_cons.mpr ⟨lw_p39, List.forall_mem_cons.mpr ⟨lw_p40, List.forall_mem_cons.mpr ⟨lw_p41, List.forall_mem_cons.mpr ⟨lw_p42, List.forall_mem_cons.mpr ⟨lw_p43, List.forall_mem_cons.mpr ⟨lw_p44, List.forall_mem_cons.mpr ⟨lw_p45, List.forall_mem_cons.mpr ⟨lw_p46, List.forall_mem_cons.mpr ⟨lw_p47, fun _ h => absurd h List.not_mem_nil⟩⟩⟩⟩⟩⟩⟩⟩⟩⟩⟩⟩⟩⟩⟩⟩
theorem lw_p48 : lw_okq (⟨"RingPagesModel", "likeArea", "(I)I"⟩, 26) := ⟨⟨by decide +kernel, by decide +kernel⟩, List.mem_of_getElem? (i := 704) (by decide +kernel), List.mem_of_getElem? (i := 902) (by decide +kernel), List.mem_of_getElem? (i := 903) (by decide +kernel)⟩
theorem lw_p49 : lw_okq (⟨"RingPagesModel", "far", "(II)I"⟩, 26) := ⟨⟨by decide +kernel, by decide +kernel⟩, List.mem_of_getElem? (i := 704) (by decide +kernel), List.mem_of_getElem? (i := 914) (by decide +kernel), List.mem_of_getElem? (i := 915) (by decide +kernel)⟩
theorem lw_p50 : lw_okq (⟨"RingPagesModel", "goes", "([II)I"⟩, 26) := ⟨⟨by decide +kernel, by decide +kernel⟩, List.mem_of_getElem? (i := 704) (by decide +kernel), List.mem_of_getElem? (i := 922) (by decide +kernel), List.mem_of_getElem? (i := 923) (by decide +kernel)⟩
theorem lw_p51 : lw_okq (⟨"RingPagesModel", "isDue", "([I)Z"⟩, 26) := ⟨⟨by decide +kernel, by decide +kernel⟩, List.mem_of_getElem? (i := 704) (by decide +kernel), List.mem_of_getElem? (i := 926) (by decide +kernel), List.mem_of_getElem? (i := 927) (by decide +kernel)⟩
theorem lw_p52 : lw_okq (⟨"RingPagesModel", "whereIs", "()I"⟩, 26) := ⟨⟨by decide +kernel, by decide +kernel⟩, List.mem_of_getElem? (i := 704) (by decide +kernel), List.mem_of_getElem? (i := 938) (by decide +kernel), List.mem_of_getElem? (i := 939) (by decide +kernel)⟩
theorem lw_p53 : lw_okq (⟨"RingPagesModel", "allowed", "()I"⟩, 26) := ⟨⟨by decide +kernel, by decide +kernel⟩, List.mem_of_getElem? (i := 704) (by decide +kernel), List.mem_of_getElem? (i := 942) (by decide +kernel), List.mem_of_getElem? (i := 943) (by decide +kernel)⟩
theorem lw_p54 : lw_okq (⟨"RingPagesModel", "grows", "()V"⟩, 26) := ⟨⟨by decide +kernel, by decide +kernel⟩, List.mem_of_getElem? (i := 704) (by decide +kernel), List.mem_of_getElem? (i := 951) (by decide +kernel), List.mem_of_getElem? (i := 952) (by decide +kernel)⟩
theorem lw_p55 : lw_okq (⟨"RingPagesModel", "determinant", "(I)J"⟩, 26) := ⟨⟨by decide +kernel, by decide +kernel⟩, List.mem_of_getElem? (i := 704) (by decide +kernel), List.mem_of_getElem? (i := 955) (by decide +kernel), List.mem_of_getElem? (i := 956) (by decide +kernel)⟩
theorem lw_p56 : lw_okq (⟨"RingPagesModel", "below", "()J"⟩, 26) := ⟨⟨by decide +kernel, by decide +kernel⟩, List.mem_of_getElem? (i := 704) (by decide +kernel), List.mem_of_getElem? (i := 959) (by decide +kernel), List.mem_of_getElem? (i := 960) (by decide +kernel)⟩
theorem lw_p57 : lw_okq (⟨"RingPagesModel", "crossing", "([IIZ)J"⟩, 26) := ⟨⟨by decide +kernel, by decide +kernel⟩, List.mem_of_getElem? (i := 704) (by decide +kernel), List.mem_of_getElem? (i := 973) (by decide +kernel), List.mem_of_getElem? (i := 974) (by decide +kernel)⟩
theorem lw_p58 : lw_okq (⟨"RingPagesModel", "expense", "([II)J"⟩, 26) := ⟨⟨by decide +kernel, by decide +kernel⟩, List.mem_of_getElem? (i := 704) (by decide +kernel), List.mem_of_getElem? (i := 977) (by decide +kernel), List.mem_of_getElem? (i := 978) (by decide +kernel)⟩
theorem lw_p59 : lw_okq (⟨"RingPagesModel", "finds", "()J"⟩, 26) := ⟨⟨by decide +kernel, by decide +kernel⟩, List.mem_of_getElem? (i := 704) (by decide +kernel), List.mem_of_getElem? (i := 987) (by decide +kernel), List.mem_of_getElem? (i := 988) (by decide +kernel)⟩
theorem lw_p60 : lw_okq (⟨"RingPagesModel", "goesOn", "()Z"⟩, 26) := ⟨⟨by decide +kernel, by decide +kernel⟩, List.mem_of_getElem? (i := 704) (by decide +kernel), List.mem_of_getElem? (i := 991) (by decide +kernel), List.mem_of_getElem? (i := 992) (by decide +kernel)⟩
theorem lw_p61 : lw_okq (⟨"RingPagesModel", "splits", "()V"⟩, 26) := ⟨⟨by decide +kernel, by decide +kernel⟩, List.mem_of_getElem? (i := 704) (by decide +kernel), List.mem_of_getElem? (i := 1007) (by decide +kernel), List.mem_of_getElem? (i := 1008) (by decide +kernel)⟩
theorem lw_p62 : lw_okq (⟨"RingPagesModel", "ranks", "()V"⟩, 26) := ⟨⟨by decide +kernel, by decide +kernel⟩, List.mem_of_getElem? (i := 704) (by decide +kernel), List.mem_of_getElem? (i := 1011) (by decide +kernel), List.mem_of_getElem? (i := 1012) (by decide +kernel)⟩
theorem lw_p63 : lw_okq (⟨"RingPagesModel", "paged", "(I)J"⟩, 26) := ⟨⟨by decide +kernel, by decide +kernel⟩, List.mem_of_getElem? (i := 704) (by decide +kernel), List.mem_of_getElem? (i := 1015) (by decide +kernel), List.mem_of_getElem? (i := 1016) (by decide +kernel)⟩
def lw_privs_4 : List (MethodName × Nat) := [(⟨"RingPagesModel", "likeArea", "(I)I"⟩, 26), (⟨"RingPagesModel", "far", "(II)I"⟩, 26), (⟨"RingPagesModel", "goes", "([II)I"⟩, 26), (⟨"RingPagesModel", "isDue", "([I)Z"⟩, 26), (⟨"RingPagesModel", "whereIs", "()I"⟩, 26), (⟨"RingPagesModel", "allowed", "()I"⟩, 26), (⟨"RingPagesModel", "grows", "()V"⟩, 26), (⟨"RingPagesModel", "determinant", "(I)J"⟩, 26), (⟨"RingPagesModel", "below", "()J"⟩, 26), (⟨"RingPagesModel", "crossing", "([IIZ)J"⟩, 26), (⟨"RingPagesModel", "expense", "([II)J"⟩, 26), (⟨"RingPagesModel", "finds", "()J"⟩, 26), (⟨"RingPagesModel", "goesOn", "()Z"⟩, 26), (⟨"RingPagesModel", "splits", "()V"⟩, 26), (⟨"RingPagesModel", "ranks", "()V"⟩, 26), (⟨"RingPagesModel", "paged", "(I)J"⟩, 26)]
theorem lw_r4 : ∀ q ∈ lw_privs_4, lw_okq q := List.forall_mem_cons.mpr ⟨lw_p48, List.forall_mem_cons.mpr ⟨lw_p49, List.forall_mem_cons.mpr ⟨lw_p50, List.forall_mem_cons.mpr ⟨lw_p51, List.forall_mem_cons.mpr ⟨lw_p52, List.forall_mem_cons.mpr ⟨lw_p53, List.forall_mem_cons.mpr ⟨lw_p54, List.forall_mem_cons.mpr ⟨lw_p55, List.forall_mem_cons.mpr ⟨lw_p56, List.forall_mem_cons.mpr ⟨lw_p57, List.forall_mem_cons.mpr ⟨lw_p58, List.forall_mem_cons.mpr ⟨lw_p59, List.forall_mem_cons.mpr ⟨lw_p60, List.forall_mem_cons.mpr ⟨lw_p61, List.forall_mem_cons.mpr ⟨lw_p62, List.forall_mem_cons.mpr ⟨lw_p63, fun _ h => absurd h List.not_mem_nil⟩⟩⟩⟩⟩⟩⟩⟩⟩⟩⟩⟩⟩⟩⟩⟩
def lw_privs : List (MethodName × Nat) := lw_privs_1 ++ (lw_privs_2 ++ (lw_privs_3 ++ (lw_privs_4)))
def lw_tbl : List Cond := k2_sels lw_privs ++ tables_1
theorem lw_privs_ok : ∀ q ∈ lw_privs, lw_okq q := by
  show ∀ q ∈ lw_privs_1 ++ (lw_privs_2 ++ (lw_privs_3 ++ (lw_privs_4))), lw_okq q
  exact List.forall_mem_append.mpr ⟨lw_r1, List.forall_mem_append.mpr ⟨lw_r2, List.forall_mem_append.mpr ⟨lw_r3, lw_r4⟩⟩⟩
-- ===== end of PART A; then your names; then what follows =====
end
section
/-! ===== BEGIN words of one list among another's, by their places ===== -/
theorem goodIn_r {big : List Cond} (ws : List Cond) (ps : List Nat) (hp : ws = ps.filterMap (fun i => big[i]?)) (h : ws.all goodWord = true) : GoodIn big ws := by
  intro w hw
  have h1 := List.all_eq_true.mp h w hw
  rw [hp] at hw
  obtain ⟨i, -, hi⟩ := List.mem_filterMap.mp hw
  have hm : w ∈ big := by first | exact List.mem_of_getElem? hi | exact List.getElem?_mem hi
  exact ⟨hm, good_of_word h1⟩
theorem goodIn_app {big a b : List Cond} (ha : GoodIn big a) (hb : GoodIn big b) : GoodIn big (a ++ b) := fun w h => (List.mem_append.mp h).elim (ha w) (hb w)
theorem goodIn_ca {big a b : List Cond} {c : Cond} (ha : GoodIn big (c :: a)) (hb : GoodIn big b) : GoodIn big (c :: (a ++ b)) := fun w h => (List.mem_cons.mp h).elim (fun e => ha w (List.mem_cons.mpr (Or.inl e))) (fun h => (List.mem_append.mp h).elim (fun h => ha w (List.mem_cons.mpr (Or.inr h))) (hb w))
theorem goodIn_sub {big ws : List Cond} (hm : ∀ w ∈ ws, w ∈ big) (h : ws.all goodWord = true) : GoodIn big ws := fun w hw => ⟨hm w hw, good_of_word (List.all_eq_true.mp h w hw)⟩
/-! ===== END ===== -/

/-! ===== BEGIN new T[n][m]: the outer array a place, the inner ones among the pooled ===== -/
/-- f, but v at every address of l -/
def vr_up {α : Type} (f : Nat → α) (l : List Nat) (v : α) : Nat → α := fun a => if a ∈ l then v else f a
theorem vr_up_in {α : Type} {f : Nat → α} {l : List Nat} {v : α} {a : Nat} (h : a ∈ l) : vr_up f l v a = v := if_pos h
theorem vr_up_ne {α : Type} {f : Nat → α} {l : List Nat} {v : α} {a : Nat} (h : a ∉ l) : vr_up f l v a = f a := if_neg h
theorem vr_rows {L l : List Nat} {f : Nat → va_E} {e : va_E} (h : ∀ a, a ∈ l → a ∉ L) : va_pl L f ++ l.map (fun a => (a, e)) = va_pl (L ++ l) (vr_up f l e) := by
  unfold va_pl
  rw [List.map_append]
  congr 1
  · apply List.map_congr_left
    intro a ha
    rw [vr_up_ne (fun q => h a q ha)]
  · apply List.map_congr_left
    intro a ha
    rw [vr_up_in ha]
theorem vr_lay {X rows : va_W} {x : Nat × va_E} {pl : va_W} {D : va_G} {cl : List vw_C} {H : Heap} (hP : va_P D cl (((X ++ pl) ++ [x]) ++ rows) H) : va_P D cl ((X ++ [x]) ++ (pl ++ rows)) H := by
  rw [List.append_assoc (X ++ pl)] at hP
  have h := va_P.swap hP
  rw [← List.append_assoc X] at h
  have h2 := va_P.swap h
  rw [List.append_assoc (X ++ [x])] at h2
  exact h2
theorem vr_layD {X rows : va_W} {x : Nat × va_E} {pl : va_W} {A : Nat → Prop} (hD : va_D A (((X ++ pl) ++ [x]) ++ rows)) : va_D A ((X ++ [x]) ++ (pl ++ rows)) := by
  rw [List.append_assoc (X ++ pl)] at hD
  have h := va_D.swap hD
  rw [← List.append_assoc X] at h
  have h2 := va_D.swap h
  rw [List.append_assoc (X ++ [x])] at h2
  exact h2
theorem vr_outer (c : ClassId) (N h0 : Nat) : ∀ i : Nat, Jvm.Free.Multi.outerC c N h0 i = arrV c N (fun j => va_rf (if j < i then some (h0 + 1 + j) else none))
  | 0 => by
    show ({ cls := c, slots := Array.replicate N .null, vm := .none } : Cell) = _
    rw [arrV_new]
    refine congrArg (arrV c N) (funext fun j => ?_)
    simp [va_rf]
  | i + 1 => by
    show (Jvm.Free.Multi.outerC c N h0 i).setSlot i (.ref (h0 + 1 + i)) = _
    rw [vr_outer c N h0 i, arrV_store]
    refine congrArg (arrV c N) (funext fun j => ?_)
    by_cases e : j = i
    · subst e
      simp [updV, va_rf]
    · by_cases h : j < i
      · simp [updV, e, h, Nat.lt_succ_of_lt h]
      · simp [updV, e, h, show ¬ j < i + 1 by omega]
section VGM
variable {p : Program} {l : Launch} {e : Env} {R : Room} {s : State} {m : MethodId} {args : Array Value} {below : List Frame} {meth : Method} {c : Code} {H : Heap} {locs : List Loc} {cells slots : Nat} {Q : State → Prop}
variable {cc : ByteArray} {pc : Nat} {ls : Array Slot} {rest : List Value} {D : va_G} {cl : List vw_C} {A : Nat → Prop} {a : Nat} {tys : List (ClassId × FieldType)} {ws : va_W} {H0 : Heap}
theorem va_mna {X : va_W} {L : List Nat} {f : Nat → va_E} {cc : ByteArray} (hexec : p.tables.exec = Jvm.exec) (hb : c.code = cc) {own : String} {index : Nat} {ty : FieldType} {cy : ClassId} (hown : s.vm.findClass own = some m.cls) (hclink : (Cond.classLink own index ("[" ++ (FieldType.array ty).toString)).before args s = true) (hover : va_AOA ty s) (harr : (Cond.arrayClass ty).before args s = true) (hcy : s.vm.findClass (FieldType.array ty).toString = some cy)
    (hK : va_K D cl tys s) (hP : va_P D cl (X ++ va_pl L f) H) (hD : va_D A (X ++ va_pl L f)) (hS : va_S A H0 H locs) (hA : ∀ q, H0.size ≤ q → A q) {n k : Int32} {N' K' : Nat} {z : vp_A} (hn : ¬ n < 0) (hk : ¬ k < 0) (hN : n.toNatClampNeg = N') (hM : k.toNatClampNeg = K')
    (hb1 : N' * 4 ≤ 536870912) (hb2 : K' * componentBytes ty ≤ 536870912) (hb3 : K' ≤ 536870912) (hdf : fits ty (defaultValue ty) = true) (hdd : (defaultValue ty).isDefault = true) (hcells : cells + (1 + N') ≤ R.cells) (hslots : slots + (N' + N' * K') ≤ R.slots) (hz : ∀ c : ClassId, Jvm.Free.Multi.innerC c K' (defaultValue ty) = vp_cell c z) (hdg : decode cc pc = .ok (.multianewarray index 2, 4))
    (kk : ∀ (q : Nat) (r : Nat → Nat) (cA : ClassId) (H1 : Heap), (∀ i j : Nat, i < N' → j < N' → r i = r j → i = j) → (∀ i : Nat, i < N' → r i ∉ L) → va_K D cl (tys ++ [(cA, .array ty)]) s →
      va_P D cl ((X ++ [(q, .inl (cA, N', .inr (.inr (.inr (.inr (fun i => if i < N' then some (r i) else none))))))]) ++ va_pl (L ++ (List.range N').map r) (vr_up f ((List.range N').map r) (.inl (cy, z)))) H1 → va_D A ((X ++ [(q, .inl (cA, N', .inr (.inr (.inr (.inr (fun i => if i < N' then some (r i) else none))))))]) ++ va_pl (L ++ (List.range N').map r) (vr_up f ((List.range N').map r) (.inl (cy, z)))) → va_S A H0 H1 locs →
      W p l e R s m args below meth c H1 locs (cells + 1 + N') (slots + N' + N' * K') Q (F0 m (pc + 4) ls (.ref q :: rest))) : W p l e R s m args below meth c H locs cells slots Q (F0 m pc ls (.int k :: .int n :: rest)) := by
  subst hN
  subst hM
  intro T hT Xs
  obtain ⟨vm₁, cA, comp, -, fA, fC, hO, -, X', step⟩ := Xs.multianewarray2F hexec hown hclink (va_AOA.use hover) harr (g := F0 m pc ls (.int k :: .int n :: rest)) rfl (by rw [hb]; exact hdg) rfl hn hk hb1 hb2 hb3 hdf hdd hcells hslots
  have ec : some cy = some comp := hcy.symm.trans fC
  cases ec
  generalize hF : Jvm.Free.Multi.fill (T.setVm vm₁) cA cy n.toNatClampNeg k.toNatClampNeg (defaultValue ty) n.toNatClampNeg = F at X' step
  have hTh : (T.setVm vm₁).heap = H := hT
  obtain ⟨f1, f2, -, -⟩ := Jvm.Free.Multi.fill_facts (T.setVm vm₁) cA cy n.toNatClampNeg k.toNatClampNeg (defaultValue ty) n.toNatClampNeg
  rw [hF, hTh] at f1 f2
  have hold : ∀ x : Nat, x < H.size → F.heap[x]? = H[x]? := fun x hx => by
    have := Jvm.Free.Multi.fill_old (T.setVm vm₁) cA cy n.toNatClampNeg k.toNatClampNeg (defaultValue ty) (a := x) (by rw [hTh]; exact hx) n.toNatClampNeg
    rw [hF, hTh] at this
    exact this
  have hrow : ∀ j : Nat, j < n.toNatClampNeg → F.heap[H.size + 1 + j]? = some (vp_cell cy z) := fun j hj => by
    have := Jvm.Free.Multi.fill_inner (T.setVm vm₁) cA cy n.toNatClampNeg k.toNatClampNeg (defaultValue ty) n.toNatClampNeg j hj
    rw [hF, hTh, hz] at this
    exact this
  have hout : Jvm.Free.Multi.outerC cA n.toNatClampNeg H.size n.toNatClampNeg = vp_cell cA (n.toNatClampNeg, .inr (.inr (.inr (.inr (fun i => if i < n.toNatClampNeg then some (H.size + 1 + i) else none))))) := by
    rw [vp_cell_q]
    exact vr_outer cA n.toNatClampNeg H.size n.toNatClampNeg
  rw [hout] at f2
  have hlt : ∀ a, a ∈ L → a < H.size := fun a ha => by
    obtain ⟨k9, hk9⟩ := va_pl_get (X := X) (f := f) ha
    exact (hP k9 _ hk9).lt
  have hnl : ∀ i : Nat, i < n.toNatClampNeg → H.size + 1 + i ∉ L := fun i _ h => by
    have := hlt _ h
    omega
  have hnm : ∀ a, a ∈ (List.range n.toNatClampNeg).map (fun i => H.size + 1 + i) → a ∉ L := fun a ha h => by
    obtain ⟨i, -, rfl⟩ := List.mem_map.mp ha
    have := hlt _ h
    omega
  have hP0 : va_P D cl (X ++ va_pl L f) F.heap := hP.kept (fun k9 x hx => hold x.1 ((hP k9 x hx).lt))
  have hP1 : va_P D cl ((X ++ va_pl L f) ++ [(H.size, .inl (cA, n.toNatClampNeg, .inr (.inr (.inr (.inr (fun i => if i < n.toNatClampNeg then some (H.size + 1 + i) else none))))))]) F.heap := hP0.app (fun k9 x hx => by
    have h0 : k9 < 1 := (List.getElem?_eq_some_iff.mp hx).1
    rw [show k9 = 0 by omega] at hx
    cases hx
    exact f2)
  have hP2 : va_P D cl (((X ++ va_pl L f) ++ [(H.size, .inl (cA, n.toNatClampNeg, .inr (.inr (.inr (.inr (fun i => if i < n.toNatClampNeg then some (H.size + 1 + i) else none))))))]) ++ ((List.range n.toNatClampNeg).map (fun i => H.size + 1 + i)).map (fun a => (a, .inl (cy, z)))) F.heap := hP1.app (fun k9 x hx => by
    obtain ⟨a, ha, rfl⟩ := List.mem_map.mp (List.mem_of_getElem? hx)
    obtain ⟨i, hi, rfl⟩ := List.mem_map.mp ha
    exact hrow i (List.mem_range.mp hi))
  have hD2 : va_D A (((X ++ va_pl L f) ++ [(H.size, .inl (cA, n.toNatClampNeg, .inr (.inr (.inr (.inr (fun i => if i < n.toNatClampNeg then some (H.size + 1 + i) else none))))))]) ++ ((List.range n.toNatClampNeg).map (fun i => H.size + 1 + i)).map (fun a => (a, .inl (cy, z)))) := by
    have hD1 := hD.push (e := .inl (cA, n.toNatClampNeg, .inr (.inr (.inr (.inr (fun i => if i < n.toNatClampNeg then some (H.size + 1 + i) else none)))))) hP rfl (hA _ hS.1)
    generalize hW1 : (X ++ va_pl L f) ++ [(H.size, .inl (cA, n.toNatClampNeg, .inr (.inr (.inr (.inr (fun i => if i < n.toNatClampNeg then some (H.size + 1 + i) else none))))))] = W1 at hD1 hP1 ⊢
    have hle : ∀ (k9 : Nat) (x : Nat × va_E), W1[k9]? = some x → x.1 ≤ H.size := fun k9 x hx => by
      rw [← hW1] at hx
      by_cases hl : k9 < (X ++ va_pl L f).length
      · rw [List.getElem?_append_left hl] at hx
        exact Nat.le_of_lt ((hP k9 x hx).lt)
      · rw [List.getElem?_append_right (by omega)] at hx
        have h0 : k9 - (X ++ va_pl L f).length < 1 := (List.getElem?_eq_some_iff.mp hx).1
        rw [show k9 - (X ++ va_pl L f).length = 0 by omega] at hx
        cases hx
        exact Nat.le_refl _
    have hr : ∀ (k9 : Nat) (x : Nat × va_E), (((List.range n.toNatClampNeg).map (fun i => H.size + 1 + i)).map (fun a => ((a, .inl (cy, z)) : Nat × va_E)))[k9]? = some x → x.1 = H.size + 1 + k9 := fun k9 x hx => by
      rw [List.getElem?_map, List.getElem?_map] at hx
      by_cases h9 : k9 < n.toNatClampNeg
      · rw [List.getElem?_range h9] at hx
        cases hx
        rfl
      · have hn0 : (List.range n.toNatClampNeg)[k9]? = none := List.getElem?_eq_none (by rw [List.length_range]; omega)
        rw [hn0] at hx
        cases hx
    refine ⟨fun i j x y hi hj hxy => ?_, fun k9 x hx => ?_⟩
    · by_cases h1 : i < W1.length <;> by_cases h2 : j < W1.length
      · rw [List.getElem?_append_left h1] at hi
        rw [List.getElem?_append_left h2] at hj
        exact hD1.1 i j x y hi hj hxy
      · rw [List.getElem?_append_left h1] at hi
        rw [List.getElem?_append_right (by omega)] at hj
        have := hle _ _ hi
        have := hr _ _ hj
        omega
      · rw [List.getElem?_append_right (by omega)] at hi
        rw [List.getElem?_append_left h2] at hj
        have := hle _ _ hj
        have := hr _ _ hi
        omega
      · rw [List.getElem?_append_right (by omega)] at hi hj
        have := hr _ _ hi
        have := hr _ _ hj
        omega
    · by_cases h1 : k9 < W1.length
      · rw [List.getElem?_append_left h1] at hx
        exact hD1.2 k9 x hx
      · rw [List.getElem?_append_right (by omega)] at hx
        have := hr _ _ hx
        exact hA _ (by have := hS.1; omega)
  have hAr : ArrOfT s cA (.array ty) := fun N9 z9 => by
    obtain ⟨-, k9, hk9, cm9, hkk9⟩ := (hO 0 0 0).1
    exact ⟨(fun q hq => by cases hq), k9, hk9, cm9, hkk9⟩
  have hK2 : va_K D cl (tys ++ [(cA, .array ty)]) s := ⟨hK.1, fun k9 x hx => by
    by_cases hl : k9 < tys.length
    · rw [List.getElem?_append_left hl] at hx
      exact hK.2 k9 x hx
    · rw [List.getElem?_append_right (by omega)] at hx
      have h0 : k9 - tys.length < 1 := (List.getElem?_eq_some_iff.mp hx).1
      rw [show k9 - tys.length = 0 by omega] at hx
      cases hx
      exact ⟨hAr, fA⟩⟩
  obtain ⟨t, a1, b1⟩ := kk H.size (fun i => H.size + 1 + i) cA F.heap (fun i j _ _ h => by have h9 : H.size + 1 + i = H.size + 1 + j := h; omega) hnl hK2 (by rw [← vr_rows hnm]; exact vr_lay hP2) (by rw [← vr_rows hnm]; exact vr_layD hD2) ⟨by rw [f1]; have := hS.1; omega, fun x h1 h2 => (hold x (Nat.lt_of_lt_of_le h1 hS.1)).trans (hS.2.1 x h1 h2), hS.2.2⟩ F rfl X'
  refine ⟨t, step t ?_, b1⟩
  have e : T.heap.size = H.size := by rw [hT]
  rw [e]
  exact a1
end VGM
/-! ===== END ===== -/

/-! ===== BEGIN printed: names, fields, word lists, decode rows ===== -/
def RX0 : String := "RingPages$LongRun"
def TX0 : u_T := fun k => match k with
  | 0 => ("RingPages$LongRun", "above", "[J", true)
  | 1 => ("RingPages$LongRun", "below", "J", false)
  | 2 => ("RingPages$LongRun", "best", "[I", true)
  | 3 => ("RingPages$LongRun", "leastExpense", "J", false)
  | 4 => ("RingPages$LongRun", "bestKnown", "Z", false)
  | _ => ("RingPages$LongRun", "tried", "[I", true)
def tyX0 : Nat → FieldType := fun k => match k with
  | 0 => .array .long
  | 1 => .long
  | 2 => .array .int
  | 3 => .long
  | 4 => .boolean
  | _ => .array .int
abbrev wsX00 : List Cond := u_ws RX0 TX0 6
theorem nmX0 : ∀ a, a < 6 → ∀ b, b < 6 → a ≠ b → (TX0 a).2.1 ≠ (TX0 b).2.1 := by decide +kernel
theorem tyX0_ok : ∀ k, k < 6 → parseFieldDescriptor (TX0 k).2.2.1 = some (tyX0 k) := by decide +kernel
abbrev cX0_init : ByteArray := prog_2_method_1_code
def yX0_init : MethodName := ⟨RX0, "<init>", "()V"⟩
abbrev cX0_reckon : ByteArray := prog_2_method_2_code
def yX0_reckon : MethodName := ⟨RX0, "reckon", "(LRingPages$Net;LRingPages$State;)V"⟩
abbrev cX0_crosses : ByteArray := prog_2_method_3_code
def yX0_crosses : MethodName := ⟨RX0, "crosses", "(LRingPages$Net;[I)J"⟩
abbrev cX0_movesOn : ByteArray := prog_2_method_4_code
def yX0_movesOn : MethodName := ⟨RX0, "movesOn", "(LRingPages$Net;)J"⟩
abbrev cX0_expense : ByteArray := prog_2_method_5_code
def yX0_expense : MethodName := ⟨RX0, "expense", "(LRingPages$Net;[I)J"⟩
abbrev cX0_findBest : ByteArray := prog_2_method_6_code
def yX0_findBest : MethodName := ⟨RX0, "findBest", "(LRingPages$Net;)V"⟩
abbrev cX0_takeTried : ByteArray := prog_2_method_7_code
def yX0_takeTried : MethodName := ⟨RX0, "takeTried", "(J)V"⟩
abbrev cX0_nextTried : ByteArray := prog_2_method_8_code
def yX0_nextTried : MethodName := ⟨RX0, "nextTried", "(I)Z"⟩
abbrev cX0_highestAhead : ByteArray := prog_2_method_9_code
def yX0_highestAhead : MethodName := ⟨RX0, "highestAhead", "(I)I"⟩
def RX1 : String := "RingPages$Net"
def TX1 : u_T := fun k => match k with
  | 0 => ("RingPages$Net", "cells", "I", false)
  | 1 => ("RingPages$Net", "joins", "I", false)
  | 2 => ("RingPages$Net", "mostRounds", "I", false)
  | 3 => ("RingPages$Net", "pageCost", "I", false)
  | 4 => ("RingPages$Net", "updateCost", "I", false)
  | 5 => ("RingPages$Net", "callChance", "I", false)
  | 6 => ("RingPages$Net", "weight", "[[I", true)
  | 7 => ("RingPages$Net", "wide", "[[I", true)
  | 8 => ("RingPages$Net", "near", "[I", true)
  | 9 => ("RingPages$Net", "out", "[I", true)
  | 10 => ("RingPages$Net", "trees", "[J", true)
  | _ => ("RingPages$Net", "minors", "[J", true)
def tyX1 : Nat → FieldType := fun k => match k with
  | 0 => .int
  | 1 => .int
  | 2 => .int
  | 3 => .int
  | 4 => .int
  | 5 => .int
  | 6 => .array (.array .int)
  | 7 => .array (.array .int)
  | 8 => .array .int
  | 9 => .array .int
  | 10 => .array .long
  | _ => .array .long
abbrev wsX10 : List Cond := u_ws RX1 TX1 12
theorem nmX1 : ∀ a, a < 12 → ∀ b, b < 12 → a ≠ b → (TX1 a).2.1 ≠ (TX1 b).2.1 := by decide +kernel
theorem tyX1_ok : ∀ k, k < 12 → parseFieldDescriptor (TX1 k).2.2.1 = some (tyX1 k) := by decide +kernel
abbrev cX1_init : ByteArray := prog_3_method_1_code
def yX1_init : MethodName := ⟨RX1, "<init>", "()V"⟩
abbrev cX1_begin : ByteArray := prog_3_method_2_code
def yX1_begin : MethodName := ⟨RX1, "begin", "(I)V"⟩
abbrev cX1_price : ByteArray := prog_3_method_3_code
def yX1_price : MethodName := ⟨RX1, "price", "(IIII)V"⟩
abbrev cX1_join : ByteArray := prog_3_method_4_code
def yX1_join : MethodName := ⟨RX1, "join", "(IIII)V"⟩
abbrev cX1_lead : ByteArray := prog_3_method_5_code
def yX1_lead : MethodName := ⟨RX1, "lead", "(III)V"⟩
abbrev cX1_isWhole : ByteArray := prog_3_method_6_code
def yX1_isWhole : MethodName := ⟨RX1, "isWhole", "()Z"⟩
abbrev cX1_growTrees : ByteArray := prog_3_method_7_code
def yX1_growTrees : MethodName := ⟨RX1, "growTrees", "()V"⟩
abbrev cX1_treesTo : ByteArray := prog_3_method_8_code
def yX1_treesTo : MethodName := ⟨RX1, "treesTo", "(I)J"⟩
abbrev cX1_rowOf : ByteArray := prog_3_method_9_code
def yX1_rowOf : MethodName := ⟨RX1, "rowOf", "(II)I"⟩
abbrev cX1_minorOf : ByteArray := prog_3_method_10_code
def yX1_minorOf : MethodName := ⟨RX1, "minorOf", "(II)J"⟩
def RX2 : String := "RingPages$Past"
def TX2 : u_T := fun k => match k with
  | 0 => ("RingPages$Past", "kept", "[LRingPages$State;", true)
  | 1 => ("RingPages$Past", "next", "I", false)
  | _ => ("RingPages$Past", "held", "I", false)
def tyX2 : Nat → FieldType := fun k => match k with
  | 0 => .array (.object "RingPages$State")
  | 1 => .int
  | _ => .int
abbrev wsX20 : List Cond := u_ws RX2 TX2 3
theorem nmX2 : ∀ a, a < 3 → ∀ b, b < 3 → a ≠ b → (TX2 a).2.1 ≠ (TX2 b).2.1 := by decide +kernel
theorem tyX2_ok : ∀ k, k < 3 → parseFieldDescriptor (TX2 k).2.2.1 = some (tyX2 k) := by decide +kernel
abbrev cX2_init : ByteArray := prog_4_method_1_code
def yX2_init : MethodName := ⟨RX2, "<init>", "()V"⟩
abbrev cX2_keep : ByteArray := prog_4_method_2_code
def yX2_keep : MethodName := ⟨RX2, "keep", "(LRingPages$State;)V"⟩
abbrev cX2_bringBack : ByteArray := prog_4_method_3_code
def yX2_bringBack : MethodName := ⟨RX2, "bringBack", "(LRingPages$State;)Z"⟩
def RX3 : String := "RingPages$Rounds"
def TX3 : u_T := fun k => match k with
  | 0 => ("RingPages$Rounds", "row", "[I", true)
  | 1 => ("RingPages$Rounds", "length", "I", false)
  | 2 => ("RingPages$Rounds", "cuts", "I", false)
  | _ => ("RingPages$Rounds", "many", "I", false)
def tyX3 : Nat → FieldType := fun k => match k with
  | 0 => .array .int
  | 1 => .int
  | 2 => .int
  | _ => .int
abbrev wsX30 : List Cond := u_ws RX3 TX3 4
theorem nmX3 : ∀ a, a < 4 → ∀ b, b < 4 → a ≠ b → (TX3 a).2.1 ≠ (TX3 b).2.1 := by decide +kernel
theorem tyX3_ok : ∀ k, k < 4 → parseFieldDescriptor (TX3 k).2.2.1 = some (tyX3 k) := by decide +kernel
abbrev cX3_init : ByteArray := prog_5_method_1_code
def yX3_init : MethodName := ⟨RX3, "<init>", "()V"⟩
abbrev cX3_lineUp : ByteArray := prog_5_method_2_code
def yX3_lineUp : MethodName := ⟨RX3, "lineUp", "(I[J)V"⟩
abbrev cX3_split : ByteArray := prog_5_method_3_code
def yX3_split : MethodName := ⟨RX3, "split", "(I[J)V"⟩
abbrev cX3_isCutBehind : ByteArray := prog_5_method_4_code
def yX3_isCutBehind : MethodName := ⟨RX3, "isCutBehind", "(II)Z"⟩
abbrev cX3_meanPaged : ByteArray := prog_5_method_5_code
def yX3_meanPaged : MethodName := ⟨RX3, "meanPaged", "(I[J)J"⟩
abbrev cX3_cellsOf : ByteArray := prog_5_method_6_code
def yX3_cellsOf : MethodName := ⟨RX3, "cellsOf", "(I)I"⟩
def RX4 : String := "RingPages$State"
def TX4 : u_T := fun k => match k with
  | 0 => ("RingPages$State", "stay", "[I", true)
  | 1 => ("RingPages$State", "area", "[I", true)
  | 2 => ("RingPages$State", "kind", "I", false)
  | 3 => ("RingPages$State", "value", "I", false)
  | 4 => ("RingPages$State", "cell", "I", false)
  | 5 => ("RingPages$State", "home", "I", false)
  | 6 => ("RingPages$State", "moves", "I", false)
  | 7 => ("RingPages$State", "ticks", "I", false)
  | 8 => ("RingPages$State", "updates", "I", false)
  | _ => ("RingPages$State", "paged", "I", false)
def tyX4 : Nat → FieldType := fun k => match k with
  | 0 => .array .int
  | 1 => .array .int
  | 2 => .int
  | 3 => .int
  | 4 => .int
  | 5 => .int
  | 6 => .int
  | 7 => .int
  | 8 => .int
  | _ => .int
abbrev wsX40 : List Cond := u_ws RX4 TX4 10
theorem nmX4 : ∀ a, a < 10 → ∀ b, b < 10 → a ≠ b → (TX4 a).2.1 ≠ (TX4 b).2.1 := by decide +kernel
theorem tyX4_ok : ∀ k, k < 10 → parseFieldDescriptor (TX4 k).2.2.1 = some (tyX4 k) := by decide +kernel
abbrev cX4_init : ByteArray := prog_6_method_1_code
def yX4_init : MethodName := ⟨RX4, "<init>", "()V"⟩
abbrev cX4_begin : ByteArray := prog_6_method_2_code
def yX4_begin : MethodName := ⟨RX4, "begin", "()V"⟩
abbrev cX4_copyFrom : ByteArray := prog_6_method_3_code
def yX4_copyFrom : MethodName := ⟨RX4, "copyFrom", "(LRingPages$State;)V"⟩
abbrev cX4_register : ByteArray := prog_6_method_4_code
def yX4_register : MethodName := ⟨RX4, "register", "()V"⟩
abbrev cX4_canGo : ByteArray := prog_6_method_5_code
def yX4_canGo : MethodName := ⟨RX4, "canGo", "(LRingPages$Net;I)Z"⟩
abbrev cX4_go : ByteArray := prog_6_method_6_code
def yX4_go : MethodName := ⟨RX4, "go", "(LRingPages$Net;I)Z"⟩
abbrev cX4_isDue : ByteArray := prog_6_method_7_code
def yX4_isDue : MethodName := ⟨RX4, "isDue", "(LRingPages$Net;)Z"⟩
abbrev cX4_isOutside : ByteArray := prog_6_method_8_code
def yX4_isOutside : MethodName := ⟨RX4, "isOutside", "(LRingPages$Net;I)Z"⟩
abbrev cX4_drawnCell : ByteArray := prog_6_method_9_code
def yX4_drawnCell : MethodName := ⟨RX4, "drawnCell", "(LRingPages$Net;I)I"⟩
def RX5 : String := "RingPages$Text"
def TX5 : u_T := fun k => match k with
  | 0 => ("RingPages$Text", "letters", "[I", true)
  | 1 => ("RingPages$Text", "numbers", "[I", true)
  | 2 => ("RingPages$Text", "place", "I", false)
  | _ => ("RingPages$Text", "length", "I", false)
def tyX5 : Nat → FieldType := fun k => match k with
  | 0 => .array .int
  | 1 => .array .int
  | 2 => .int
  | _ => .int
abbrev wsX50 : List Cond := u_ws RX5 TX5 4
theorem nmX5 : ∀ a, a < 4 → ∀ b, b < 4 → a ≠ b → (TX5 a).2.1 ≠ (TX5 b).2.1 := by decide +kernel
theorem tyX5_ok : ∀ k, k < 4 → parseFieldDescriptor (TX5 k).2.2.1 = some (tyX5 k) := by decide +kernel
abbrev cX5_init : ByteArray := prog_7_method_1_code
def yX5_init : MethodName := ⟨RX5, "<init>", "()V"⟩
abbrev cX5_append : ByteArray := prog_7_method_2_code
def yX5_append : MethodName := ⟨RX5, "append", "(I)Z"⟩
abbrev cX5_readInto : ByteArray := prog_7_method_3_code
def yX5_readInto : MethodName := ⟨RX5, "readInto", "(LRingPages$Net;LRingPages$State;)I"⟩
abbrev cX5_readItem : ByteArray := prog_7_method_4_code
def yX5_readItem : MethodName := ⟨RX5, "readItem", "(LRingPages$Net;LRingPages$State;)Z"⟩
abbrev cX5_numbersBehind : ByteArray := prog_7_method_5_code
def yX5_numbersBehind : MethodName := ⟨RX5, "numbersBehind", "(I)I"⟩
abbrev cX5_takeCells : ByteArray := prog_7_method_6_code
def yX5_takeCells : MethodName := ⟨RX5, "takeCells", "(LRingPages$Net;)Z"⟩
abbrev cX5_takeJoin : ByteArray := prog_7_method_7_code
def yX5_takeJoin : MethodName := ⟨RX5, "takeJoin", "(LRingPages$Net;)Z"⟩
abbrev cX5_isWeight : ByteArray := prog_7_method_8_code
def yX5_isWeight : MethodName := ⟨RX5, "isWeight", "(I)Z"⟩
abbrev cX5_takeCellNumber : ByteArray := prog_7_method_9_code
def yX5_takeCellNumber : MethodName := ⟨RX5, "takeCellNumber", "(LRingPages$Net;[II)Z"⟩
abbrev cX5_takeLaw : ByteArray := prog_7_method_10_code
def yX5_takeLaw : MethodName := ⟨RX5, "takeLaw", "(LRingPages$State;)Z"⟩
abbrev cX5_takePrices : ByteArray := prog_7_method_11_code
def yX5_takePrices : MethodName := ⟨RX5, "takePrices", "(LRingPages$Net;)Z"⟩
abbrev cX5_readNumbers : ByteArray := prog_7_method_12_code
def yX5_readNumbers : MethodName := ⟨RX5, "readNumbers", "(I)Z"⟩
abbrev cX5_readNumber : ByteArray := prog_7_method_13_code
def yX5_readNumber : MethodName := ⟨RX5, "readNumber", "()I"⟩
abbrev cX5_figureHere : ByteArray := prog_7_method_14_code
def yX5_figureHere : MethodName := ⟨RX5, "figureHere", "()I"⟩
abbrev cX5_letterHere : ByteArray := prog_7_method_15_code
def yX5_letterHere : MethodName := ⟨RX5, "letterHere", "()I"⟩
def RX6 : String := "RingPages$Whereabouts"
def TX6 : u_T := fun k => match k with
  | _ => ("RingPages$Whereabouts", "reached", "[I", true)
def tyX6 : Nat → FieldType := fun k => match k with
  | _ => .array .int
abbrev wsX60 : List Cond := u_ws RX6 TX6 1
theorem nmX6 : ∀ a, a < 1 → ∀ b, b < 1 → a ≠ b → (TX6 a).2.1 ≠ (TX6 b).2.1 := by decide +kernel
theorem tyX6_ok : ∀ k, k < 1 → parseFieldDescriptor (TX6 k).2.2.1 = some (tyX6 k) := by decide +kernel
abbrev cX6_init : ByteArray := prog_8_method_1_code
def yX6_init : MethodName := ⟨RX6, "<init>", "()V"⟩
abbrev cX6_find : ByteArray := prog_8_method_2_code
def yX6_find : MethodName := ⟨RX6, "find", "(LRingPages$Net;LRingPages$State;)I"⟩
abbrev cX6_insideOf : ByteArray := prog_8_method_3_code
def yX6_insideOf : MethodName := ⟨RX6, "insideOf", "(LRingPages$Net;LRingPages$State;)I"⟩
abbrev cX6_step : ByteArray := prog_8_method_4_code
def yX6_step : MethodName := ⟨RX6, "step", "(LRingPages$Net;LRingPages$State;II)Z"⟩
abbrev cX6_stayers : ByteArray := prog_8_method_5_code
def yX6_stayers : MethodName := ⟨RX6, "stayers", "(LRingPages$Net;LRingPages$State;I)I"⟩
abbrev cX6_movers : ByteArray := prog_8_method_6_code
def yX6_movers : MethodName := ⟨RX6, "movers", "(LRingPages$Net;I)I"⟩
def RX7 : String := "RingPages"
def TX7 : u_T := fun k => match k with
  | 0 => ("RingPages", "text", "LRingPages$Text;", true)
  | 1 => ("RingPages", "past", "LRingPages$Past;", true)
  | 2 => ("RingPages", "longRun", "LRingPages$LongRun;", true)
  | 3 => ("RingPages", "whereabouts", "LRingPages$Whereabouts;", true)
  | 4 => ("RingPages", "rounds", "LRingPages$Rounds;", true)
  | 5 => ("RingPages", "walker", "LRingPages$State;", true)
  | 6 => ("RingPages", "net", "LRingPages$Net;", false)
  | 7 => ("RingPages", "state", "LRingPages$State;", false)
  | 8 => ("RingPages", "draftNet", "LRingPages$Net;", false)
  | _ => ("RingPages", "draftState", "LRingPages$State;", false)
def tyX7 : Nat → FieldType := fun k => match k with
  | 0 => .object "RingPages$Text"
  | 1 => .object "RingPages$Past"
  | 2 => .object "RingPages$LongRun"
  | 3 => .object "RingPages$Whereabouts"
  | 4 => .object "RingPages$Rounds"
  | 5 => .object "RingPages$State"
  | 6 => .object "RingPages$Net"
  | 7 => .object "RingPages$State"
  | 8 => .object "RingPages$Net"
  | _ => .object "RingPages$State"
abbrev wsX70 : List Cond := u_ws RX7 TX7 10
theorem nmX7 : ∀ a, a < 10 → ∀ b, b < 10 → a ≠ b → (TX7 a).2.1 ≠ (TX7 b).2.1 := by decide +kernel
theorem tyX7_ok : ∀ k, k < 10 → parseFieldDescriptor (TX7 k).2.2.1 = some (tyX7 k) := by decide +kernel
abbrev cX7_init : ByteArray := prog_1_method_1_code
def yX7_init : MethodName := ⟨RX7, "<init>", "()V"⟩
abbrev cX7_write : ByteArray := prog_1_method_2_code
def yX7_write : MethodName := ⟨RX7, "write", "(I)I"⟩
abbrev cX7_wipe : ByteArray := prog_1_method_3_code
def yX7_wipe : MethodName := ⟨RX7, "wipe", "()I"⟩
abbrev cX7_fault : ByteArray := prog_1_method_4_code
def yX7_fault : MethodName := ⟨RX7, "fault", "()I"⟩
abbrev cX7_lay : ByteArray := prog_1_method_5_code
def yX7_lay : MethodName := ⟨RX7, "lay", "()I"⟩
abbrev cX7_layText : ByteArray := prog_1_method_6_code
def yX7_layText : MethodName := ⟨RX7, "layText", "()Z"⟩
abbrev cX7_set : ByteArray := prog_1_method_7_code
def yX7_set : MethodName := ⟨RX7, "set", "(III)I"⟩
abbrev cX7_law : ByteArray := prog_1_method_8_code
def yX7_law : MethodName := ⟨RX7, "law", "(II)I"⟩
abbrev cX7_give : ByteArray := prog_1_method_9_code
def yX7_give : MethodName := ⟨RX7, "give", "()I"⟩
abbrev cX7_undo : ByteArray := prog_1_method_10_code
def yX7_undo : MethodName := ⟨RX7, "undo", "()I"⟩
abbrev cX7_cell : ByteArray := prog_1_method_11_code
def yX7_cell : MethodName := ⟨RX7, "cell", "(II)I"⟩
abbrev cX7_weight : ByteArray := prog_1_method_12_code
def yX7_weight : MethodName := ⟨RX7, "weight", "(II)I"⟩
abbrev cX7_wide : ByteArray := prog_1_method_13_code
def yX7_wide : MethodName := ⟨RX7, "wide", "(II)I"⟩
abbrev cX7_tick : ByteArray := prog_1_method_14_code
def yX7_tick : MethodName := ⟨RX7, "tick", "(I)I"⟩
abbrev cX7_page : ByteArray := prog_1_method_15_code
def yX7_page : MethodName := ⟨RX7, "page", "()I"⟩
abbrev cX7_handset : ByteArray := prog_1_method_16_code
def yX7_handset : MethodName := ⟨RX7, "handset", "(I)I"⟩
abbrev cX7_where : ByteArray := prog_1_method_17_code
def yX7_where : MethodName := ⟨RX7, "where", "()I"⟩
abbrev cX7_round : ByteArray := prog_1_method_18_code
def yX7_round : MethodName := ⟨RX7, "round", "(I)I"⟩
abbrev cX7_seek : ByteArray := prog_1_method_19_code
def yX7_seek : MethodName := ⟨RX7, "seek", "()V"⟩
abbrev cX7_chance : ByteArray := prog_1_method_20_code
def yX7_chance : MethodName := ⟨RX7, "chance", "(II)J"⟩
abbrev cX7_mean : ByteArray := prog_1_method_21_code
def yX7_mean : MethodName := ⟨RX7, "mean", "(II)J"⟩
abbrev cX7_rate : ByteArray := prog_1_method_22_code
def yX7_rate : MethodName := ⟨RX7, "rate", "(I)J"⟩
abbrev cX7_best : ByteArray := prog_1_method_23_code
def yX7_best : MethodName := ⟨RX7, "best", "(I)I"⟩
abbrev cX7_least : ByteArray := prog_1_method_24_code
def yX7_least : MethodName := ⟨RX7, "least", "(I)J"⟩
abbrev cX7_walk : ByteArray := prog_1_method_25_code
def yX7_walk : MethodName := ⟨RX7, "walk", "(III)I"⟩
abbrev cX7_count : ByteArray := prog_1_method_26_code
def yX7_count : MethodName := ⟨RX7, "count", "(I)I"⟩
abbrev cX7_isCell : ByteArray := prog_1_method_27_code
def yX7_isCell : MethodName := ⟨RX7, "isCell", "(I)Z"⟩
abbrev cX7_isPart : ByteArray := prog_1_method_28_code
def yX7_isPart : MethodName := ⟨RX7, "isPart", "(I)Z"⟩
abbrev cX7_isLaw : ByteArray := prog_1_method_29_code
def yX7_isLaw : MethodName := ⟨RX7, "isLaw", "(II)Z"⟩
abbrev cX7_holds : ByteArray := prog_1_method_30_code
def yX7_holds : MethodName := ⟨RX7, "holds", "(II)Z"⟩
abbrev cX7_sameArea : ByteArray := prog_1_method_31_code
def yX7_sameArea : MethodName := ⟨RX7, "sameArea", "(I[II)I"⟩
abbrev cX7_draw : ByteArray := prog_1_method_32_code
def yX7_draw : MethodName := ⟨RX7, "draw", "(II)I"⟩
abbrev cX7_lowest : ByteArray := prog_1_method_33_code
def yX7_lowest : MethodName := ⟨RX7, "lowest", "(JJI)J"⟩
abbrev cX7_greatestShared : ByteArray := prog_1_method_34_code
def yX7_greatestShared : MethodName := ⟨RX7, "greatestShared", "(JJ)J"⟩
def RX8 : String := "RingPagesModel"
def TX8 : u_T := fun k => match k with
  | 0 => ("RingPagesModel", "length", "I", false)
  | 1 => ("RingPagesModel", "text", "[I", true)
  | 2 => ("RingPagesModel", "cells", "I", false)
  | 3 => ("RingPagesModel", "joins", "I", false)
  | 4 => ("RingPagesModel", "weight", "[I", true)
  | 5 => ("RingPagesModel", "price", "[I", true)
  | 6 => ("RingPagesModel", "now", "[I", true)
  | 7 => ("RingPagesModel", "was", "[I", true)
  | 8 => ("RingPagesModel", "changes", "I", false)
  | 9 => ("RingPagesModel", "readCells", "I", false)
  | 10 => ("RingPagesModel", "readJoins", "I", false)
  | 11 => ("RingPagesModel", "readWeight", "[I", true)
  | 12 => ("RingPagesModel", "readPrice", "[I", true)
  | 13 => ("RingPagesModel", "read", "[I", true)
  | 14 => ("RingPagesModel", "value", "I", false)
  | 15 => ("RingPagesModel", "ends", "I", false)
  | 16 => ("RingPagesModel", "can", "[I", true)
  | 17 => ("RingPagesModel", "next", "[I", true)
  | 18 => ("RingPagesModel", "trees", "[J", true)
  | 19 => ("RingPagesModel", "table", "[J", true)
  | 20 => ("RingPagesModel", "tried", "[I", true)
  | 21 => ("RingPagesModel", "best", "[I", true)
  | 22 => ("RingPagesModel", "row", "[I", true)
  | 23 => ("RingPagesModel", "rows", "I", false)
  | 24 => ("RingPagesModel", "cuts", "I", false)
  | _ => ("RingPagesModel", "walker", "[I", true)
def tyX8 : Nat → FieldType := fun k => match k with
  | 0 => .int
  | 1 => .array .int
  | 2 => .int
  | 3 => .int
  | 4 => .array .int
  | 5 => .array .int
  | 6 => .array .int
  | 7 => .array .int
  | 8 => .int
  | 9 => .int
  | 10 => .int
  | 11 => .array .int
  | 12 => .array .int
  | 13 => .array .int
  | 14 => .int
  | 15 => .int
  | 16 => .array .int
  | 17 => .array .int
  | 18 => .array .long
  | 19 => .array .long
  | 20 => .array .int
  | 21 => .array .int
  | 22 => .array .int
  | 23 => .int
  | 24 => .int
  | _ => .array .int
abbrev wsX80 : List Cond := u_ws RX8 TX8 26
theorem nmX8 : ∀ a, a < 26 → ∀ b, b < 26 → a ≠ b → (TX8 a).2.1 ≠ (TX8 b).2.1 := by decide +kernel
theorem tyX8_ok : ∀ k, k < 26 → parseFieldDescriptor (TX8 k).2.2.1 = some (tyX8 k) := by decide +kernel
abbrev cX8_init : ByteArray := prog_10_method_1_code
def yX8_init : MethodName := ⟨RX8, "<init>", "()V"⟩
abbrev cX8_joinOf : ByteArray := prog_10_method_2_code
def yX8_joinOf : MethodName := ⟨RX8, "joinOf", "(IIII)V"⟩
abbrev cX8_isIn : ByteArray := prog_10_method_3_code
def yX8_isIn : MethodName := ⟨RX8, "isIn", "(III)Z"⟩
abbrev cX8_clears : ByteArray := prog_10_method_4_code
def yX8_clears : MethodName := ⟨RX8, "clears", "()V"⟩
abbrev cX8_takes : ByteArray := prog_10_method_5_code
def yX8_takes : MethodName := ⟨RX8, "takes", "()V"⟩
abbrev cX8_letterAt : ByteArray := prog_10_method_6_code
def yX8_letterAt : MethodName := ⟨RX8, "letterAt", "(I)I"⟩
abbrev cX8_number : ByteArray := prog_10_method_7_code
def yX8_number : MethodName := ⟨RX8, "number", "(III)Z"⟩
abbrev cX8_more : ByteArray := prog_10_method_8_code
def yX8_more : MethodName := ⟨RX8, "more", "(II)Z"⟩
abbrev cX8_readsJoin : ByteArray := prog_10_method_9_code
def yX8_readsJoin : MethodName := ⟨RX8, "readsJoin", "(I)Z"⟩
abbrev cX8_readsCell : ByteArray := prog_10_method_10_code
def yX8_readsCell : MethodName := ⟨RX8, "readsCell", "(II)Z"⟩
abbrev cX8_isLaw : ByteArray := prog_10_method_11_code
def yX8_isLaw : MethodName := ⟨RX8, "isLaw", "(II)Z"⟩
abbrev cX8_readsLaw : ByteArray := prog_10_method_12_code
def yX8_readsLaw : MethodName := ⟨RX8, "readsLaw", "(I)Z"⟩
abbrev cX8_readsPrice : ByteArray := prog_10_method_13_code
def yX8_readsPrice : MethodName := ⟨RX8, "readsPrice", "(I)Z"⟩
abbrev cX8_readsItem : ByteArray := prog_10_method_14_code
def yX8_readsItem : MethodName := ⟨RX8, "readsItem", "(II)Z"⟩
abbrev cX8_reads : ByteArray := prog_10_method_15_code
def yX8_reads : MethodName := ⟨RX8, "reads", "()I"⟩
abbrev cX8_hang : ByteArray := prog_10_method_16_code
def yX8_hang : MethodName := ⟨RX8, "hang", "()Z"⟩
abbrev cX8_write : ByteArray := prog_10_method_17_code
def yX8_write : MethodName := ⟨RX8, "write", "(I)I"⟩
abbrev cX8_wipe : ByteArray := prog_10_method_18_code
def yX8_wipe : MethodName := ⟨RX8, "wipe", "()I"⟩
abbrev cX8_fault : ByteArray := prog_10_method_19_code
def yX8_fault : MethodName := ⟨RX8, "fault", "()I"⟩
abbrev cX8_lay : ByteArray := prog_10_method_20_code
def yX8_lay : MethodName := ⟨RX8, "lay", "()I"⟩
abbrev cX8_keeps : ByteArray := prog_10_method_21_code
def yX8_keeps : MethodName := ⟨RX8, "keeps", "()V"⟩
abbrev cX8_undo : ByteArray := prog_10_method_22_code
def yX8_undo : MethodName := ⟨RX8, "undo", "()I"⟩
abbrev cX8_isCell : ByteArray := prog_10_method_23_code
def yX8_isCell : MethodName := ⟨RX8, "isCell", "(I)Z"⟩
abbrev cX8_registers : ByteArray := prog_10_method_24_code
def yX8_registers : MethodName := ⟨RX8, "registers", "([I)V"⟩
abbrev cX8_set : ByteArray := prog_10_method_25_code
def yX8_set : MethodName := ⟨RX8, "set", "(III)I"⟩
abbrev cX8_law : ByteArray := prog_10_method_26_code
def yX8_law : MethodName := ⟨RX8, "law", "(II)I"⟩
abbrev cX8_out : ByteArray := prog_10_method_27_code
def yX8_out : MethodName := ⟨RX8, "out", "(I)I"⟩
abbrev cX8_sum : ByteArray := prog_10_method_28_code
def yX8_sum : MethodName := ⟨RX8, "sum", "(I)I"⟩
abbrev cX8_joined : ByteArray := prog_10_method_29_code
def yX8_joined : MethodName := ⟨RX8, "joined", "(I)I"⟩
abbrev cX8_likeArea : ByteArray := prog_10_method_30_code
def yX8_likeArea : MethodName := ⟨RX8, "likeArea", "(I)I"⟩
abbrev cX8_cell : ByteArray := prog_10_method_31_code
def yX8_cell : MethodName := ⟨RX8, "cell", "(II)I"⟩
abbrev cX8_weight : ByteArray := prog_10_method_32_code
def yX8_weight : MethodName := ⟨RX8, "weight", "(II)I"⟩
abbrev cX8_far : ByteArray := prog_10_method_33_code
def yX8_far : MethodName := ⟨RX8, "far", "(II)I"⟩
abbrev cX8_wide : ByteArray := prog_10_method_34_code
def yX8_wide : MethodName := ⟨RX8, "wide", "(II)I"⟩
abbrev cX8_isDue : ByteArray := prog_10_method_35_code
def yX8_isDue : MethodName := ⟨RX8, "isDue", "([I)Z"⟩
abbrev cX8_goes : ByteArray := prog_10_method_36_code
def yX8_goes : MethodName := ⟨RX8, "goes", "([II)I"⟩
abbrev cX8_tick : ByteArray := prog_10_method_37_code
def yX8_tick : MethodName := ⟨RX8, "tick", "(I)I"⟩
abbrev cX8_handset : ByteArray := prog_10_method_38_code
def yX8_handset : MethodName := ⟨RX8, "handset", "(I)I"⟩
abbrev cX8_allowed : ByteArray := prog_10_method_39_code
def yX8_allowed : MethodName := ⟨RX8, "allowed", "()I"⟩
abbrev cX8_whereIs : ByteArray := prog_10_method_40_code
def yX8_whereIs : MethodName := ⟨RX8, "whereIs", "()I"⟩
abbrev cX8_where : ByteArray := prog_10_method_41_code
def yX8_where : MethodName := ⟨RX8, "where", "()I"⟩
abbrev cX8_determinant : ByteArray := prog_10_method_42_code
def yX8_determinant : MethodName := ⟨RX8, "determinant", "(I)J"⟩
abbrev cX8_grows : ByteArray := prog_10_method_43_code
def yX8_grows : MethodName := ⟨RX8, "grows", "()V"⟩
abbrev cX8_below : ByteArray := prog_10_method_44_code
def yX8_below : MethodName := ⟨RX8, "below", "()J"⟩
abbrev cX8_common : ByteArray := prog_10_method_45_code
def yX8_common : MethodName := ⟨RX8, "common", "(JJ)J"⟩
abbrev cX8_term : ByteArray := prog_10_method_46_code
def yX8_term : MethodName := ⟨RX8, "term", "(JJI)J"⟩
abbrev cX8_chance : ByteArray := prog_10_method_47_code
def yX8_chance : MethodName := ⟨RX8, "chance", "(II)J"⟩
abbrev cX8_crossing : ByteArray := prog_10_method_48_code
def yX8_crossing : MethodName := ⟨RX8, "crossing", "([IIZ)J"⟩
abbrev cX8_expense : ByteArray := prog_10_method_49_code
def yX8_expense : MethodName := ⟨RX8, "expense", "([II)J"⟩
abbrev cX8_mean : ByteArray := prog_10_method_50_code
def yX8_mean : MethodName := ⟨RX8, "mean", "(II)J"⟩
abbrev cX8_goesOn : ByteArray := prog_10_method_51_code
def yX8_goesOn : MethodName := ⟨RX8, "goesOn", "()Z"⟩
abbrev cX8_finds : ByteArray := prog_10_method_52_code
def yX8_finds : MethodName := ⟨RX8, "finds", "()J"⟩
abbrev cX8_best : ByteArray := prog_10_method_53_code
def yX8_best : MethodName := ⟨RX8, "best", "(I)I"⟩
abbrev cX8_least : ByteArray := prog_10_method_54_code
def yX8_least : MethodName := ⟨RX8, "least", "(I)J"⟩
abbrev cX8_give : ByteArray := prog_10_method_55_code
def yX8_give : MethodName := ⟨RX8, "give", "()I"⟩
abbrev cX8_ranks : ByteArray := prog_10_method_56_code
def yX8_ranks : MethodName := ⟨RX8, "ranks", "()V"⟩
abbrev cX8_bits : ByteArray := prog_10_method_57_code
def yX8_bits : MethodName := ⟨RX8, "bits", "(I)I"⟩
abbrev cX8_paged : ByteArray := prog_10_method_58_code
def yX8_paged : MethodName := ⟨RX8, "paged", "(I)J"⟩
abbrev cX8_isFirst : ByteArray := prog_10_method_59_code
def yX8_isFirst : MethodName := ⟨RX8, "isFirst", "(II)Z"⟩
abbrev cX8_splits : ByteArray := prog_10_method_60_code
def yX8_splits : MethodName := ⟨RX8, "splits", "()V"⟩
abbrev cX8_round : ByteArray := prog_10_method_61_code
def yX8_round : MethodName := ⟨RX8, "round", "(I)I"⟩
abbrev cX8_page : ByteArray := prog_10_method_62_code
def yX8_page : MethodName := ⟨RX8, "page", "()I"⟩
abbrev cX8_walk : ByteArray := prog_10_method_63_code
def yX8_walk : MethodName := ⟨RX8, "walk", "(III)I"⟩
abbrev cX8_count : ByteArray := prog_10_method_64_code
def yX8_count : MethodName := ⟨RX8, "count", "(I)I"⟩
def RJ6 : String := "java/lang/Integer"
def TJ6 : u_T := fun k => match k with
  | _ => ("", "", "", false)
def tyJ6 : Nat → FieldType := fun k => match k with
  | _ => .int
abbrev wsJ60 : List Cond := u_ws RJ6 TJ6 0
theorem nmJ6 : ∀ a, a < 0 → ∀ b, b < 0 → a ≠ b → (TJ6 a).2.1 ≠ (TJ6 b).2.1 := by decide +kernel
theorem tyJ6_ok : ∀ k, k < 0 → parseFieldDescriptor (TJ6 k).2.2.1 = some (tyJ6 k) := by decide +kernel
abbrev cJ6_bitCount_0f7a4 : ByteArray := prog_11_method_49_code
def yJ6_bitCount_0f7a4 : MethodName := ⟨RJ6, "bitCount", "(I)I"⟩
def RJ9 : String := "java/lang/Math"
def TJ9 : u_T := fun k => match k with
  | _ => ("", "", "", false)
def tyJ9 : Nat → FieldType := fun k => match k with
  | _ => .int
abbrev wsJ90 : List Cond := u_ws RJ9 TJ9 0
theorem nmJ9 : ∀ a, a < 0 → ∀ b, b < 0 → a ≠ b → (TJ9 a).2.1 ≠ (TJ9 b).2.1 := by decide +kernel
theorem tyJ9_ok : ∀ k, k < 0 → parseFieldDescriptor (TJ9 k).2.2.1 = some (tyJ9 k) := by decide +kernel
abbrev cJ9_max_7cf53 : ByteArray := prog_12_method_65_code
def yJ9_max_7cf53 : MethodName := ⟨RJ9, "max", "(II)I"⟩
abbrev cJ9_min_7cf53 : ByteArray := prog_12_method_69_code
def yJ9_min_7cf53 : MethodName := ⟨RJ9, "min", "(II)I"⟩
def RJ0 : String := "java/lang/String"
def TJ0 : u_T := fun k => match k with
  | _ => ("", "", "", false)
def tyJ0 : Nat → FieldType := fun k => match k with
  | _ => .int
abbrev wsJ00 : List Cond := u_ws RJ0 TJ0 0
theorem nmJ0 : ∀ a, a < 0 → ∀ b, b < 0 → a ≠ b → (TJ0 a).2.1 ≠ (TJ0 b).2.1 := by decide +kernel
theorem tyJ0_ok : ∀ k, k < 0 → parseFieldDescriptor (TJ0 k).2.2.1 = some (tyJ0 k) := by decide +kernel
abbrev cJ0_length_8abf5 : ByteArray := prog_13_method_54_code
def yJ0_length_8abf5 : MethodName := ⟨RJ0, "length", "()I"⟩
abbrev cJ0_charAt_5068e : ByteArray := prog_13_method_56_code
def yJ0_charAt_5068e : MethodName := ⟨RJ0, "charAt", "(I)C"⟩
abbrev cJ0_coder_7d493 : ByteArray := prog_13_method_152_code
def yJ0_coder_7d493 : MethodName := ⟨RJ0, "coder", "()B"⟩
abbrev cJ0_isLatin1_aae02 : ByteArray := prog_13_method_154_code
def yJ0_isLatin1_aae02 : MethodName := ⟨RJ0, "isLatin1", "()Z"⟩
abbrev cJ0_checkIndex_df160 : ByteArray := prog_13_method_155_code
def yJ0_checkIndex_df160 : MethodName := ⟨RJ0, "checkIndex", "(II)V"⟩
def RJ1 : String := "java/lang/StringLatin1"
def TJ1 : u_T := fun k => match k with
  | _ => ("", "", "", false)
def tyJ1 : Nat → FieldType := fun k => match k with
  | _ => .int
abbrev wsJ10 : List Cond := u_ws RJ1 TJ1 0
theorem nmJ1 : ∀ a, a < 0 → ∀ b, b < 0 → a ≠ b → (TJ1 a).2.1 ≠ (TJ1 b).2.1 := by decide +kernel
theorem tyJ1_ok : ∀ k, k < 0 → parseFieldDescriptor (TJ1 k).2.2.1 = some (tyJ1 k) := by decide +kernel
abbrev cJ1_charAt_3b067 : ByteArray := prog_14_method_2_code
def yJ1_charAt_3b067 : MethodName := ⟨RJ1, "charAt", "([BI)C"⟩
def RJ2 : String := "java/lang/StringUTF16"
def TJ2 : u_T := fun k => match k with
  | _ => ("", "", "", false)
def tyJ2 : Nat → FieldType := fun k => match k with
  | _ => .int
abbrev wsJ20 : List Cond := u_ws RJ2 TJ2 0
theorem nmJ2 : ∀ a, a < 0 → ∀ b, b < 0 → a ≠ b → (TJ2 a).2.1 ≠ (TJ2 b).2.1 := by decide +kernel
theorem tyJ2_ok : ∀ k, k < 0 → parseFieldDescriptor (TJ2 k).2.2.1 = some (tyJ2 k) := by decide +kernel
abbrev cJ2_getChar_3b067 : ByteArray := prog_15_method_5_code
def yJ2_getChar_3b067 : MethodName := ⟨RJ2, "getChar", "([BI)C"⟩
abbrev cJ2_length_9d52b : ByteArray := prog_15_method_6_code
def yJ2_length_9d52b : MethodName := ⟨RJ2, "length", "([B)I"⟩
abbrev cJ2_charAt_3b067 : ByteArray := prog_15_method_83_code
def yJ2_charAt_3b067 : MethodName := ⟨RJ2, "charAt", "([BI)C"⟩
abbrev cJ2_checkIndex_2214a : ByteArray := prog_15_method_91_code
def yJ2_checkIndex_2214a : MethodName := ⟨RJ2, "checkIndex", "(I[B)V"⟩
def RJ10 : String := "java/lang/System"
def TJ10 : u_T := fun k => match k with
  | _ => ("", "", "", false)
def tyJ10 : Nat → FieldType := fun k => match k with
  | _ => .int
abbrev wsJ100 : List Cond := u_ws RJ10 TJ10 0
theorem nmJ10 : ∀ a, a < 0 → ∀ b, b < 0 → a ≠ b → (TJ10 a).2.1 ≠ (TJ10 b).2.1 := by decide +kernel
theorem tyJ10_ok : ∀ k, k < 0 → parseFieldDescriptor (TJ10 k).2.2.1 = some (tyJ10 k) := by decide +kernel
def RJ3 : String := "jdk/internal/util/Preconditions"
def TJ3 : u_T := fun k => match k with
  | _ => ("", "", "", false)
def tyJ3 : Nat → FieldType := fun k => match k with
  | _ => .int
abbrev wsJ30 : List Cond := u_ws RJ3 TJ3 0
theorem nmJ3 : ∀ a, a < 0 → ∀ b, b < 0 → a ≠ b → (TJ3 a).2.1 ≠ (TJ3 b).2.1 := by decide +kernel
theorem tyJ3_ok : ∀ k, k < 0 → parseFieldDescriptor (TJ3 k).2.2.1 = some (tyJ3 k) := by decide +kernel
abbrev cJ3_checkIndex_8e157 : ByteArray := prog_17_method_11_code
def yJ3_checkIndex_8e157 : MethodName := ⟨RJ3, "checkIndex", "(IILjava/util/function/BiFunction;)I"⟩
def RL : String := "RingPagesLaw"
abbrev cL_law : ByteArray := code
def yL_law : MethodName := ⟨RL, "law", "([I)Z"⟩
def wsX0_init : List Cond := .code yX0_init cX0_init 1 none :: ([.methodLink RX0 3 objectInit, .instanceMethod objectInit, .code objectInit ⟨#[0xb1]⟩ 1 none, .arrayClass .long, .fieldLink RX0 9 "RingPages$LongRun" "above" "[J", .arrayClass .int, .fieldLink RX0 15 "RingPages$LongRun" "best" "[I", .fieldLink RX0 19 "RingPages$LongRun" "tried" "[I"] ++ wsX00)
def wsX0_reckon : List Cond := .code yX0_reckon cX0_reckon 4 none :: ([.fieldLink RX0 22 "RingPages$LongRun" "below" "J", .fieldLink RX0 26 "RingPages$Net" "cells" "I", .fieldLink RX0 9 "RingPages$LongRun" "above" "[J", .fieldLink RX0 32 "RingPages$State" "stay" "[I", .fieldLink RX0 37 "RingPages$Net" "out" "[I", .fieldLink RX0 40 "RingPages$Net" "trees" "[J", .fieldLink RX0 43 "RingPages$LongRun" "bestKnown" "Z"] ++ wsX00 ++ wsX10 ++ wsX40)
def wsX0_crosses : List Cond := .code yX0_crosses cX0_crosses 7 (some .long) :: ([.fieldLink RX0 26 "RingPages$Net" "cells" "I", .fieldLink RX0 40 "RingPages$Net" "trees" "[J", .fieldLink RX0 47 "RingPages$Net" "weight" "[[I"] ++ wsX10)
def wsX0_movesOn : List Cond := .code yX0_movesOn cX0_movesOn 5 (some .long) :: ([.fieldLink RX0 26 "RingPages$Net" "cells" "I", .fieldLink RX0 40 "RingPages$Net" "trees" "[J", .fieldLink RX0 37 "RingPages$Net" "out" "[I"] ++ wsX10)
def wsX7_sameArea : List Cond := .code yX7_sameArea cX7_sameArea 5 (some .int) :: ([])
def wsX0_expense : List Cond := .code yX0_expense cX0_expense 6 (some .long) :: ([.fieldLink RX0 26 "RingPages$Net" "cells" "I", .fieldLink RX0 9 "RingPages$LongRun" "above" "[J", .fieldLink RX0 55 "RingPages$Net" "updateCost" "I", .fieldLink RX0 62 "RingPages$Net" "pageCost" "I", .fieldLink RX0 65 "RingPages$Net" "callChance" "I", .static yX7_sameArea, .initialized RX7, .code yX7_sameArea cX7_sameArea 5 (some .int), .methodLink RX0 58 yX0_crosses, .instanceMethod yX0_crosses, .selects RX0 yX0_crosses yX0_crosses, .initialized RX0, .code yX0_crosses cX0_crosses 7 (some .long), .fieldLink RX0 40 "RingPages$Net" "trees" "[J", .fieldLink RX0 47 "RingPages$Net" "weight" "[[I"] ++ wsX10 ++ wsX00)
def wsX0_takeTried : List Cond := .code yX0_takeTried cX0_takeTried 3 none :: ([.fieldLink RX0 79 "RingPages$LongRun" "leastExpense" "J", .fieldLink RX0 19 "RingPages$LongRun" "tried" "[I", .fieldLink RX0 15 "RingPages$LongRun" "best" "[I", .methodLink RX0 82 arraycopyName, .native arraycopyName, .static arraycopyName, .initialized "java/lang/System"] ++ wsX00)
def wsX0_highestAhead : List Cond := .code yX0_highestAhead cX0_highestAhead 4 (some .int) :: ([.fieldLink RX0 19 "RingPages$LongRun" "tried" "[I", .methodLink RX0 92 Lib.Math.max.name, .static Lib.Math.max.name, .initialized "java/lang/Math", .code Lib.Math.max.name Lib.Math.max.code 2 (some .int)] ++ wsX00)
def wsX0_nextTried : List Cond := .code yX0_nextTried cX0_nextTried 3 (some .boolean) :: ([.fieldLink RX0 19 "RingPages$LongRun" "tried" "[I", .methodLink RX0 88 yX0_highestAhead, .instanceMethod yX0_highestAhead, .selects RX0 yX0_highestAhead yX0_highestAhead, .initialized RX0, .code yX0_highestAhead cX0_highestAhead 4 (some .int), .methodLink RX0 92 Lib.Math.max.name, .static Lib.Math.max.name, .initialized "java/lang/Math", .code Lib.Math.max.name Lib.Math.max.code 2 (some .int)] ++ wsX00)
def wsX0_findBest_r1 : List Cond := [Cond.fieldLink RX0 43 "RingPages$LongRun" "bestKnown" "Z", Cond.fieldLink RX0 19 "RingPages$LongRun" "tried" "[I", Cond.fieldLink RX0 26 "RingPages$Net" "cells" "I", Cond.fieldLink RX0 79 "RingPages$LongRun" "leastExpense" "J", Cond.methodLink RX0 68 yX0_expense, Cond.instanceMethod yX0_expense, Cond.selects RX0 yX0_expense yX0_expense, Cond.initialized RX0, Cond.code yX0_expense cX0_expense 6 (some .long), Cond.fieldLink RX0 9 "RingPages$LongRun" "above" "[J", Cond.fieldLink RX0 55 "RingPages$Net" "updateCost" "I", Cond.fieldLink RX0 62 "RingPages$Net" "pageCost" "I", Cond.fieldLink RX0 65 "RingPages$Net" "callChance" "I", Cond.static yX7_sameArea, Cond.initialized RX7, Cond.code yX7_sameArea cX7_sameArea 5 (some .int), Cond.methodLink RX0 58 yX0_crosses, Cond.instanceMethod yX0_crosses, Cond.selects RX0 yX0_crosses yX0_crosses, Cond.code yX0_crosses cX0_crosses 7 (some .long), Cond.fieldLink RX0 40 "RingPages$Net" "trees" "[J", Cond.fieldLink RX0 47 "RingPages$Net" "weight" "[[I", Cond.methodLink RX0 71 yX0_takeTried, Cond.instanceMethod yX0_takeTried]
def wsX0_findBest_r2 : List Cond := [Cond.selects RX0 yX0_takeTried yX0_takeTried, Cond.code yX0_takeTried cX0_takeTried 3 none, Cond.fieldLink RX0 15 "RingPages$LongRun" "best" "[I", Cond.methodLink RX0 82 arraycopyName, Cond.native arraycopyName, Cond.static arraycopyName, Cond.initialized "java/lang/System", Cond.methodLink RX0 75 yX0_nextTried, Cond.instanceMethod yX0_nextTried, Cond.selects RX0 yX0_nextTried yX0_nextTried, Cond.code yX0_nextTried cX0_nextTried 3 (some .boolean), Cond.methodLink RX0 88 yX0_highestAhead, Cond.instanceMethod yX0_highestAhead, Cond.selects RX0 yX0_highestAhead yX0_highestAhead, Cond.code yX0_highestAhead cX0_highestAhead 4 (some .int), Cond.methodLink RX0 92 Lib.Math.max.name, Cond.static Lib.Math.max.name, Cond.initialized "java/lang/Math", Cond.code Lib.Math.max.name Lib.Math.max.code 2 (some .int)]
def wsX0_findBest : List Cond := .code yX0_findBest cX0_findBest 5 none :: ((wsX0_findBest_r1 ++ wsX0_findBest_r2) ++ wsX00 ++ wsX10)
def wsX1_init : List Cond := .code yX1_init cX1_init 1 none :: ([.methodLink RX1 3 objectInit, .instanceMethod objectInit, .code objectInit ⟨#[0xb1]⟩ 1 none, .classLink RX1 9 "[[I", .arrayClass .int, .fieldLink RX1 11 "RingPages$Net" "weight" "[[I", .fieldLink RX1 16 "RingPages$Net" "wide" "[[I", .fieldLink RX1 19 "RingPages$Net" "near" "[I", .fieldLink RX1 23 "RingPages$Net" "out" "[I", .arrayClass .long, .fieldLink RX1 26 "RingPages$Net" "trees" "[J", .fieldLink RX1 30 "RingPages$Net" "minors" "[J"] ++ wsX10)
def wsX1_price : List Cond := .code yX1_price cX1_price 5 none :: ([.fieldLink RX1 44 "RingPages$Net" "mostRounds" "I", .fieldLink RX1 47 "RingPages$Net" "pageCost" "I", .fieldLink RX1 50 "RingPages$Net" "updateCost" "I", .fieldLink RX1 53 "RingPages$Net" "callChance" "I"] ++ wsX10)
def wsX1_begin : List Cond := .code yX1_begin cX1_begin 4 none :: ([.fieldLink RX1 33 "RingPages$Net" "cells" "I", .fieldLink RX1 37 "RingPages$Net" "joins" "I", .fieldLink RX1 19 "RingPages$Net" "near" "[I", .fieldLink RX1 23 "RingPages$Net" "out" "[I", .fieldLink RX1 11 "RingPages$Net" "weight" "[[I", .fieldLink RX1 16 "RingPages$Net" "wide" "[[I", .methodLink RX1 40 yX1_price, .instanceMethod yX1_price, .selects RX1 yX1_price yX1_price, .initialized RX1, .code yX1_price cX1_price 5 none, .fieldLink RX1 44 "RingPages$Net" "mostRounds" "I", .fieldLink RX1 47 "RingPages$Net" "pageCost" "I", .fieldLink RX1 50 "RingPages$Net" "updateCost" "I", .fieldLink RX1 53 "RingPages$Net" "callChance" "I"] ++ wsX10)
def wsX1_lead : List Cond := .code yX1_lead cX1_lead 4 none :: ([.fieldLink RX1 11 "RingPages$Net" "weight" "[[I", .fieldLink RX1 16 "RingPages$Net" "wide" "[[I", .fieldLink RX1 19 "RingPages$Net" "near" "[I", .fieldLink RX1 23 "RingPages$Net" "out" "[I"] ++ wsX10)
def wsX1_join : List Cond := .code yX1_join cX1_join 5 none :: ([.fieldLink RX1 37 "RingPages$Net" "joins" "I", .methodLink RX1 56 yX1_lead, .instanceMethod yX1_lead, .selects RX1 yX1_lead yX1_lead, .initialized RX1, .code yX1_lead cX1_lead 4 none, .fieldLink RX1 11 "RingPages$Net" "weight" "[[I", .fieldLink RX1 16 "RingPages$Net" "wide" "[[I", .fieldLink RX1 19 "RingPages$Net" "near" "[I", .fieldLink RX1 23 "RingPages$Net" "out" "[I"] ++ wsX10)
def wsX1_isWhole : List Cond := .code yX1_isWhole cX1_isWhole 4 (some .boolean) :: ([.fieldLink RX1 33 "RingPages$Net" "cells" "I", .fieldLink RX1 16 "RingPages$Net" "wide" "[[I", .methodLink RX1 60 Lib.Math.min.name, .static Lib.Math.min.name, .initialized "java/lang/Math", .code Lib.Math.min.name Lib.Math.min.code 2 (some .int)] ++ wsX10)
def wsJ6_bitCount_0f7a4 : List Cond := .code yJ6_bitCount_0f7a4 cJ6_bitCount_0f7a4 1 (some .int) :: ([.constant RJ6 265 (1431655765), .constant RJ6 266 (858993459), .constant RJ6 267 (252645135)])
def wsX1_rowOf : List Cond := .code yX1_rowOf cX1_rowOf 3 (some .int) :: ([])
def wsX7_holds : List Cond := .code yX7_holds cX7_holds 2 (some .boolean) :: ([])
def wsX1_minorOf : List Cond := .code yX1_minorOf cX1_minorOf 9 (some .long) :: ([.fieldLink RX1 33 "RingPages$Net" "cells" "I", .fieldLink RX1 23 "RingPages$Net" "out" "[I", .fieldLink RX1 11 "RingPages$Net" "weight" "[[I", .fieldLink RX1 30 "RingPages$Net" "minors" "[J", .static yX7_holds, .initialized RX7, .code yX7_holds cX7_holds 2 (some .boolean), .methodLink RX1 70 yJ6_bitCount_0f7a4, .static yJ6_bitCount_0f7a4, .initialized RJ6, .code yJ6_bitCount_0f7a4 cJ6_bitCount_0f7a4 1 (some .int), .constant RJ6 265 (1431655765), .constant RJ6 266 (858993459), .constant RJ6 267 (252645135)] ++ wsX10)
def wsX1_treesTo : List Cond := .code yX1_treesTo cX1_treesTo 4 (some .long) :: ([.fieldLink RX1 33 "RingPages$Net" "cells" "I", .fieldLink RX1 30 "RingPages$Net" "minors" "[J", .methodLink RX1 70 yJ6_bitCount_0f7a4, .static yJ6_bitCount_0f7a4, .initialized RJ6, .code yJ6_bitCount_0f7a4 cJ6_bitCount_0f7a4 1 (some .int), .constant RJ6 265 (1431655765), .constant RJ6 266 (858993459), .constant RJ6 267 (252645135), .methodLink RX1 76 yX1_rowOf, .instanceMethod yX1_rowOf, .selects RX1 yX1_rowOf yX1_rowOf, .initialized RX1, .code yX1_rowOf cX1_rowOf 3 (some .int), .methodLink RX1 79 yX1_minorOf, .instanceMethod yX1_minorOf, .selects RX1 yX1_minorOf yX1_minorOf, .code yX1_minorOf cX1_minorOf 9 (some .long), .fieldLink RX1 23 "RingPages$Net" "out" "[I", .fieldLink RX1 11 "RingPages$Net" "weight" "[[I", .static yX7_holds, .initialized RX7, .code yX7_holds cX7_holds 2 (some .boolean)] ++ wsX10)
def wsX1_growTrees_r1 : List Cond := [Cond.fieldLink RX1 33 "RingPages$Net" "cells" "I", Cond.fieldLink RX1 26 "RingPages$Net" "trees" "[J", Cond.methodLink RX1 66 yX1_treesTo, Cond.instanceMethod yX1_treesTo, Cond.selects RX1 yX1_treesTo yX1_treesTo, Cond.initialized RX1, Cond.code yX1_treesTo cX1_treesTo 4 (some .long), Cond.fieldLink RX1 30 "RingPages$Net" "minors" "[J", Cond.methodLink RX1 70 yJ6_bitCount_0f7a4, Cond.static yJ6_bitCount_0f7a4, Cond.initialized RJ6, Cond.code yJ6_bitCount_0f7a4 cJ6_bitCount_0f7a4 1 (some .int), Cond.constant RJ6 265 (1431655765), Cond.constant RJ6 266 (858993459), Cond.constant RJ6 267 (252645135), Cond.methodLink RX1 76 yX1_rowOf, Cond.instanceMethod yX1_rowOf, Cond.selects RX1 yX1_rowOf yX1_rowOf, Cond.code yX1_rowOf cX1_rowOf 3 (some .int), Cond.methodLink RX1 79 yX1_minorOf, Cond.instanceMethod yX1_minorOf, Cond.selects RX1 yX1_minorOf yX1_minorOf, Cond.code yX1_minorOf cX1_minorOf 9 (some .long), Cond.fieldLink RX1 23 "RingPages$Net" "out" "[I"]
def wsX1_growTrees_r2 : List Cond := [Cond.fieldLink RX1 11 "RingPages$Net" "weight" "[[I", Cond.static yX7_holds, Cond.initialized RX7, Cond.code yX7_holds cX7_holds 2 (some .boolean)]
def wsX1_growTrees : List Cond := .code yX1_growTrees cX1_growTrees 2 none :: ((wsX1_growTrees_r1 ++ wsX1_growTrees_r2) ++ wsX10)
def wsX4_init : List Cond := .code yX4_init cX4_init 1 none :: ([.methodLink RX4 3 objectInit, .instanceMethod objectInit, .code objectInit ⟨#[0xb1]⟩ 1 none, .arrayClass .int, .fieldLink RX4 9 "RingPages$State" "stay" "[I", .fieldLink RX4 15 "RingPages$State" "area" "[I"] ++ wsX40)
def wsX2_init : List Cond := .code yX2_init cX2_init 2 none :: ([.methodLink RX2 3 objectInit, .instanceMethod objectInit, .code objectInit ⟨#[0xb1]⟩ 1 none, .classLink RX2 9 RX4, .fieldLink RX2 11 "RingPages$Past" "kept" "[LRingPages$State;", .instantiable RX4 10, .initialized RX4, .instanceMethod yX4_init, .code yX4_init cX4_init 1 none, .methodLink RX4 3 objectInit, .arrayClass .int, .fieldLink RX4 9 "RingPages$State" "stay" "[I", .fieldLink RX4 15 "RingPages$State" "area" "[I"] ++ wsX20 ++ wsX40)
def wsX4_copyFrom : List Cond := .code yX4_copyFrom cX4_copyFrom 2 none :: ([.fieldLink RX4 9 "RingPages$State" "stay" "[I", .methodLink RX4 37 arraycopyName, .native arraycopyName, .static arraycopyName, .initialized "java/lang/System", .fieldLink RX4 15 "RingPages$State" "area" "[I", .fieldLink RX4 18 "RingPages$State" "kind" "I", .fieldLink RX4 22 "RingPages$State" "value" "I", .fieldLink RX4 25 "RingPages$State" "cell" "I", .fieldLink RX4 43 "RingPages$State" "home" "I", .fieldLink RX4 46 "RingPages$State" "moves" "I", .fieldLink RX4 49 "RingPages$State" "ticks" "I", .fieldLink RX4 28 "RingPages$State" "updates" "I", .fieldLink RX4 31 "RingPages$State" "paged" "I"] ++ wsX40)
def wsX2_keep_r1 : List Cond := [Cond.fieldLink RX2 11 "RingPages$Past" "kept" "[LRingPages$State;", Cond.fieldLink RX2 18 "RingPages$Past" "next" "I", Cond.fieldLink RX2 26 "RingPages$Past" "held" "I", Cond.methodLink RX2 29 Lib.Math.min.name, Cond.static Lib.Math.min.name, Cond.initialized "java/lang/Math", Cond.code Lib.Math.min.name Lib.Math.min.code 2 (some .int), Cond.methodLink RX2 22 yX4_copyFrom, Cond.instanceMethod yX4_copyFrom, Cond.selects RX4 yX4_copyFrom yX4_copyFrom, Cond.initialized RX4, Cond.code yX4_copyFrom cX4_copyFrom 2 none, Cond.fieldLink RX4 9 "RingPages$State" "stay" "[I", Cond.methodLink RX4 37 arraycopyName, Cond.native arraycopyName, Cond.static arraycopyName, Cond.initialized "java/lang/System", Cond.fieldLink RX4 15 "RingPages$State" "area" "[I", Cond.fieldLink RX4 18 "RingPages$State" "kind" "I", Cond.fieldLink RX4 22 "RingPages$State" "value" "I", Cond.fieldLink RX4 25 "RingPages$State" "cell" "I", Cond.fieldLink RX4 43 "RingPages$State" "home" "I", Cond.fieldLink RX4 46 "RingPages$State" "moves" "I", Cond.fieldLink RX4 49 "RingPages$State" "ticks" "I"]
def wsX2_keep_r2 : List Cond := [Cond.fieldLink RX4 28 "RingPages$State" "updates" "I", Cond.fieldLink RX4 31 "RingPages$State" "paged" "I"]
def wsX2_keep : List Cond := .code yX2_keep cX2_keep 2 none :: ((wsX2_keep_r1 ++ wsX2_keep_r2) ++ wsX20 ++ wsX40)
def wsX2_bringBack : List Cond := .code yX2_bringBack cX2_bringBack 2 (some .boolean) :: ([.fieldLink RX2 26 "RingPages$Past" "held" "I", .fieldLink RX2 18 "RingPages$Past" "next" "I", .fieldLink RX2 11 "RingPages$Past" "kept" "[LRingPages$State;", .methodLink RX2 22 yX4_copyFrom, .instanceMethod yX4_copyFrom, .selects RX4 yX4_copyFrom yX4_copyFrom, .initialized RX4, .code yX4_copyFrom cX4_copyFrom 2 none, .fieldLink RX4 9 "RingPages$State" "stay" "[I", .methodLink RX4 37 arraycopyName, .native arraycopyName, .static arraycopyName, .initialized "java/lang/System", .fieldLink RX4 15 "RingPages$State" "area" "[I", .fieldLink RX4 18 "RingPages$State" "kind" "I", .fieldLink RX4 22 "RingPages$State" "value" "I", .fieldLink RX4 25 "RingPages$State" "cell" "I", .fieldLink RX4 43 "RingPages$State" "home" "I", .fieldLink RX4 46 "RingPages$State" "moves" "I", .fieldLink RX4 49 "RingPages$State" "ticks" "I", .fieldLink RX4 28 "RingPages$State" "updates" "I", .fieldLink RX4 31 "RingPages$State" "paged" "I"] ++ wsX20 ++ wsX40)
def wsX3_init : List Cond := .code yX3_init cX3_init 1 none :: ([.methodLink RX3 3 objectInit, .instanceMethod objectInit, .code objectInit ⟨#[0xb1]⟩ 1 none, .arrayClass .int, .fieldLink RX3 9 "RingPages$Rounds" "row" "[I"] ++ wsX30)
def wsX3_lineUp : List Cond := .code yX3_lineUp cX3_lineUp 5 none :: ([.fieldLink RX3 15 "RingPages$Rounds" "length" "I", .fieldLink RX3 9 "RingPages$Rounds" "row" "[I", .static yX7_holds, .initialized RX7, .code yX7_holds cX7_holds 2 (some .boolean)] ++ wsX30)
def wsX3_isCutBehind : List Cond := .code yX3_isCutBehind cX3_isCutBehind 3 (some .boolean) :: ([.fieldLink RX3 15 "RingPages$Rounds" "length" "I", .static yX7_holds, .initialized RX7, .code yX7_holds cX7_holds 2 (some .boolean)] ++ wsX30)
def wsX3_meanPaged : List Cond := .code yX3_meanPaged cX3_meanPaged 7 (some .long) :: ([.fieldLink RX3 15 "RingPages$Rounds" "length" "I", .fieldLink RX3 9 "RingPages$Rounds" "row" "[I", .methodLink RX3 41 yX3_isCutBehind, .instanceMethod yX3_isCutBehind, .selects RX3 yX3_isCutBehind yX3_isCutBehind, .initialized RX3, .code yX3_isCutBehind cX3_isCutBehind 3 (some .boolean), .static yX7_holds, .initialized RX7, .code yX7_holds cX7_holds 2 (some .boolean)] ++ wsX30)
def wsX3_split : List Cond := .code yX3_split cX3_split 10 none :: ([.constantLong RX3 23 (-1), .fieldLink RX3 25 "RingPages$Rounds" "many" "I", .fieldLink RX3 28 "RingPages$Rounds" "cuts" "I", .fieldLink RX3 15 "RingPages$Rounds" "length" "I", .methodLink RX3 31 yJ6_bitCount_0f7a4, .static yJ6_bitCount_0f7a4, .initialized RJ6, .code yJ6_bitCount_0f7a4 cJ6_bitCount_0f7a4 1 (some .int), .constant RJ6 265 (1431655765), .constant RJ6 266 (858993459), .constant RJ6 267 (252645135), .methodLink RX3 37 yX3_meanPaged, .instanceMethod yX3_meanPaged, .selects RX3 yX3_meanPaged yX3_meanPaged, .initialized RX3, .code yX3_meanPaged cX3_meanPaged 7 (some .long), .fieldLink RX3 9 "RingPages$Rounds" "row" "[I", .methodLink RX3 41 yX3_isCutBehind, .instanceMethod yX3_isCutBehind, .selects RX3 yX3_isCutBehind yX3_isCutBehind, .code yX3_isCutBehind cX3_isCutBehind 3 (some .boolean), .static yX7_holds, .initialized RX7, .code yX7_holds cX7_holds 2 (some .boolean)] ++ wsX30)
def wsX3_cellsOf : List Cond := .code yX3_cellsOf cX3_cellsOf 5 (some .int) :: ([.fieldLink RX3 15 "RingPages$Rounds" "length" "I", .fieldLink RX3 9 "RingPages$Rounds" "row" "[I", .fieldLink RX3 28 "RingPages$Rounds" "cuts" "I", .methodLink RX3 41 yX3_isCutBehind, .instanceMethod yX3_isCutBehind, .selects RX3 yX3_isCutBehind yX3_isCutBehind, .initialized RX3, .code yX3_isCutBehind cX3_isCutBehind 3 (some .boolean), .static yX7_holds, .initialized RX7, .code yX7_holds cX7_holds 2 (some .boolean)] ++ wsX30)
def wsX4_register : List Cond := .code yX4_register cX4_register 1 none :: ([.fieldLink RX4 25 "RingPages$State" "cell" "I", .fieldLink RX4 43 "RingPages$State" "home" "I", .fieldLink RX4 46 "RingPages$State" "moves" "I", .fieldLink RX4 49 "RingPages$State" "ticks" "I"] ++ wsX40)
def wsX4_begin : List Cond := .code yX4_begin cX4_begin 2 none :: ([.fieldLink RX4 9 "RingPages$State" "stay" "[I", .fieldLink RX4 15 "RingPages$State" "area" "[I", .fieldLink RX4 18 "RingPages$State" "kind" "I", .fieldLink RX4 22 "RingPages$State" "value" "I", .fieldLink RX4 25 "RingPages$State" "cell" "I", .fieldLink RX4 28 "RingPages$State" "updates" "I", .fieldLink RX4 31 "RingPages$State" "paged" "I", .methodLink RX4 34 yX4_register, .instanceMethod yX4_register, .selects RX4 yX4_register yX4_register, .initialized RX4, .code yX4_register cX4_register 1 none, .fieldLink RX4 43 "RingPages$State" "home" "I", .fieldLink RX4 46 "RingPages$State" "moves" "I", .fieldLink RX4 49 "RingPages$State" "ticks" "I"] ++ wsX40)
def wsX4_canGo : List Cond := .code yX4_canGo cX4_canGo 3 (some .boolean) :: ([.fieldLink RX4 25 "RingPages$State" "cell" "I", .fieldLink RX4 9 "RingPages$State" "stay" "[I", .fieldLink RX4 52 "RingPages$Net" "near" "[I", .static yX7_holds, .initialized RX7, .code yX7_holds cX7_holds 2 (some .boolean)] ++ wsX40 ++ wsX10)
def wsX4_isOutside : List Cond := .code yX4_isOutside cX4_isOutside 3 (some .boolean) :: ([.fieldLink RX4 18 "RingPages$State" "kind" "I", .fieldLink RX4 15 "RingPages$State" "area" "[I", .fieldLink RX4 43 "RingPages$State" "home" "I", .fieldLink RX4 69 "RingPages$Net" "wide" "[[I", .fieldLink RX4 22 "RingPages$State" "value" "I"] ++ wsX40 ++ wsX10)
def wsX4_isDue : List Cond := .code yX4_isDue cX4_isDue 2 (some .boolean) :: ([.fieldLink RX4 18 "RingPages$State" "kind" "I", .fieldLink RX4 46 "RingPages$State" "moves" "I", .fieldLink RX4 22 "RingPages$State" "value" "I", .fieldLink RX4 49 "RingPages$State" "ticks" "I", .fieldLink RX4 25 "RingPages$State" "cell" "I", .methodLink RX4 65 yX4_isOutside, .instanceMethod yX4_isOutside, .selects RX4 yX4_isOutside yX4_isOutside, .initialized RX4, .code yX4_isOutside cX4_isOutside 3 (some .boolean), .fieldLink RX4 15 "RingPages$State" "area" "[I", .fieldLink RX4 43 "RingPages$State" "home" "I", .fieldLink RX4 69 "RingPages$Net" "wide" "[[I"] ++ wsX40 ++ wsX10)
def wsX4_go : List Cond := .code yX4_go cX4_go 3 (some .boolean) :: ([.fieldLink RX4 25 "RingPages$State" "cell" "I", .fieldLink RX4 46 "RingPages$State" "moves" "I", .fieldLink RX4 49 "RingPages$State" "ticks" "I", .fieldLink RX4 28 "RingPages$State" "updates" "I", .methodLink RX4 61 yX4_isDue, .instanceMethod yX4_isDue, .selects RX4 yX4_isDue yX4_isDue, .initialized RX4, .code yX4_isDue cX4_isDue 2 (some .boolean), .fieldLink RX4 18 "RingPages$State" "kind" "I", .fieldLink RX4 22 "RingPages$State" "value" "I", .methodLink RX4 65 yX4_isOutside, .instanceMethod yX4_isOutside, .selects RX4 yX4_isOutside yX4_isOutside, .code yX4_isOutside cX4_isOutside 3 (some .boolean), .fieldLink RX4 15 "RingPages$State" "area" "[I", .fieldLink RX4 43 "RingPages$State" "home" "I", .fieldLink RX4 69 "RingPages$Net" "wide" "[[I", .methodLink RX4 34 yX4_register, .instanceMethod yX4_register, .selects RX4 yX4_register yX4_register, .code yX4_register cX4_register 1 none] ++ wsX40 ++ wsX10)
def wsX4_drawnCell : List Cond := .code yX4_drawnCell cX4_drawnCell 7 (some .int) :: ([.fieldLink RX4 9 "RingPages$State" "stay" "[I", .fieldLink RX4 25 "RingPages$State" "cell" "I", .fieldLink RX4 73 "RingPages$Net" "out" "[I", .fieldLink RX4 76 "RingPages$Net" "cells" "I", .fieldLink RX4 79 "RingPages$Net" "weight" "[[I"] ++ wsX40 ++ wsX10)
def wsX5_init : List Cond := .code yX5_init cX5_init 1 none :: ([.methodLink RX5 3 objectInit, .instanceMethod objectInit, .code objectInit ⟨#[0xb1]⟩ 1 none, .arrayClass .int, .fieldLink RX5 9 "RingPages$Text" "letters" "[I", .fieldLink RX5 15 "RingPages$Text" "numbers" "[I"] ++ wsX50)
def wsX5_append : List Cond := .code yX5_append cX5_append 2 (some .boolean) :: ([.fieldLink RX5 18 "RingPages$Text" "length" "I", .fieldLink RX5 9 "RingPages$Text" "letters" "[I"] ++ wsX50)
def wsX5_letterHere : List Cond := .code yX5_letterHere cX5_letterHere 1 (some .int) :: ([.fieldLink RX5 32 "RingPages$Text" "place" "I", .fieldLink RX5 18 "RingPages$Text" "length" "I", .fieldLink RX5 9 "RingPages$Text" "letters" "[I"] ++ wsX50)
def wsX5_numbersBehind : List Cond := .code yX5_numbersBehind cX5_numbersBehind 2 (some .int) :: ([])
def wsX5_figureHere : List Cond := .code yX5_figureHere cX5_figureHere 2 (some .int) :: ([.fieldLink RX5 32 "RingPages$Text" "place" "I", .fieldLink RX5 18 "RingPages$Text" "length" "I", .fieldLink RX5 9 "RingPages$Text" "letters" "[I"] ++ wsX50)
def wsX5_readNumber : List Cond := .code yX5_readNumber cX5_readNumber 3 (some .int) :: ([.fieldLink RX5 32 "RingPages$Text" "place" "I", .methodLink RX5 105 yX5_figureHere, .instanceMethod yX5_figureHere, .selects RX5 yX5_figureHere yX5_figureHere, .initialized RX5, .code yX5_figureHere cX5_figureHere 2 (some .int), .fieldLink RX5 18 "RingPages$Text" "length" "I", .fieldLink RX5 9 "RingPages$Text" "letters" "[I"] ++ wsX50)
def wsX5_readNumbers : List Cond := .code yX5_readNumbers cX5_readNumbers 3 (some .boolean) :: ([.fieldLink RX5 15 "RingPages$Text" "numbers" "[I", .fieldLink RX5 32 "RingPages$Text" "place" "I", .methodLink RX5 102 yX5_readNumber, .instanceMethod yX5_readNumber, .selects RX5 yX5_readNumber yX5_readNumber, .initialized RX5, .code yX5_readNumber cX5_readNumber 3 (some .int), .methodLink RX5 105 yX5_figureHere, .instanceMethod yX5_figureHere, .selects RX5 yX5_figureHere yX5_figureHere, .code yX5_figureHere cX5_figureHere 2 (some .int), .fieldLink RX5 18 "RingPages$Text" "length" "I", .fieldLink RX5 9 "RingPages$Text" "letters" "[I", .methodLink RX5 39 yX5_letterHere, .instanceMethod yX5_letterHere, .selects RX5 yX5_letterHere yX5_letterHere, .code yX5_letterHere cX5_letterHere 1 (some .int)] ++ wsX50)
def wsX5_takeCells : List Cond := .code yX5_takeCells cX5_takeCells 2 (some .boolean) :: ([.fieldLink RX5 15 "RingPages$Text" "numbers" "[I", .methodLink RX5 22 yX1_begin, .instanceMethod yX1_begin, .selects RX1 yX1_begin yX1_begin, .initialized RX1, .code yX1_begin cX1_begin 4 none, .fieldLink RX1 33 "RingPages$Net" "cells" "I", .fieldLink RX1 37 "RingPages$Net" "joins" "I", .fieldLink RX1 19 "RingPages$Net" "near" "[I", .fieldLink RX1 23 "RingPages$Net" "out" "[I", .fieldLink RX1 11 "RingPages$Net" "weight" "[[I", .fieldLink RX1 16 "RingPages$Net" "wide" "[[I", .methodLink RX1 40 yX1_price, .instanceMethod yX1_price, .selects RX1 yX1_price yX1_price, .code yX1_price cX1_price 5 none, .fieldLink RX1 44 "RingPages$Net" "mostRounds" "I", .fieldLink RX1 47 "RingPages$Net" "pageCost" "I", .fieldLink RX1 50 "RingPages$Net" "updateCost" "I", .fieldLink RX1 53 "RingPages$Net" "callChance" "I"] ++ wsX50 ++ wsX10)
def wsX5_isWeight : List Cond := .code yX5_isWeight cX5_isWeight 2 (some .boolean) :: ([])
def wsX5_takeJoin : List Cond := .code yX5_takeJoin cX5_takeJoin 4 (some .boolean) :: ([.fieldLink RX5 15 "RingPages$Text" "numbers" "[I", .fieldLink RX5 43 "RingPages$Net" "cells" "I", .fieldLink RX5 78 "RingPages$Net" "weight" "[[I", .methodLink RX5 82 yX5_isWeight, .instanceMethod yX5_isWeight, .selects RX5 yX5_isWeight yX5_isWeight, .initialized RX5, .code yX5_isWeight cX5_isWeight 2 (some .boolean), .methodLink RX5 85 yX1_join, .instanceMethod yX1_join, .selects RX1 yX1_join yX1_join, .initialized RX1, .code yX1_join cX1_join 5 none, .fieldLink RX1 37 "RingPages$Net" "joins" "I", .methodLink RX1 56 yX1_lead, .instanceMethod yX1_lead, .selects RX1 yX1_lead yX1_lead, .code yX1_lead cX1_lead 4 none, .fieldLink RX1 11 "RingPages$Net" "weight" "[[I", .fieldLink RX1 16 "RingPages$Net" "wide" "[[I", .fieldLink RX1 19 "RingPages$Net" "near" "[I", .fieldLink RX1 23 "RingPages$Net" "out" "[I"] ++ wsX50 ++ wsX10)
def wsX5_takeCellNumber : List Cond := .code yX5_takeCellNumber cX5_takeCellNumber 4 (some .boolean) :: ([.fieldLink RX5 15 "RingPages$Text" "numbers" "[I", .fieldLink RX5 43 "RingPages$Net" "cells" "I"] ++ wsX50 ++ wsX10)
def wsX7_isLaw : List Cond := .code yX7_isLaw cX7_isLaw 2 (some .boolean) :: ([])
def wsX5_takeLaw : List Cond := .code yX5_takeLaw cX5_takeLaw 2 (some .boolean) :: ([.fieldLink RX5 15 "RingPages$Text" "numbers" "[I", .fieldLink RX5 93 "RingPages$State" "kind" "I", .fieldLink RX5 96 "RingPages$State" "value" "I", .static yX7_isLaw, .initialized RX7, .code yX7_isLaw cX7_isLaw 2 (some .boolean)] ++ wsX50 ++ wsX40)
def wsX5_takePrices : List Cond := .code yX5_takePrices cX5_takePrices 2 (some .boolean) :: ([.fieldLink RX5 15 "RingPages$Text" "numbers" "[I", .methodLink RX5 99 yX1_price, .instanceMethod yX1_price, .selects RX1 yX1_price yX1_price, .initialized RX1, .code yX1_price cX1_price 5 none, .fieldLink RX1 44 "RingPages$Net" "mostRounds" "I", .fieldLink RX1 47 "RingPages$Net" "pageCost" "I", .fieldLink RX1 50 "RingPages$Net" "updateCost" "I", .fieldLink RX1 53 "RingPages$Net" "callChance" "I"] ++ wsX50 ++ wsX10)
def wsX5_readItem_r1 : List Cond := [Cond.fieldLink RX5 32 "RingPages$Text" "place" "I", Cond.fieldLink RX5 43 "RingPages$Net" "cells" "I", Cond.fieldLink RX5 61 "RingPages$State" "stay" "[I", Cond.fieldLink RX5 68 "RingPages$State" "area" "[I", Cond.methodLink RX5 39 yX5_letterHere, Cond.instanceMethod yX5_letterHere, Cond.selects RX5 yX5_letterHere yX5_letterHere, Cond.initialized RX5, Cond.code yX5_letterHere cX5_letterHere 1 (some .int), Cond.fieldLink RX5 18 "RingPages$Text" "length" "I", Cond.fieldLink RX5 9 "RingPages$Text" "letters" "[I", Cond.methodLink RX5 46 yX5_numbersBehind, Cond.instanceMethod yX5_numbersBehind, Cond.selects RX5 yX5_numbersBehind yX5_numbersBehind, Cond.code yX5_numbersBehind cX5_numbersBehind 2 (some .int), Cond.methodLink RX5 50 yX5_readNumbers, Cond.instanceMethod yX5_readNumbers, Cond.selects RX5 yX5_readNumbers yX5_readNumbers, Cond.code yX5_readNumbers cX5_readNumbers 3 (some .boolean), Cond.fieldLink RX5 15 "RingPages$Text" "numbers" "[I", Cond.methodLink RX5 102 yX5_readNumber, Cond.instanceMethod yX5_readNumber, Cond.selects RX5 yX5_readNumber yX5_readNumber, Cond.code yX5_readNumber cX5_readNumber 3 (some .int)]
def wsX5_readItem_r2 : List Cond := [Cond.methodLink RX5 105 yX5_figureHere, Cond.instanceMethod yX5_figureHere, Cond.selects RX5 yX5_figureHere yX5_figureHere, Cond.code yX5_figureHere cX5_figureHere 2 (some .int), Cond.methodLink RX5 54 yX5_takeCells, Cond.instanceMethod yX5_takeCells, Cond.selects RX5 yX5_takeCells yX5_takeCells, Cond.code yX5_takeCells cX5_takeCells 2 (some .boolean), Cond.methodLink RX5 22 yX1_begin, Cond.instanceMethod yX1_begin, Cond.selects RX1 yX1_begin yX1_begin, Cond.initialized RX1, Cond.code yX1_begin cX1_begin 4 none, Cond.fieldLink RX1 33 "RingPages$Net" "cells" "I", Cond.fieldLink RX1 37 "RingPages$Net" "joins" "I", Cond.fieldLink RX1 19 "RingPages$Net" "near" "[I", Cond.fieldLink RX1 23 "RingPages$Net" "out" "[I", Cond.fieldLink RX1 11 "RingPages$Net" "weight" "[[I", Cond.fieldLink RX1 16 "RingPages$Net" "wide" "[[I", Cond.methodLink RX1 40 yX1_price, Cond.instanceMethod yX1_price, Cond.selects RX1 yX1_price yX1_price, Cond.code yX1_price cX1_price 5 none, Cond.fieldLink RX1 44 "RingPages$Net" "mostRounds" "I"]
def wsX5_readItem_r3 : List Cond := [Cond.fieldLink RX1 47 "RingPages$Net" "pageCost" "I", Cond.fieldLink RX1 50 "RingPages$Net" "updateCost" "I", Cond.fieldLink RX1 53 "RingPages$Net" "callChance" "I", Cond.methodLink RX5 58 yX5_takeJoin, Cond.instanceMethod yX5_takeJoin, Cond.selects RX5 yX5_takeJoin yX5_takeJoin, Cond.code yX5_takeJoin cX5_takeJoin 4 (some .boolean), Cond.fieldLink RX5 78 "RingPages$Net" "weight" "[[I", Cond.methodLink RX5 82 yX5_isWeight, Cond.instanceMethod yX5_isWeight, Cond.selects RX5 yX5_isWeight yX5_isWeight, Cond.code yX5_isWeight cX5_isWeight 2 (some .boolean), Cond.methodLink RX5 85 yX1_join, Cond.instanceMethod yX1_join, Cond.selects RX1 yX1_join yX1_join, Cond.code yX1_join cX1_join 5 none, Cond.methodLink RX1 56 yX1_lead, Cond.instanceMethod yX1_lead, Cond.selects RX1 yX1_lead yX1_lead, Cond.code yX1_lead cX1_lead 4 none, Cond.methodLink RX5 64 yX5_takeCellNumber, Cond.instanceMethod yX5_takeCellNumber, Cond.selects RX5 yX5_takeCellNumber yX5_takeCellNumber, Cond.code yX5_takeCellNumber cX5_takeCellNumber 4 (some .boolean)]
def wsX5_readItem_r4 : List Cond := [Cond.methodLink RX5 71 yX5_takeLaw, Cond.instanceMethod yX5_takeLaw, Cond.selects RX5 yX5_takeLaw yX5_takeLaw, Cond.code yX5_takeLaw cX5_takeLaw 2 (some .boolean), Cond.fieldLink RX5 93 "RingPages$State" "kind" "I", Cond.fieldLink RX5 96 "RingPages$State" "value" "I", Cond.static yX7_isLaw, Cond.initialized RX7, Cond.code yX7_isLaw cX7_isLaw 2 (some .boolean), Cond.methodLink RX5 75 yX5_takePrices, Cond.instanceMethod yX5_takePrices, Cond.selects RX5 yX5_takePrices yX5_takePrices, Cond.code yX5_takePrices cX5_takePrices 2 (some .boolean), Cond.methodLink RX5 99 yX1_price]
def wsX5_readItem : List Cond := .code yX5_readItem cX5_readItem 5 (some .boolean) :: ((wsX5_readItem_r1 ++ (wsX5_readItem_r2 ++ (wsX5_readItem_r3 ++ wsX5_readItem_r4))) ++ wsX50 ++ wsX10 ++ wsX40)
def wsX5_readInto_r1 : List Cond := [Cond.fieldLink RX5 32 "RingPages$Text" "place" "I", Cond.fieldLink RX5 18 "RingPages$Text" "length" "I", Cond.methodLink RX5 22 yX1_begin, Cond.instanceMethod yX1_begin, Cond.selects RX1 yX1_begin yX1_begin, Cond.initialized RX1, Cond.code yX1_begin cX1_begin 4 none, Cond.fieldLink RX1 33 "RingPages$Net" "cells" "I", Cond.fieldLink RX1 37 "RingPages$Net" "joins" "I", Cond.fieldLink RX1 19 "RingPages$Net" "near" "[I", Cond.fieldLink RX1 23 "RingPages$Net" "out" "[I", Cond.fieldLink RX1 11 "RingPages$Net" "weight" "[[I", Cond.fieldLink RX1 16 "RingPages$Net" "wide" "[[I", Cond.methodLink RX1 40 yX1_price, Cond.instanceMethod yX1_price, Cond.selects RX1 yX1_price yX1_price, Cond.code yX1_price cX1_price 5 none, Cond.fieldLink RX1 44 "RingPages$Net" "mostRounds" "I", Cond.fieldLink RX1 47 "RingPages$Net" "pageCost" "I", Cond.fieldLink RX1 50 "RingPages$Net" "updateCost" "I", Cond.fieldLink RX1 53 "RingPages$Net" "callChance" "I", Cond.methodLink RX5 28 yX4_begin, Cond.instanceMethod yX4_begin, Cond.selects RX4 yX4_begin yX4_begin]
def wsX5_readInto_r2 : List Cond := [Cond.initialized RX4, Cond.code yX4_begin cX4_begin 2 none, Cond.fieldLink RX4 9 "RingPages$State" "stay" "[I", Cond.fieldLink RX4 15 "RingPages$State" "area" "[I", Cond.fieldLink RX4 18 "RingPages$State" "kind" "I", Cond.fieldLink RX4 22 "RingPages$State" "value" "I", Cond.fieldLink RX4 25 "RingPages$State" "cell" "I", Cond.fieldLink RX4 28 "RingPages$State" "updates" "I", Cond.fieldLink RX4 31 "RingPages$State" "paged" "I", Cond.methodLink RX4 34 yX4_register, Cond.instanceMethod yX4_register, Cond.selects RX4 yX4_register yX4_register, Cond.code yX4_register cX4_register 1 none, Cond.fieldLink RX4 43 "RingPages$State" "home" "I", Cond.fieldLink RX4 46 "RingPages$State" "moves" "I", Cond.fieldLink RX4 49 "RingPages$State" "ticks" "I", Cond.methodLink RX5 35 yX5_readItem, Cond.instanceMethod yX5_readItem, Cond.selects RX5 yX5_readItem yX5_readItem, Cond.initialized RX5, Cond.code yX5_readItem cX5_readItem 5 (some .boolean), Cond.fieldLink RX5 43 "RingPages$Net" "cells" "I", Cond.fieldLink RX5 61 "RingPages$State" "stay" "[I", Cond.fieldLink RX5 68 "RingPages$State" "area" "[I"]
def wsX5_readInto_r3 : List Cond := [Cond.methodLink RX5 39 yX5_letterHere, Cond.instanceMethod yX5_letterHere, Cond.selects RX5 yX5_letterHere yX5_letterHere, Cond.code yX5_letterHere cX5_letterHere 1 (some .int), Cond.fieldLink RX5 9 "RingPages$Text" "letters" "[I", Cond.methodLink RX5 46 yX5_numbersBehind, Cond.instanceMethod yX5_numbersBehind, Cond.selects RX5 yX5_numbersBehind yX5_numbersBehind, Cond.code yX5_numbersBehind cX5_numbersBehind 2 (some .int), Cond.methodLink RX5 50 yX5_readNumbers, Cond.instanceMethod yX5_readNumbers, Cond.selects RX5 yX5_readNumbers yX5_readNumbers, Cond.code yX5_readNumbers cX5_readNumbers 3 (some .boolean), Cond.fieldLink RX5 15 "RingPages$Text" "numbers" "[I", Cond.methodLink RX5 102 yX5_readNumber, Cond.instanceMethod yX5_readNumber, Cond.selects RX5 yX5_readNumber yX5_readNumber, Cond.code yX5_readNumber cX5_readNumber 3 (some .int), Cond.methodLink RX5 105 yX5_figureHere, Cond.instanceMethod yX5_figureHere, Cond.selects RX5 yX5_figureHere yX5_figureHere, Cond.code yX5_figureHere cX5_figureHere 2 (some .int), Cond.methodLink RX5 54 yX5_takeCells, Cond.instanceMethod yX5_takeCells]
def wsX5_readInto_r4 : List Cond := [Cond.selects RX5 yX5_takeCells yX5_takeCells, Cond.code yX5_takeCells cX5_takeCells 2 (some .boolean), Cond.methodLink RX5 58 yX5_takeJoin, Cond.instanceMethod yX5_takeJoin, Cond.selects RX5 yX5_takeJoin yX5_takeJoin, Cond.code yX5_takeJoin cX5_takeJoin 4 (some .boolean), Cond.fieldLink RX5 78 "RingPages$Net" "weight" "[[I", Cond.methodLink RX5 82 yX5_isWeight, Cond.instanceMethod yX5_isWeight, Cond.selects RX5 yX5_isWeight yX5_isWeight, Cond.code yX5_isWeight cX5_isWeight 2 (some .boolean), Cond.methodLink RX5 85 yX1_join, Cond.instanceMethod yX1_join, Cond.selects RX1 yX1_join yX1_join, Cond.code yX1_join cX1_join 5 none, Cond.methodLink RX1 56 yX1_lead, Cond.instanceMethod yX1_lead, Cond.selects RX1 yX1_lead yX1_lead, Cond.code yX1_lead cX1_lead 4 none, Cond.methodLink RX5 64 yX5_takeCellNumber, Cond.instanceMethod yX5_takeCellNumber, Cond.selects RX5 yX5_takeCellNumber yX5_takeCellNumber, Cond.code yX5_takeCellNumber cX5_takeCellNumber 4 (some .boolean), Cond.methodLink RX5 71 yX5_takeLaw]
def wsX5_readInto_r5 : List Cond := [Cond.instanceMethod yX5_takeLaw, Cond.selects RX5 yX5_takeLaw yX5_takeLaw, Cond.code yX5_takeLaw cX5_takeLaw 2 (some .boolean), Cond.fieldLink RX5 93 "RingPages$State" "kind" "I", Cond.fieldLink RX5 96 "RingPages$State" "value" "I", Cond.static yX7_isLaw, Cond.initialized RX7, Cond.code yX7_isLaw cX7_isLaw 2 (some .boolean), Cond.methodLink RX5 75 yX5_takePrices, Cond.instanceMethod yX5_takePrices, Cond.selects RX5 yX5_takePrices yX5_takePrices, Cond.code yX5_takePrices cX5_takePrices 2 (some .boolean), Cond.methodLink RX5 99 yX1_price]
def wsX5_readInto : List Cond := .code yX5_readInto cX5_readInto 5 (some .int) :: ((wsX5_readInto_r1 ++ (wsX5_readInto_r2 ++ (wsX5_readInto_r3 ++ (wsX5_readInto_r4 ++ wsX5_readInto_r5)))) ++ wsX50 ++ wsX10 ++ wsX40)
def wsX6_init : List Cond := .code yX6_init cX6_init 1 none :: ([.methodLink RX6 3 objectInit, .instanceMethod objectInit, .code objectInit ⟨#[0xb1]⟩ 1 none, .arrayClass .int, .fieldLink RX6 9 "RingPages$Whereabouts" "reached" "[I"] ++ wsX60)
def wsX6_insideOf : List Cond := .code yX6_insideOf cX6_insideOf 5 (some .int) :: ([.fieldLink RX6 44 "RingPages$Net" "cells" "I", .methodLink RX6 49 yX4_isOutside, .instanceMethod yX4_isOutside, .selects RX4 yX4_isOutside yX4_isOutside, .initialized RX4, .code yX4_isOutside cX4_isOutside 3 (some .boolean), .fieldLink RX4 18 "RingPages$State" "kind" "I", .fieldLink RX4 15 "RingPages$State" "area" "[I", .fieldLink RX4 43 "RingPages$State" "home" "I", .fieldLink RX4 69 "RingPages$Net" "wide" "[[I", .fieldLink RX4 22 "RingPages$State" "value" "I"] ++ wsX10 ++ wsX40)
def wsX6_movers : List Cond := .code yX6_movers cX6_movers 5 (some .int) :: ([.fieldLink RX6 44 "RingPages$Net" "cells" "I", .fieldLink RX6 68 "RingPages$Net" "near" "[I", .static yX7_holds, .initialized RX7, .code yX7_holds cX7_holds 2 (some .boolean)] ++ wsX10)
def wsX6_stayers : List Cond := .code yX6_stayers cX6_stayers 6 (some .int) :: ([.fieldLink RX6 44 "RingPages$Net" "cells" "I", .fieldLink RX6 65 "RingPages$State" "stay" "[I", .static yX7_holds, .initialized RX7, .code yX7_holds cX7_holds 2 (some .boolean)] ++ wsX10 ++ wsX40)
def wsX6_step : List Cond := .code yX6_step cX6_step 9 (some .boolean) :: ([.fieldLink RX6 15 "RingPages$State" "kind" "I", .fieldLink RX6 9 "RingPages$Whereabouts" "reached" "[I", .methodLink RX6 53 yX6_movers, .instanceMethod yX6_movers, .selects RX6 yX6_movers yX6_movers, .initialized RX6, .code yX6_movers cX6_movers 5 (some .int), .fieldLink RX6 44 "RingPages$Net" "cells" "I", .fieldLink RX6 68 "RingPages$Net" "near" "[I", .static yX7_holds, .initialized RX7, .code yX7_holds cX7_holds 2 (some .boolean), .methodLink RX6 57 yX6_stayers, .instanceMethod yX6_stayers, .selects RX6 yX6_stayers yX6_stayers, .code yX6_stayers cX6_stayers 6 (some .int), .fieldLink RX6 65 "RingPages$State" "stay" "[I"] ++ wsX40 ++ wsX60 ++ wsX10)
def wsX6_find_r1 : List Cond := [Cond.fieldLink RX6 15 "RingPages$State" "kind" "I", Cond.fieldLink RX6 21 "RingPages$State" "value" "I", Cond.methodLink RX6 24 Lib.Math.min.name, Cond.static Lib.Math.min.name, Cond.initialized "java/lang/Math", Cond.code Lib.Math.min.name Lib.Math.min.code 2 (some .int), Cond.fieldLink RX6 9 "RingPages$Whereabouts" "reached" "[I", Cond.fieldLink RX6 34 "RingPages$State" "home" "I", Cond.fieldLink RX6 37 "RingPages$State" "ticks" "I", Cond.methodLink RX6 30 yX6_insideOf, Cond.instanceMethod yX6_insideOf, Cond.selects RX6 yX6_insideOf yX6_insideOf, Cond.initialized RX6, Cond.code yX6_insideOf cX6_insideOf 5 (some .int), Cond.fieldLink RX6 44 "RingPages$Net" "cells" "I", Cond.methodLink RX6 49 yX4_isOutside, Cond.instanceMethod yX4_isOutside, Cond.selects RX4 yX4_isOutside yX4_isOutside, Cond.initialized RX4, Cond.code yX4_isOutside cX4_isOutside 3 (some .boolean), Cond.fieldLink RX4 18 "RingPages$State" "kind" "I", Cond.fieldLink RX4 15 "RingPages$State" "area" "[I", Cond.fieldLink RX4 43 "RingPages$State" "home" "I", Cond.fieldLink RX4 69 "RingPages$Net" "wide" "[[I"]
def wsX6_find_r2 : List Cond := [Cond.fieldLink RX4 22 "RingPages$State" "value" "I", Cond.methodLink RX6 40 yX6_step, Cond.instanceMethod yX6_step, Cond.selects RX6 yX6_step yX6_step, Cond.code yX6_step cX6_step 9 (some .boolean), Cond.methodLink RX6 53 yX6_movers, Cond.instanceMethod yX6_movers, Cond.selects RX6 yX6_movers yX6_movers, Cond.code yX6_movers cX6_movers 5 (some .int), Cond.fieldLink RX6 68 "RingPages$Net" "near" "[I", Cond.static yX7_holds, Cond.initialized RX7, Cond.code yX7_holds cX7_holds 2 (some .boolean), Cond.methodLink RX6 57 yX6_stayers, Cond.instanceMethod yX6_stayers, Cond.selects RX6 yX6_stayers yX6_stayers, Cond.code yX6_stayers cX6_stayers 6 (some .int), Cond.fieldLink RX6 65 "RingPages$State" "stay" "[I"]
def wsX6_find : List Cond := .code yX6_find cX6_find 8 (some .int) :: ((wsX6_find_r1 ++ wsX6_find_r2) ++ wsX40 ++ wsX60 ++ wsX10)
def wsJ0_coder_7d493 : List Cond := .code yJ0_coder_7d493 cJ0_coder_7d493 1 (some .byte) :: ([.fieldLink RJ0 38 "java/lang/String" "COMPACT_STRINGS" "Z", .fieldLink RJ0 15 "java/lang/String" "coder" "B"])
def wsJ0_length_8abf5 : List Cond := .code yJ0_length_8abf5 cJ0_length_8abf5 1 (some .int) :: ([.fieldLink RJ0 9 "java/lang/String" "value" "[B", .methodLink RJ0 335 yJ0_coder_7d493, .instanceMethod yJ0_coder_7d493, .selects RJ0 yJ0_coder_7d493 yJ0_coder_7d493, .initialized RJ0, .code yJ0_coder_7d493 cJ0_coder_7d493 1 (some .byte), .fieldLink RJ0 38 "java/lang/String" "COMPACT_STRINGS" "Z", .fieldLink RJ0 15 "java/lang/String" "coder" "B"])
def wsJ0_isLatin1_aae02 : List Cond := .code yJ0_isLatin1_aae02 cJ0_isLatin1_aae02 1 (some .boolean) :: ([.fieldLink RJ0 38 "java/lang/String" "COMPACT_STRINGS" "Z", .fieldLink RJ0 15 "java/lang/String" "coder" "B"])
def wsJ3_checkIndex_8e157 : List Cond := .code yJ3_checkIndex_8e157 cJ3_checkIndex_8e157 3 (some .int) :: ([])
def wsJ0_checkIndex_df160 : List Cond := .code yJ0_checkIndex_df160 cJ0_checkIndex_df160 2 none :: ([.fieldLink RJ0 1053 "jdk/internal/util/Preconditions" "SIOOBE_FORMATTER" "Ljava/util/function/BiFunction;", .methodLink RJ0 1059 yJ3_checkIndex_8e157, .static yJ3_checkIndex_8e157, .initialized RJ3, .code yJ3_checkIndex_8e157 cJ3_checkIndex_8e157 3 (some .int)])
def wsJ1_charAt_3b067 : List Cond := .code yJ1_charAt_3b067 cJ1_charAt_3b067 2 (some .char) :: ([.methodLink RJ1 9 yJ0_checkIndex_df160, .static yJ0_checkIndex_df160, .initialized RJ0, .code yJ0_checkIndex_df160 cJ0_checkIndex_df160 2 none, .fieldLink RJ0 1053 "jdk/internal/util/Preconditions" "SIOOBE_FORMATTER" "Ljava/util/function/BiFunction;", .methodLink RJ0 1059 yJ3_checkIndex_8e157, .static yJ3_checkIndex_8e157, .initialized RJ3, .code yJ3_checkIndex_8e157 cJ3_checkIndex_8e157 3 (some .int)])
def wsJ2_length_9d52b : List Cond := .code yJ2_length_9d52b cJ2_length_9d52b 1 (some .int) :: ([])
def wsJ2_checkIndex_2214a : List Cond := .code yJ2_checkIndex_2214a cJ2_checkIndex_2214a 2 none :: ([.methodLink RJ2 48 yJ2_length_9d52b, .static yJ2_length_9d52b, .initialized RJ2, .code yJ2_length_9d52b cJ2_length_9d52b 1 (some .int), .methodLink RJ2 414 yJ0_checkIndex_df160, .static yJ0_checkIndex_df160, .initialized RJ0, .code yJ0_checkIndex_df160 cJ0_checkIndex_df160 2 none, .fieldLink RJ0 1053 "jdk/internal/util/Preconditions" "SIOOBE_FORMATTER" "Ljava/util/function/BiFunction;", .methodLink RJ0 1059 yJ3_checkIndex_8e157, .static yJ3_checkIndex_8e157, .initialized RJ3, .code yJ3_checkIndex_8e157 cJ3_checkIndex_8e157 3 (some .int)])
def wsJ2_getChar_3b067 : List Cond := .code yJ2_getChar_3b067 cJ2_getChar_3b067 2 (some .char) :: ([.fieldLink RJ2 44 "java/lang/StringUTF16" "$assertionsDisabled" "Z", .fieldLink RJ2 59 "java/lang/StringUTF16" "HI_BYTE_SHIFT" "I", .fieldLink RJ2 63 "java/lang/StringUTF16" "LO_BYTE_SHIFT" "I", .methodLink RJ2 48 yJ2_length_9d52b, .static yJ2_length_9d52b, .initialized RJ2, .code yJ2_length_9d52b cJ2_length_9d52b 1 (some .int)])
def wsJ2_charAt_3b067 : List Cond := .code yJ2_charAt_3b067 cJ2_charAt_3b067 2 (some .char) :: ([.methodLink RJ2 67 yJ2_checkIndex_2214a, .static yJ2_checkIndex_2214a, .initialized RJ2, .code yJ2_checkIndex_2214a cJ2_checkIndex_2214a 2 none, .methodLink RJ2 48 yJ2_length_9d52b, .static yJ2_length_9d52b, .code yJ2_length_9d52b cJ2_length_9d52b 1 (some .int), .methodLink RJ2 414 yJ0_checkIndex_df160, .static yJ0_checkIndex_df160, .initialized RJ0, .code yJ0_checkIndex_df160 cJ0_checkIndex_df160 2 none, .fieldLink RJ0 1053 "jdk/internal/util/Preconditions" "SIOOBE_FORMATTER" "Ljava/util/function/BiFunction;", .methodLink RJ0 1059 yJ3_checkIndex_8e157, .static yJ3_checkIndex_8e157, .initialized RJ3, .code yJ3_checkIndex_8e157 cJ3_checkIndex_8e157 3 (some .int), .methodLink RJ2 71 yJ2_getChar_3b067, .static yJ2_getChar_3b067, .code yJ2_getChar_3b067 cJ2_getChar_3b067 2 (some .char), .fieldLink RJ2 44 "java/lang/StringUTF16" "$assertionsDisabled" "Z", .fieldLink RJ2 59 "java/lang/StringUTF16" "HI_BYTE_SHIFT" "I", .fieldLink RJ2 63 "java/lang/StringUTF16" "LO_BYTE_SHIFT" "I"])
def wsJ0_charAt_5068e_r1 : List Cond := [Cond.fieldLink RJ0 9 "java/lang/String" "value" "[B", Cond.methodLink RJ0 492 yJ0_isLatin1_aae02, Cond.instanceMethod yJ0_isLatin1_aae02, Cond.selects RJ0 yJ0_isLatin1_aae02 yJ0_isLatin1_aae02, Cond.initialized RJ0, Cond.code yJ0_isLatin1_aae02 cJ0_isLatin1_aae02 1 (some .boolean), Cond.fieldLink RJ0 38 "java/lang/String" "COMPACT_STRINGS" "Z", Cond.fieldLink RJ0 15 "java/lang/String" "coder" "B", Cond.methodLink RJ0 495 yJ1_charAt_3b067, Cond.static yJ1_charAt_3b067, Cond.initialized RJ1, Cond.code yJ1_charAt_3b067 cJ1_charAt_3b067 2 (some .char), Cond.methodLink RJ1 9 yJ0_checkIndex_df160, Cond.static yJ0_checkIndex_df160, Cond.code yJ0_checkIndex_df160 cJ0_checkIndex_df160 2 none, Cond.fieldLink RJ0 1053 "jdk/internal/util/Preconditions" "SIOOBE_FORMATTER" "Ljava/util/function/BiFunction;", Cond.methodLink RJ0 1059 yJ3_checkIndex_8e157, Cond.static yJ3_checkIndex_8e157, Cond.initialized RJ3, Cond.code yJ3_checkIndex_8e157 cJ3_checkIndex_8e157 3 (some .int), Cond.methodLink RJ0 498 yJ2_charAt_3b067, Cond.static yJ2_charAt_3b067, Cond.initialized RJ2, Cond.code yJ2_charAt_3b067 cJ2_charAt_3b067 2 (some .char)]
def wsJ0_charAt_5068e_r2 : List Cond := [Cond.methodLink RJ2 67 yJ2_checkIndex_2214a, Cond.static yJ2_checkIndex_2214a, Cond.code yJ2_checkIndex_2214a cJ2_checkIndex_2214a 2 none, Cond.methodLink RJ2 48 yJ2_length_9d52b, Cond.static yJ2_length_9d52b, Cond.code yJ2_length_9d52b cJ2_length_9d52b 1 (some .int), Cond.methodLink RJ2 414 yJ0_checkIndex_df160, Cond.methodLink RJ2 71 yJ2_getChar_3b067, Cond.static yJ2_getChar_3b067, Cond.code yJ2_getChar_3b067 cJ2_getChar_3b067 2 (some .char), Cond.fieldLink RJ2 44 "java/lang/StringUTF16" "$assertionsDisabled" "Z", Cond.fieldLink RJ2 59 "java/lang/StringUTF16" "HI_BYTE_SHIFT" "I", Cond.fieldLink RJ2 63 "java/lang/StringUTF16" "LO_BYTE_SHIFT" "I"]
def wsJ0_charAt_5068e : List Cond := .code yJ0_charAt_5068e cJ0_charAt_5068e 2 (some .char) :: ((wsJ0_charAt_5068e_r1 ++ wsJ0_charAt_5068e_r2))
def wsX7_layText_r1 : List Cond := [Cond.fieldLink RX7 10 "RingPages" "text" "LRingPages$Text;", Cond.fieldLink RX7 61 "RingPages" "draftNet" "LRingPages$Net;", Cond.fieldLink RX7 64 "RingPages" "draftState" "LRingPages$State;", Cond.fieldLink RX7 54 "RingPages" "net" "LRingPages$Net;", Cond.fieldLink RX7 58 "RingPages" "state" "LRingPages$State;", Cond.fieldLink RX7 19 "RingPages" "past" "LRingPages$Past;", Cond.fieldLink RX7 103 "RingPages$Past" "held" "I", Cond.fieldLink RX7 26 "RingPages" "longRun" "LRingPages$LongRun;", Cond.methodLink RX7 90 yX5_readInto, Cond.instanceMethod yX5_readInto, Cond.selects RX5 yX5_readInto yX5_readInto, Cond.initialized RX5, Cond.code yX5_readInto cX5_readInto 5 (some .int), Cond.fieldLink RX5 32 "RingPages$Text" "place" "I", Cond.fieldLink RX5 18 "RingPages$Text" "length" "I", Cond.methodLink RX5 22 yX1_begin, Cond.instanceMethod yX1_begin, Cond.selects RX1 yX1_begin yX1_begin, Cond.initialized RX1, Cond.code yX1_begin cX1_begin 4 none, Cond.fieldLink RX1 33 "RingPages$Net" "cells" "I", Cond.fieldLink RX1 37 "RingPages$Net" "joins" "I", Cond.fieldLink RX1 19 "RingPages$Net" "near" "[I", Cond.fieldLink RX1 23 "RingPages$Net" "out" "[I"]
def wsX7_layText_r2 : List Cond := [Cond.fieldLink RX1 11 "RingPages$Net" "weight" "[[I", Cond.fieldLink RX1 16 "RingPages$Net" "wide" "[[I", Cond.methodLink RX1 40 yX1_price, Cond.instanceMethod yX1_price, Cond.selects RX1 yX1_price yX1_price, Cond.code yX1_price cX1_price 5 none, Cond.fieldLink RX1 44 "RingPages$Net" "mostRounds" "I", Cond.fieldLink RX1 47 "RingPages$Net" "pageCost" "I", Cond.fieldLink RX1 50 "RingPages$Net" "updateCost" "I", Cond.fieldLink RX1 53 "RingPages$Net" "callChance" "I", Cond.methodLink RX5 28 yX4_begin, Cond.instanceMethod yX4_begin, Cond.selects RX4 yX4_begin yX4_begin, Cond.initialized RX4, Cond.code yX4_begin cX4_begin 2 none, Cond.fieldLink RX4 9 "RingPages$State" "stay" "[I", Cond.fieldLink RX4 15 "RingPages$State" "area" "[I", Cond.fieldLink RX4 18 "RingPages$State" "kind" "I", Cond.fieldLink RX4 22 "RingPages$State" "value" "I", Cond.fieldLink RX4 25 "RingPages$State" "cell" "I", Cond.fieldLink RX4 28 "RingPages$State" "updates" "I", Cond.fieldLink RX4 31 "RingPages$State" "paged" "I", Cond.methodLink RX4 34 yX4_register, Cond.instanceMethod yX4_register]
def wsX7_layText_r3 : List Cond := [Cond.selects RX4 yX4_register yX4_register, Cond.code yX4_register cX4_register 1 none, Cond.fieldLink RX4 43 "RingPages$State" "home" "I", Cond.fieldLink RX4 46 "RingPages$State" "moves" "I", Cond.fieldLink RX4 49 "RingPages$State" "ticks" "I", Cond.methodLink RX5 35 yX5_readItem, Cond.instanceMethod yX5_readItem, Cond.selects RX5 yX5_readItem yX5_readItem, Cond.code yX5_readItem cX5_readItem 5 (some .boolean), Cond.fieldLink RX5 43 "RingPages$Net" "cells" "I", Cond.fieldLink RX5 61 "RingPages$State" "stay" "[I", Cond.fieldLink RX5 68 "RingPages$State" "area" "[I", Cond.methodLink RX5 39 yX5_letterHere, Cond.instanceMethod yX5_letterHere, Cond.selects RX5 yX5_letterHere yX5_letterHere, Cond.code yX5_letterHere cX5_letterHere 1 (some .int), Cond.fieldLink RX5 9 "RingPages$Text" "letters" "[I", Cond.methodLink RX5 46 yX5_numbersBehind, Cond.instanceMethod yX5_numbersBehind, Cond.selects RX5 yX5_numbersBehind yX5_numbersBehind, Cond.code yX5_numbersBehind cX5_numbersBehind 2 (some .int), Cond.methodLink RX5 50 yX5_readNumbers, Cond.instanceMethod yX5_readNumbers, Cond.selects RX5 yX5_readNumbers yX5_readNumbers]
def wsX7_layText_r4 : List Cond := [Cond.code yX5_readNumbers cX5_readNumbers 3 (some .boolean), Cond.fieldLink RX5 15 "RingPages$Text" "numbers" "[I", Cond.methodLink RX5 102 yX5_readNumber, Cond.instanceMethod yX5_readNumber, Cond.selects RX5 yX5_readNumber yX5_readNumber, Cond.code yX5_readNumber cX5_readNumber 3 (some .int), Cond.methodLink RX5 105 yX5_figureHere, Cond.instanceMethod yX5_figureHere, Cond.selects RX5 yX5_figureHere yX5_figureHere, Cond.code yX5_figureHere cX5_figureHere 2 (some .int), Cond.methodLink RX5 54 yX5_takeCells, Cond.instanceMethod yX5_takeCells, Cond.selects RX5 yX5_takeCells yX5_takeCells, Cond.code yX5_takeCells cX5_takeCells 2 (some .boolean), Cond.methodLink RX5 58 yX5_takeJoin, Cond.instanceMethod yX5_takeJoin, Cond.selects RX5 yX5_takeJoin yX5_takeJoin, Cond.code yX5_takeJoin cX5_takeJoin 4 (some .boolean), Cond.fieldLink RX5 78 "RingPages$Net" "weight" "[[I", Cond.methodLink RX5 82 yX5_isWeight, Cond.instanceMethod yX5_isWeight, Cond.selects RX5 yX5_isWeight yX5_isWeight, Cond.code yX5_isWeight cX5_isWeight 2 (some .boolean), Cond.methodLink RX5 85 yX1_join]
def wsX7_layText_r5 : List Cond := [Cond.instanceMethod yX1_join, Cond.selects RX1 yX1_join yX1_join, Cond.code yX1_join cX1_join 5 none, Cond.methodLink RX1 56 yX1_lead, Cond.instanceMethod yX1_lead, Cond.selects RX1 yX1_lead yX1_lead, Cond.code yX1_lead cX1_lead 4 none, Cond.methodLink RX5 64 yX5_takeCellNumber, Cond.instanceMethod yX5_takeCellNumber, Cond.selects RX5 yX5_takeCellNumber yX5_takeCellNumber, Cond.code yX5_takeCellNumber cX5_takeCellNumber 4 (some .boolean), Cond.methodLink RX5 71 yX5_takeLaw, Cond.instanceMethod yX5_takeLaw, Cond.selects RX5 yX5_takeLaw yX5_takeLaw, Cond.code yX5_takeLaw cX5_takeLaw 2 (some .boolean), Cond.fieldLink RX5 93 "RingPages$State" "kind" "I", Cond.fieldLink RX5 96 "RingPages$State" "value" "I", Cond.static yX7_isLaw, Cond.initialized RX7, Cond.code yX7_isLaw cX7_isLaw 2 (some .boolean), Cond.methodLink RX5 75 yX5_takePrices, Cond.instanceMethod yX5_takePrices, Cond.selects RX5 yX5_takePrices yX5_takePrices, Cond.code yX5_takePrices cX5_takePrices 2 (some .boolean)]
def wsX7_layText_r6 : List Cond := [Cond.methodLink RX5 99 yX1_price, Cond.methodLink RX7 97 yX1_isWhole, Cond.instanceMethod yX1_isWhole, Cond.selects RX1 yX1_isWhole yX1_isWhole, Cond.code yX1_isWhole cX1_isWhole 4 (some .boolean), Cond.methodLink RX1 60 Lib.Math.min.name, Cond.static Lib.Math.min.name, Cond.initialized "java/lang/Math", Cond.code Lib.Math.min.name Lib.Math.min.code 2 (some .int), Cond.methodLink RX7 100 yX1_growTrees, Cond.instanceMethod yX1_growTrees, Cond.selects RX1 yX1_growTrees yX1_growTrees, Cond.code yX1_growTrees cX1_growTrees 2 none, Cond.fieldLink RX1 26 "RingPages$Net" "trees" "[J", Cond.methodLink RX1 66 yX1_treesTo, Cond.instanceMethod yX1_treesTo, Cond.selects RX1 yX1_treesTo yX1_treesTo, Cond.code yX1_treesTo cX1_treesTo 4 (some .long), Cond.fieldLink RX1 30 "RingPages$Net" "minors" "[J", Cond.methodLink RX1 70 yJ6_bitCount_0f7a4, Cond.static yJ6_bitCount_0f7a4, Cond.initialized RJ6, Cond.code yJ6_bitCount_0f7a4 cJ6_bitCount_0f7a4 1 (some .int), Cond.constant RJ6 265 (1431655765)]
def wsX7_layText_r7 : List Cond := [Cond.constant RJ6 266 (858993459), Cond.constant RJ6 267 (252645135), Cond.methodLink RX1 76 yX1_rowOf, Cond.instanceMethod yX1_rowOf, Cond.selects RX1 yX1_rowOf yX1_rowOf, Cond.code yX1_rowOf cX1_rowOf 3 (some .int), Cond.methodLink RX1 79 yX1_minorOf, Cond.instanceMethod yX1_minorOf, Cond.selects RX1 yX1_minorOf yX1_minorOf, Cond.code yX1_minorOf cX1_minorOf 9 (some .long), Cond.static yX7_holds, Cond.code yX7_holds cX7_holds 2 (some .boolean), Cond.methodLink RX7 106 yX0_reckon, Cond.instanceMethod yX0_reckon, Cond.selects RX0 yX0_reckon yX0_reckon, Cond.initialized RX0, Cond.code yX0_reckon cX0_reckon 4 none, Cond.fieldLink RX0 22 "RingPages$LongRun" "below" "J", Cond.fieldLink RX0 26 "RingPages$Net" "cells" "I", Cond.fieldLink RX0 9 "RingPages$LongRun" "above" "[J", Cond.fieldLink RX0 32 "RingPages$State" "stay" "[I", Cond.fieldLink RX0 37 "RingPages$Net" "out" "[I", Cond.fieldLink RX0 40 "RingPages$Net" "trees" "[J", Cond.fieldLink RX0 43 "RingPages$LongRun" "bestKnown" "Z"]
def wsX7_layText : List Cond := .code yX7_layText cX7_layText 3 (some .boolean) :: ((wsX7_layText_r1 ++ (wsX7_layText_r2 ++ (wsX7_layText_r3 ++ (wsX7_layText_r4 ++ (wsX7_layText_r5 ++ (wsX7_layText_r6 ++ wsX7_layText_r7)))))) ++ wsX70 ++ wsX20 ++ wsX50 ++ wsX10 ++ wsX40 ++ wsX00)
def wsX7_init_r1 : List Cond := [Cond.methodLink RX7 1 objectInit, Cond.instanceMethod objectInit, Cond.code objectInit ⟨#[0xb1]⟩ 1 none, Cond.classLink RX7 7 RX5, Cond.instantiable RX5 4, Cond.initialized RX5, Cond.fieldLink RX7 10 "RingPages" "text" "LRingPages$Text;", Cond.classLink RX7 16 RX2, Cond.instantiable RX2 3, Cond.initialized RX2, Cond.fieldLink RX7 19 "RingPages" "past" "LRingPages$Past;", Cond.classLink RX7 23 RX0, Cond.instantiable RX0 6, Cond.initialized RX0, Cond.fieldLink RX7 26 "RingPages" "longRun" "LRingPages$LongRun;", Cond.classLink RX7 30 RX6, Cond.instantiable RX6 1, Cond.initialized RX6, Cond.fieldLink RX7 33 "RingPages" "whereabouts" "LRingPages$Whereabouts;", Cond.classLink RX7 37 RX3, Cond.instantiable RX3 4, Cond.initialized RX3, Cond.fieldLink RX7 40 "RingPages" "rounds" "LRingPages$Rounds;", Cond.classLink RX7 44 RX4]
def wsX7_init_r2 : List Cond := [Cond.instantiable RX4 10, Cond.initialized RX4, Cond.fieldLink RX7 47 "RingPages" "walker" "LRingPages$State;", Cond.classLink RX7 51 RX1, Cond.instantiable RX1 12, Cond.initialized RX1, Cond.fieldLink RX7 54 "RingPages" "net" "LRingPages$Net;", Cond.fieldLink RX7 58 "RingPages" "state" "LRingPages$State;", Cond.fieldLink RX7 61 "RingPages" "draftNet" "LRingPages$Net;", Cond.fieldLink RX7 64 "RingPages" "draftState" "LRingPages$State;", Cond.fieldLink RX7 87 "RingPages$Text" "length" "I", Cond.instanceMethod yX5_init, Cond.code yX5_init cX5_init 1 none, Cond.methodLink RX5 3 objectInit, Cond.arrayClass .int, Cond.fieldLink RX5 9 "RingPages$Text" "letters" "[I", Cond.fieldLink RX5 15 "RingPages$Text" "numbers" "[I", Cond.methodLink RX7 18 yX2_init, Cond.instanceMethod yX2_init, Cond.code yX2_init cX2_init 2 none, Cond.methodLink RX2 3 objectInit, Cond.classLink RX2 9 RX4, Cond.fieldLink RX2 11 "RingPages$Past" "kept" "[LRingPages$State;", Cond.instanceMethod yX4_init]
def wsX7_init_r3 : List Cond := [Cond.code yX4_init cX4_init 1 none, Cond.methodLink RX4 3 objectInit, Cond.fieldLink RX4 9 "RingPages$State" "stay" "[I", Cond.fieldLink RX4 15 "RingPages$State" "area" "[I", Cond.instanceMethod yX0_init, Cond.code yX0_init cX0_init 1 none, Cond.methodLink RX0 3 objectInit, Cond.arrayClass .long, Cond.fieldLink RX0 9 "RingPages$LongRun" "above" "[J", Cond.fieldLink RX0 15 "RingPages$LongRun" "best" "[I", Cond.fieldLink RX0 19 "RingPages$LongRun" "tried" "[I", Cond.instanceMethod yX6_init, Cond.code yX6_init cX6_init 1 none, Cond.methodLink RX6 3 objectInit, Cond.fieldLink RX6 9 "RingPages$Whereabouts" "reached" "[I", Cond.instanceMethod yX3_init, Cond.code yX3_init cX3_init 1 none, Cond.methodLink RX3 3 objectInit, Cond.fieldLink RX3 9 "RingPages$Rounds" "row" "[I", Cond.instanceMethod yX1_init, Cond.code yX1_init cX1_init 1 none, Cond.methodLink RX1 3 objectInit, Cond.classLink RX1 9 "[[I", Cond.fieldLink RX1 11 "RingPages$Net" "weight" "[[I"]
def wsX7_init_r4 : List Cond := [Cond.fieldLink RX1 16 "RingPages$Net" "wide" "[[I", Cond.fieldLink RX1 19 "RingPages$Net" "near" "[I", Cond.fieldLink RX1 23 "RingPages$Net" "out" "[I", Cond.fieldLink RX1 26 "RingPages$Net" "trees" "[J", Cond.fieldLink RX1 30 "RingPages$Net" "minors" "[J", Cond.methodLink RX7 69 yJ0_length_8abf5, Cond.instanceMethod yJ0_length_8abf5, Cond.selects RJ0 yJ0_length_8abf5 yJ0_length_8abf5, Cond.initialized RJ0, Cond.code yJ0_length_8abf5 cJ0_length_8abf5 1 (some .int), Cond.fieldLink RJ0 9 "java/lang/String" "value" "[B", Cond.methodLink RJ0 335 yJ0_coder_7d493, Cond.instanceMethod yJ0_coder_7d493, Cond.selects RJ0 yJ0_coder_7d493 yJ0_coder_7d493, Cond.code yJ0_coder_7d493 cJ0_coder_7d493 1 (some .byte), Cond.fieldLink RJ0 38 "java/lang/String" "COMPACT_STRINGS" "Z", Cond.fieldLink RJ0 15 "java/lang/String" "coder" "B", Cond.methodLink RX7 75 yJ0_charAt_5068e, Cond.instanceMethod yJ0_charAt_5068e, Cond.selects RJ0 yJ0_charAt_5068e yJ0_charAt_5068e, Cond.code yJ0_charAt_5068e cJ0_charAt_5068e 2 (some .char), Cond.methodLink RJ0 492 yJ0_isLatin1_aae02, Cond.instanceMethod yJ0_isLatin1_aae02, Cond.selects RJ0 yJ0_isLatin1_aae02 yJ0_isLatin1_aae02]
def wsX7_init_r5 : List Cond := [Cond.code yJ0_isLatin1_aae02 cJ0_isLatin1_aae02 1 (some .boolean), Cond.methodLink RJ0 495 yJ1_charAt_3b067, Cond.static yJ1_charAt_3b067, Cond.initialized RJ1, Cond.code yJ1_charAt_3b067 cJ1_charAt_3b067 2 (some .char), Cond.methodLink RJ1 9 yJ0_checkIndex_df160, Cond.static yJ0_checkIndex_df160, Cond.code yJ0_checkIndex_df160 cJ0_checkIndex_df160 2 none, Cond.fieldLink RJ0 1053 "jdk/internal/util/Preconditions" "SIOOBE_FORMATTER" "Ljava/util/function/BiFunction;", Cond.methodLink RJ0 1059 yJ3_checkIndex_8e157, Cond.static yJ3_checkIndex_8e157, Cond.initialized RJ3, Cond.code yJ3_checkIndex_8e157 cJ3_checkIndex_8e157 3 (some .int), Cond.methodLink RJ0 498 yJ2_charAt_3b067, Cond.static yJ2_charAt_3b067, Cond.initialized RJ2, Cond.code yJ2_charAt_3b067 cJ2_charAt_3b067 2 (some .char), Cond.methodLink RJ2 67 yJ2_checkIndex_2214a, Cond.static yJ2_checkIndex_2214a, Cond.code yJ2_checkIndex_2214a cJ2_checkIndex_2214a 2 none, Cond.methodLink RJ2 48 yJ2_length_9d52b, Cond.static yJ2_length_9d52b, Cond.code yJ2_length_9d52b cJ2_length_9d52b 1 (some .int), Cond.methodLink RJ2 414 yJ0_checkIndex_df160]
def wsX7_init_r6 : List Cond := [Cond.methodLink RJ2 71 yJ2_getChar_3b067, Cond.static yJ2_getChar_3b067, Cond.code yJ2_getChar_3b067 cJ2_getChar_3b067 2 (some .char), Cond.fieldLink RJ2 44 "java/lang/StringUTF16" "$assertionsDisabled" "Z", Cond.fieldLink RJ2 59 "java/lang/StringUTF16" "HI_BYTE_SHIFT" "I", Cond.fieldLink RJ2 63 "java/lang/StringUTF16" "LO_BYTE_SHIFT" "I", Cond.methodLink RX7 79 yX5_append, Cond.instanceMethod yX5_append, Cond.selects RX5 yX5_append yX5_append, Cond.code yX5_append cX5_append 2 (some .boolean), Cond.fieldLink RX5 18 "RingPages$Text" "length" "I", Cond.methodLink RX7 83 yX7_layText, Cond.instanceMethod yX7_layText, Cond.selects RX7 yX7_layText yX7_layText, Cond.initialized RX7, Cond.code yX7_layText cX7_layText 3 (some .boolean), Cond.fieldLink RX7 103 "RingPages$Past" "held" "I", Cond.methodLink RX7 90 yX5_readInto, Cond.instanceMethod yX5_readInto, Cond.selects RX5 yX5_readInto yX5_readInto, Cond.code yX5_readInto cX5_readInto 5 (some .int), Cond.fieldLink RX5 32 "RingPages$Text" "place" "I", Cond.methodLink RX5 22 yX1_begin, Cond.instanceMethod yX1_begin]
def wsX7_init_r7 : List Cond := [Cond.selects RX1 yX1_begin yX1_begin, Cond.code yX1_begin cX1_begin 4 none, Cond.fieldLink RX1 33 "RingPages$Net" "cells" "I", Cond.fieldLink RX1 37 "RingPages$Net" "joins" "I", Cond.methodLink RX1 40 yX1_price, Cond.instanceMethod yX1_price, Cond.selects RX1 yX1_price yX1_price, Cond.code yX1_price cX1_price 5 none, Cond.fieldLink RX1 44 "RingPages$Net" "mostRounds" "I", Cond.fieldLink RX1 47 "RingPages$Net" "pageCost" "I", Cond.fieldLink RX1 50 "RingPages$Net" "updateCost" "I", Cond.fieldLink RX1 53 "RingPages$Net" "callChance" "I", Cond.methodLink RX5 28 yX4_begin, Cond.instanceMethod yX4_begin, Cond.selects RX4 yX4_begin yX4_begin, Cond.code yX4_begin cX4_begin 2 none, Cond.fieldLink RX4 18 "RingPages$State" "kind" "I", Cond.fieldLink RX4 22 "RingPages$State" "value" "I", Cond.fieldLink RX4 25 "RingPages$State" "cell" "I", Cond.fieldLink RX4 28 "RingPages$State" "updates" "I", Cond.fieldLink RX4 31 "RingPages$State" "paged" "I", Cond.methodLink RX4 34 yX4_register, Cond.instanceMethod yX4_register, Cond.selects RX4 yX4_register yX4_register]
def wsX7_init_r8 : List Cond := [Cond.code yX4_register cX4_register 1 none, Cond.fieldLink RX4 43 "RingPages$State" "home" "I", Cond.fieldLink RX4 46 "RingPages$State" "moves" "I", Cond.fieldLink RX4 49 "RingPages$State" "ticks" "I", Cond.methodLink RX5 35 yX5_readItem, Cond.instanceMethod yX5_readItem, Cond.selects RX5 yX5_readItem yX5_readItem, Cond.code yX5_readItem cX5_readItem 5 (some .boolean), Cond.fieldLink RX5 43 "RingPages$Net" "cells" "I", Cond.fieldLink RX5 61 "RingPages$State" "stay" "[I", Cond.fieldLink RX5 68 "RingPages$State" "area" "[I", Cond.methodLink RX5 39 yX5_letterHere, Cond.instanceMethod yX5_letterHere, Cond.selects RX5 yX5_letterHere yX5_letterHere, Cond.code yX5_letterHere cX5_letterHere 1 (some .int), Cond.methodLink RX5 46 yX5_numbersBehind, Cond.instanceMethod yX5_numbersBehind, Cond.selects RX5 yX5_numbersBehind yX5_numbersBehind, Cond.code yX5_numbersBehind cX5_numbersBehind 2 (some .int), Cond.methodLink RX5 50 yX5_readNumbers, Cond.instanceMethod yX5_readNumbers, Cond.selects RX5 yX5_readNumbers yX5_readNumbers, Cond.code yX5_readNumbers cX5_readNumbers 3 (some .boolean), Cond.methodLink RX5 102 yX5_readNumber]
def wsX7_init_r9 : List Cond := [Cond.instanceMethod yX5_readNumber, Cond.selects RX5 yX5_readNumber yX5_readNumber, Cond.code yX5_readNumber cX5_readNumber 3 (some .int), Cond.methodLink RX5 105 yX5_figureHere, Cond.instanceMethod yX5_figureHere, Cond.selects RX5 yX5_figureHere yX5_figureHere, Cond.code yX5_figureHere cX5_figureHere 2 (some .int), Cond.methodLink RX5 54 yX5_takeCells, Cond.instanceMethod yX5_takeCells, Cond.selects RX5 yX5_takeCells yX5_takeCells, Cond.code yX5_takeCells cX5_takeCells 2 (some .boolean), Cond.methodLink RX5 58 yX5_takeJoin, Cond.instanceMethod yX5_takeJoin, Cond.selects RX5 yX5_takeJoin yX5_takeJoin, Cond.code yX5_takeJoin cX5_takeJoin 4 (some .boolean), Cond.fieldLink RX5 78 "RingPages$Net" "weight" "[[I", Cond.methodLink RX5 82 yX5_isWeight, Cond.instanceMethod yX5_isWeight, Cond.selects RX5 yX5_isWeight yX5_isWeight, Cond.code yX5_isWeight cX5_isWeight 2 (some .boolean), Cond.methodLink RX5 85 yX1_join, Cond.instanceMethod yX1_join, Cond.selects RX1 yX1_join yX1_join, Cond.code yX1_join cX1_join 5 none]
def wsX7_init_r10 : List Cond := [Cond.methodLink RX1 56 yX1_lead, Cond.instanceMethod yX1_lead, Cond.selects RX1 yX1_lead yX1_lead, Cond.code yX1_lead cX1_lead 4 none, Cond.methodLink RX5 64 yX5_takeCellNumber, Cond.instanceMethod yX5_takeCellNumber, Cond.selects RX5 yX5_takeCellNumber yX5_takeCellNumber, Cond.code yX5_takeCellNumber cX5_takeCellNumber 4 (some .boolean), Cond.methodLink RX5 71 yX5_takeLaw, Cond.instanceMethod yX5_takeLaw, Cond.selects RX5 yX5_takeLaw yX5_takeLaw, Cond.code yX5_takeLaw cX5_takeLaw 2 (some .boolean), Cond.fieldLink RX5 93 "RingPages$State" "kind" "I", Cond.fieldLink RX5 96 "RingPages$State" "value" "I", Cond.static yX7_isLaw, Cond.code yX7_isLaw cX7_isLaw 2 (some .boolean), Cond.methodLink RX5 75 yX5_takePrices, Cond.instanceMethod yX5_takePrices, Cond.selects RX5 yX5_takePrices yX5_takePrices, Cond.code yX5_takePrices cX5_takePrices 2 (some .boolean), Cond.methodLink RX5 99 yX1_price, Cond.methodLink RX7 97 yX1_isWhole, Cond.instanceMethod yX1_isWhole, Cond.selects RX1 yX1_isWhole yX1_isWhole]
def wsX7_init_r11 : List Cond := [Cond.code yX1_isWhole cX1_isWhole 4 (some .boolean), Cond.methodLink RX1 60 Lib.Math.min.name, Cond.static Lib.Math.min.name, Cond.initialized "java/lang/Math", Cond.code Lib.Math.min.name Lib.Math.min.code 2 (some .int), Cond.methodLink RX7 100 yX1_growTrees, Cond.instanceMethod yX1_growTrees, Cond.selects RX1 yX1_growTrees yX1_growTrees, Cond.code yX1_growTrees cX1_growTrees 2 none, Cond.methodLink RX1 66 yX1_treesTo, Cond.instanceMethod yX1_treesTo, Cond.selects RX1 yX1_treesTo yX1_treesTo, Cond.code yX1_treesTo cX1_treesTo 4 (some .long), Cond.methodLink RX1 70 yJ6_bitCount_0f7a4, Cond.static yJ6_bitCount_0f7a4, Cond.initialized RJ6, Cond.code yJ6_bitCount_0f7a4 cJ6_bitCount_0f7a4 1 (some .int), Cond.constant RJ6 265 (1431655765), Cond.constant RJ6 266 (858993459), Cond.constant RJ6 267 (252645135), Cond.methodLink RX1 76 yX1_rowOf, Cond.instanceMethod yX1_rowOf, Cond.selects RX1 yX1_rowOf yX1_rowOf, Cond.code yX1_rowOf cX1_rowOf 3 (some .int)]
def wsX7_init_r12 : List Cond := [Cond.methodLink RX1 79 yX1_minorOf, Cond.instanceMethod yX1_minorOf, Cond.selects RX1 yX1_minorOf yX1_minorOf, Cond.code yX1_minorOf cX1_minorOf 9 (some .long), Cond.static yX7_holds, Cond.code yX7_holds cX7_holds 2 (some .boolean), Cond.methodLink RX7 106 yX0_reckon, Cond.instanceMethod yX0_reckon, Cond.selects RX0 yX0_reckon yX0_reckon, Cond.code yX0_reckon cX0_reckon 4 none, Cond.fieldLink RX0 22 "RingPages$LongRun" "below" "J", Cond.fieldLink RX0 26 "RingPages$Net" "cells" "I", Cond.fieldLink RX0 32 "RingPages$State" "stay" "[I", Cond.fieldLink RX0 37 "RingPages$Net" "out" "[I", Cond.fieldLink RX0 40 "RingPages$Net" "trees" "[J", Cond.fieldLink RX0 43 "RingPages$LongRun" "bestKnown" "Z"]
def wsX7_init : List Cond := .code yX7_init cX7_init 2 none :: ((wsX7_init_r1 ++ (wsX7_init_r2 ++ (wsX7_init_r3 ++ (wsX7_init_r4 ++ (wsX7_init_r5 ++ (wsX7_init_r6 ++ (wsX7_init_r7 ++ (wsX7_init_r8 ++ (wsX7_init_r9 ++ (wsX7_init_r10 ++ (wsX7_init_r11 ++ wsX7_init_r12))))))))))) ++ wsX50 ++ wsX70 ++ wsX20 ++ wsX00 ++ wsX60 ++ wsX30 ++ wsX40 ++ wsX10)
def wsX7_write : List Cond := .code yX7_write cX7_write 2 (some .int) :: ([.fieldLink RX7 10 "RingPages" "text" "LRingPages$Text;", .fieldLink RX7 87 "RingPages$Text" "length" "I", .methodLink RX7 79 yX5_append, .instanceMethod yX5_append, .selects RX5 yX5_append yX5_append, .initialized RX5, .code yX5_append cX5_append 2 (some .boolean), .fieldLink RX5 18 "RingPages$Text" "length" "I", .fieldLink RX5 9 "RingPages$Text" "letters" "[I"] ++ wsX70 ++ wsX50)
def wsX7_wipe : List Cond := .code yX7_wipe cX7_wipe 2 (some .int) :: ([.fieldLink RX7 10 "RingPages" "text" "LRingPages$Text;", .fieldLink RX7 87 "RingPages$Text" "length" "I"] ++ wsX70 ++ wsX50)
def wsX7_fault_r1 : List Cond := [Cond.fieldLink RX7 10 "RingPages" "text" "LRingPages$Text;", Cond.fieldLink RX7 61 "RingPages" "draftNet" "LRingPages$Net;", Cond.fieldLink RX7 64 "RingPages" "draftState" "LRingPages$State;", Cond.methodLink RX7 90 yX5_readInto, Cond.instanceMethod yX5_readInto, Cond.selects RX5 yX5_readInto yX5_readInto, Cond.initialized RX5, Cond.code yX5_readInto cX5_readInto 5 (some .int), Cond.fieldLink RX5 32 "RingPages$Text" "place" "I", Cond.fieldLink RX5 18 "RingPages$Text" "length" "I", Cond.methodLink RX5 22 yX1_begin, Cond.instanceMethod yX1_begin, Cond.selects RX1 yX1_begin yX1_begin, Cond.initialized RX1, Cond.code yX1_begin cX1_begin 4 none, Cond.fieldLink RX1 33 "RingPages$Net" "cells" "I", Cond.fieldLink RX1 37 "RingPages$Net" "joins" "I", Cond.fieldLink RX1 19 "RingPages$Net" "near" "[I", Cond.fieldLink RX1 23 "RingPages$Net" "out" "[I", Cond.fieldLink RX1 11 "RingPages$Net" "weight" "[[I", Cond.fieldLink RX1 16 "RingPages$Net" "wide" "[[I", Cond.methodLink RX1 40 yX1_price, Cond.instanceMethod yX1_price, Cond.selects RX1 yX1_price yX1_price]
def wsX7_fault_r2 : List Cond := [Cond.code yX1_price cX1_price 5 none, Cond.fieldLink RX1 44 "RingPages$Net" "mostRounds" "I", Cond.fieldLink RX1 47 "RingPages$Net" "pageCost" "I", Cond.fieldLink RX1 50 "RingPages$Net" "updateCost" "I", Cond.fieldLink RX1 53 "RingPages$Net" "callChance" "I", Cond.methodLink RX5 28 yX4_begin, Cond.instanceMethod yX4_begin, Cond.selects RX4 yX4_begin yX4_begin, Cond.initialized RX4, Cond.code yX4_begin cX4_begin 2 none, Cond.fieldLink RX4 9 "RingPages$State" "stay" "[I", Cond.fieldLink RX4 15 "RingPages$State" "area" "[I", Cond.fieldLink RX4 18 "RingPages$State" "kind" "I", Cond.fieldLink RX4 22 "RingPages$State" "value" "I", Cond.fieldLink RX4 25 "RingPages$State" "cell" "I", Cond.fieldLink RX4 28 "RingPages$State" "updates" "I", Cond.fieldLink RX4 31 "RingPages$State" "paged" "I", Cond.methodLink RX4 34 yX4_register, Cond.instanceMethod yX4_register, Cond.selects RX4 yX4_register yX4_register, Cond.code yX4_register cX4_register 1 none, Cond.fieldLink RX4 43 "RingPages$State" "home" "I", Cond.fieldLink RX4 46 "RingPages$State" "moves" "I", Cond.fieldLink RX4 49 "RingPages$State" "ticks" "I"]
def wsX7_fault_r3 : List Cond := [Cond.methodLink RX5 35 yX5_readItem, Cond.instanceMethod yX5_readItem, Cond.selects RX5 yX5_readItem yX5_readItem, Cond.code yX5_readItem cX5_readItem 5 (some .boolean), Cond.fieldLink RX5 43 "RingPages$Net" "cells" "I", Cond.fieldLink RX5 61 "RingPages$State" "stay" "[I", Cond.fieldLink RX5 68 "RingPages$State" "area" "[I", Cond.methodLink RX5 39 yX5_letterHere, Cond.instanceMethod yX5_letterHere, Cond.selects RX5 yX5_letterHere yX5_letterHere, Cond.code yX5_letterHere cX5_letterHere 1 (some .int), Cond.fieldLink RX5 9 "RingPages$Text" "letters" "[I", Cond.methodLink RX5 46 yX5_numbersBehind, Cond.instanceMethod yX5_numbersBehind, Cond.selects RX5 yX5_numbersBehind yX5_numbersBehind, Cond.code yX5_numbersBehind cX5_numbersBehind 2 (some .int), Cond.methodLink RX5 50 yX5_readNumbers, Cond.instanceMethod yX5_readNumbers, Cond.selects RX5 yX5_readNumbers yX5_readNumbers, Cond.code yX5_readNumbers cX5_readNumbers 3 (some .boolean), Cond.fieldLink RX5 15 "RingPages$Text" "numbers" "[I", Cond.methodLink RX5 102 yX5_readNumber, Cond.instanceMethod yX5_readNumber, Cond.selects RX5 yX5_readNumber yX5_readNumber]
def wsX7_fault_r4 : List Cond := [Cond.code yX5_readNumber cX5_readNumber 3 (some .int), Cond.methodLink RX5 105 yX5_figureHere, Cond.instanceMethod yX5_figureHere, Cond.selects RX5 yX5_figureHere yX5_figureHere, Cond.code yX5_figureHere cX5_figureHere 2 (some .int), Cond.methodLink RX5 54 yX5_takeCells, Cond.instanceMethod yX5_takeCells, Cond.selects RX5 yX5_takeCells yX5_takeCells, Cond.code yX5_takeCells cX5_takeCells 2 (some .boolean), Cond.methodLink RX5 58 yX5_takeJoin, Cond.instanceMethod yX5_takeJoin, Cond.selects RX5 yX5_takeJoin yX5_takeJoin, Cond.code yX5_takeJoin cX5_takeJoin 4 (some .boolean), Cond.fieldLink RX5 78 "RingPages$Net" "weight" "[[I", Cond.methodLink RX5 82 yX5_isWeight, Cond.instanceMethod yX5_isWeight, Cond.selects RX5 yX5_isWeight yX5_isWeight, Cond.code yX5_isWeight cX5_isWeight 2 (some .boolean), Cond.methodLink RX5 85 yX1_join, Cond.instanceMethod yX1_join, Cond.selects RX1 yX1_join yX1_join, Cond.code yX1_join cX1_join 5 none, Cond.methodLink RX1 56 yX1_lead, Cond.instanceMethod yX1_lead]
def wsX7_fault_r5 : List Cond := [Cond.selects RX1 yX1_lead yX1_lead, Cond.code yX1_lead cX1_lead 4 none, Cond.methodLink RX5 64 yX5_takeCellNumber, Cond.instanceMethod yX5_takeCellNumber, Cond.selects RX5 yX5_takeCellNumber yX5_takeCellNumber, Cond.code yX5_takeCellNumber cX5_takeCellNumber 4 (some .boolean), Cond.methodLink RX5 71 yX5_takeLaw, Cond.instanceMethod yX5_takeLaw, Cond.selects RX5 yX5_takeLaw yX5_takeLaw, Cond.code yX5_takeLaw cX5_takeLaw 2 (some .boolean), Cond.fieldLink RX5 93 "RingPages$State" "kind" "I", Cond.fieldLink RX5 96 "RingPages$State" "value" "I", Cond.static yX7_isLaw, Cond.initialized RX7, Cond.code yX7_isLaw cX7_isLaw 2 (some .boolean), Cond.methodLink RX5 75 yX5_takePrices, Cond.instanceMethod yX5_takePrices, Cond.selects RX5 yX5_takePrices yX5_takePrices, Cond.code yX5_takePrices cX5_takePrices 2 (some .boolean), Cond.methodLink RX5 99 yX1_price]
def wsX7_fault : List Cond := .code yX7_fault cX7_fault 1 (some .int) :: ((wsX7_fault_r1 ++ (wsX7_fault_r2 ++ (wsX7_fault_r3 ++ (wsX7_fault_r4 ++ wsX7_fault_r5)))) ++ wsX70 ++ wsX50 ++ wsX10 ++ wsX40)
def wsX7_lay_r1 : List Cond := [Cond.fieldLink RX7 54 "RingPages" "net" "LRingPages$Net;", Cond.fieldLink RX7 94 "RingPages$Net" "cells" "I", Cond.methodLink RX7 83 yX7_layText, Cond.instanceMethod yX7_layText, Cond.selects RX7 yX7_layText yX7_layText, Cond.initialized RX7, Cond.code yX7_layText cX7_layText 3 (some .boolean), Cond.fieldLink RX7 10 "RingPages" "text" "LRingPages$Text;", Cond.fieldLink RX7 61 "RingPages" "draftNet" "LRingPages$Net;", Cond.fieldLink RX7 64 "RingPages" "draftState" "LRingPages$State;", Cond.fieldLink RX7 58 "RingPages" "state" "LRingPages$State;", Cond.fieldLink RX7 19 "RingPages" "past" "LRingPages$Past;", Cond.fieldLink RX7 103 "RingPages$Past" "held" "I", Cond.fieldLink RX7 26 "RingPages" "longRun" "LRingPages$LongRun;", Cond.methodLink RX7 90 yX5_readInto, Cond.instanceMethod yX5_readInto, Cond.selects RX5 yX5_readInto yX5_readInto, Cond.initialized RX5, Cond.code yX5_readInto cX5_readInto 5 (some .int), Cond.fieldLink RX5 32 "RingPages$Text" "place" "I", Cond.fieldLink RX5 18 "RingPages$Text" "length" "I", Cond.methodLink RX5 22 yX1_begin, Cond.instanceMethod yX1_begin, Cond.selects RX1 yX1_begin yX1_begin]
def wsX7_lay_r2 : List Cond := [Cond.initialized RX1, Cond.code yX1_begin cX1_begin 4 none, Cond.fieldLink RX1 33 "RingPages$Net" "cells" "I", Cond.fieldLink RX1 37 "RingPages$Net" "joins" "I", Cond.fieldLink RX1 19 "RingPages$Net" "near" "[I", Cond.fieldLink RX1 23 "RingPages$Net" "out" "[I", Cond.fieldLink RX1 11 "RingPages$Net" "weight" "[[I", Cond.fieldLink RX1 16 "RingPages$Net" "wide" "[[I", Cond.methodLink RX1 40 yX1_price, Cond.instanceMethod yX1_price, Cond.selects RX1 yX1_price yX1_price, Cond.code yX1_price cX1_price 5 none, Cond.fieldLink RX1 44 "RingPages$Net" "mostRounds" "I", Cond.fieldLink RX1 47 "RingPages$Net" "pageCost" "I", Cond.fieldLink RX1 50 "RingPages$Net" "updateCost" "I", Cond.fieldLink RX1 53 "RingPages$Net" "callChance" "I", Cond.methodLink RX5 28 yX4_begin, Cond.instanceMethod yX4_begin, Cond.selects RX4 yX4_begin yX4_begin, Cond.initialized RX4, Cond.code yX4_begin cX4_begin 2 none, Cond.fieldLink RX4 9 "RingPages$State" "stay" "[I", Cond.fieldLink RX4 15 "RingPages$State" "area" "[I", Cond.fieldLink RX4 18 "RingPages$State" "kind" "I"]
def wsX7_lay_r3 : List Cond := [Cond.fieldLink RX4 22 "RingPages$State" "value" "I", Cond.fieldLink RX4 25 "RingPages$State" "cell" "I", Cond.fieldLink RX4 28 "RingPages$State" "updates" "I", Cond.fieldLink RX4 31 "RingPages$State" "paged" "I", Cond.methodLink RX4 34 yX4_register, Cond.instanceMethod yX4_register, Cond.selects RX4 yX4_register yX4_register, Cond.code yX4_register cX4_register 1 none, Cond.fieldLink RX4 43 "RingPages$State" "home" "I", Cond.fieldLink RX4 46 "RingPages$State" "moves" "I", Cond.fieldLink RX4 49 "RingPages$State" "ticks" "I", Cond.methodLink RX5 35 yX5_readItem, Cond.instanceMethod yX5_readItem, Cond.selects RX5 yX5_readItem yX5_readItem, Cond.code yX5_readItem cX5_readItem 5 (some .boolean), Cond.fieldLink RX5 43 "RingPages$Net" "cells" "I", Cond.fieldLink RX5 61 "RingPages$State" "stay" "[I", Cond.fieldLink RX5 68 "RingPages$State" "area" "[I", Cond.methodLink RX5 39 yX5_letterHere, Cond.instanceMethod yX5_letterHere, Cond.selects RX5 yX5_letterHere yX5_letterHere, Cond.code yX5_letterHere cX5_letterHere 1 (some .int), Cond.fieldLink RX5 9 "RingPages$Text" "letters" "[I", Cond.methodLink RX5 46 yX5_numbersBehind]
def wsX7_lay_r4 : List Cond := [Cond.instanceMethod yX5_numbersBehind, Cond.selects RX5 yX5_numbersBehind yX5_numbersBehind, Cond.code yX5_numbersBehind cX5_numbersBehind 2 (some .int), Cond.methodLink RX5 50 yX5_readNumbers, Cond.instanceMethod yX5_readNumbers, Cond.selects RX5 yX5_readNumbers yX5_readNumbers, Cond.code yX5_readNumbers cX5_readNumbers 3 (some .boolean), Cond.fieldLink RX5 15 "RingPages$Text" "numbers" "[I", Cond.methodLink RX5 102 yX5_readNumber, Cond.instanceMethod yX5_readNumber, Cond.selects RX5 yX5_readNumber yX5_readNumber, Cond.code yX5_readNumber cX5_readNumber 3 (some .int), Cond.methodLink RX5 105 yX5_figureHere, Cond.instanceMethod yX5_figureHere, Cond.selects RX5 yX5_figureHere yX5_figureHere, Cond.code yX5_figureHere cX5_figureHere 2 (some .int), Cond.methodLink RX5 54 yX5_takeCells, Cond.instanceMethod yX5_takeCells, Cond.selects RX5 yX5_takeCells yX5_takeCells, Cond.code yX5_takeCells cX5_takeCells 2 (some .boolean), Cond.methodLink RX5 58 yX5_takeJoin, Cond.instanceMethod yX5_takeJoin, Cond.selects RX5 yX5_takeJoin yX5_takeJoin, Cond.code yX5_takeJoin cX5_takeJoin 4 (some .boolean)]
def wsX7_lay_r5 : List Cond := [Cond.fieldLink RX5 78 "RingPages$Net" "weight" "[[I", Cond.methodLink RX5 82 yX5_isWeight, Cond.instanceMethod yX5_isWeight, Cond.selects RX5 yX5_isWeight yX5_isWeight, Cond.code yX5_isWeight cX5_isWeight 2 (some .boolean), Cond.methodLink RX5 85 yX1_join, Cond.instanceMethod yX1_join, Cond.selects RX1 yX1_join yX1_join, Cond.code yX1_join cX1_join 5 none, Cond.methodLink RX1 56 yX1_lead, Cond.instanceMethod yX1_lead, Cond.selects RX1 yX1_lead yX1_lead, Cond.code yX1_lead cX1_lead 4 none, Cond.methodLink RX5 64 yX5_takeCellNumber, Cond.instanceMethod yX5_takeCellNumber, Cond.selects RX5 yX5_takeCellNumber yX5_takeCellNumber, Cond.code yX5_takeCellNumber cX5_takeCellNumber 4 (some .boolean), Cond.methodLink RX5 71 yX5_takeLaw, Cond.instanceMethod yX5_takeLaw, Cond.selects RX5 yX5_takeLaw yX5_takeLaw, Cond.code yX5_takeLaw cX5_takeLaw 2 (some .boolean), Cond.fieldLink RX5 93 "RingPages$State" "kind" "I", Cond.fieldLink RX5 96 "RingPages$State" "value" "I", Cond.static yX7_isLaw]
def wsX7_lay_r6 : List Cond := [Cond.code yX7_isLaw cX7_isLaw 2 (some .boolean), Cond.methodLink RX5 75 yX5_takePrices, Cond.instanceMethod yX5_takePrices, Cond.selects RX5 yX5_takePrices yX5_takePrices, Cond.code yX5_takePrices cX5_takePrices 2 (some .boolean), Cond.methodLink RX5 99 yX1_price, Cond.methodLink RX7 97 yX1_isWhole, Cond.instanceMethod yX1_isWhole, Cond.selects RX1 yX1_isWhole yX1_isWhole, Cond.code yX1_isWhole cX1_isWhole 4 (some .boolean), Cond.methodLink RX1 60 Lib.Math.min.name, Cond.static Lib.Math.min.name, Cond.initialized "java/lang/Math", Cond.code Lib.Math.min.name Lib.Math.min.code 2 (some .int), Cond.methodLink RX7 100 yX1_growTrees, Cond.instanceMethod yX1_growTrees, Cond.selects RX1 yX1_growTrees yX1_growTrees, Cond.code yX1_growTrees cX1_growTrees 2 none, Cond.fieldLink RX1 26 "RingPages$Net" "trees" "[J", Cond.methodLink RX1 66 yX1_treesTo, Cond.instanceMethod yX1_treesTo, Cond.selects RX1 yX1_treesTo yX1_treesTo, Cond.code yX1_treesTo cX1_treesTo 4 (some .long), Cond.fieldLink RX1 30 "RingPages$Net" "minors" "[J"]
def wsX7_lay_r7 : List Cond := [Cond.methodLink RX1 70 yJ6_bitCount_0f7a4, Cond.static yJ6_bitCount_0f7a4, Cond.initialized RJ6, Cond.code yJ6_bitCount_0f7a4 cJ6_bitCount_0f7a4 1 (some .int), Cond.constant RJ6 265 (1431655765), Cond.constant RJ6 266 (858993459), Cond.constant RJ6 267 (252645135), Cond.methodLink RX1 76 yX1_rowOf, Cond.instanceMethod yX1_rowOf, Cond.selects RX1 yX1_rowOf yX1_rowOf, Cond.code yX1_rowOf cX1_rowOf 3 (some .int), Cond.methodLink RX1 79 yX1_minorOf, Cond.instanceMethod yX1_minorOf, Cond.selects RX1 yX1_minorOf yX1_minorOf, Cond.code yX1_minorOf cX1_minorOf 9 (some .long), Cond.static yX7_holds, Cond.code yX7_holds cX7_holds 2 (some .boolean), Cond.methodLink RX7 106 yX0_reckon, Cond.instanceMethod yX0_reckon, Cond.selects RX0 yX0_reckon yX0_reckon, Cond.initialized RX0, Cond.code yX0_reckon cX0_reckon 4 none, Cond.fieldLink RX0 22 "RingPages$LongRun" "below" "J", Cond.fieldLink RX0 26 "RingPages$Net" "cells" "I"]
def wsX7_lay_r8 : List Cond := [Cond.fieldLink RX0 9 "RingPages$LongRun" "above" "[J", Cond.fieldLink RX0 32 "RingPages$State" "stay" "[I", Cond.fieldLink RX0 37 "RingPages$Net" "out" "[I", Cond.fieldLink RX0 40 "RingPages$Net" "trees" "[J", Cond.fieldLink RX0 43 "RingPages$LongRun" "bestKnown" "Z"]
def wsX7_lay : List Cond := .code yX7_lay cX7_lay 1 (some .int) :: ((wsX7_lay_r1 ++ (wsX7_lay_r2 ++ (wsX7_lay_r3 ++ (wsX7_lay_r4 ++ (wsX7_lay_r5 ++ (wsX7_lay_r6 ++ (wsX7_lay_r7 ++ wsX7_lay_r8))))))) ++ wsX70 ++ wsX10 ++ wsX20 ++ wsX50 ++ wsX40 ++ wsX00)
def wsX7_isCell : List Cond := .code yX7_isCell cX7_isCell 2 (some .boolean) :: ([.fieldLink RX7 54 "RingPages" "net" "LRingPages$Net;", .fieldLink RX7 94 "RingPages$Net" "cells" "I"] ++ wsX70 ++ wsX10)
def wsX7_set_r1 : List Cond := [Cond.fieldLink RX7 58 "RingPages" "state" "LRingPages$State;", Cond.fieldLink RX7 113 "RingPages$State" "stay" "[I", Cond.fieldLink RX7 117 "RingPages$State" "area" "[I", Cond.fieldLink RX7 19 "RingPages" "past" "LRingPages$Past;", Cond.fieldLink RX7 26 "RingPages" "longRun" "LRingPages$LongRun;", Cond.fieldLink RX7 54 "RingPages" "net" "LRingPages$Net;", Cond.methodLink RX7 110 yX7_isCell, Cond.instanceMethod yX7_isCell, Cond.selects RX7 yX7_isCell yX7_isCell, Cond.initialized RX7, Cond.code yX7_isCell cX7_isCell 2 (some .boolean), Cond.fieldLink RX7 94 "RingPages$Net" "cells" "I", Cond.methodLink RX7 120 yX2_keep, Cond.instanceMethod yX2_keep, Cond.selects RX2 yX2_keep yX2_keep, Cond.initialized RX2, Cond.code yX2_keep cX2_keep 2 none, Cond.fieldLink RX2 11 "RingPages$Past" "kept" "[LRingPages$State;", Cond.fieldLink RX2 18 "RingPages$Past" "next" "I", Cond.fieldLink RX2 26 "RingPages$Past" "held" "I", Cond.methodLink RX2 29 Lib.Math.min.name, Cond.static Lib.Math.min.name, Cond.initialized "java/lang/Math", Cond.code Lib.Math.min.name Lib.Math.min.code 2 (some .int)]
def wsX7_set_r2 : List Cond := [Cond.methodLink RX2 22 yX4_copyFrom, Cond.instanceMethod yX4_copyFrom, Cond.selects RX4 yX4_copyFrom yX4_copyFrom, Cond.initialized RX4, Cond.code yX4_copyFrom cX4_copyFrom 2 none, Cond.fieldLink RX4 9 "RingPages$State" "stay" "[I", Cond.methodLink RX4 37 arraycopyName, Cond.native arraycopyName, Cond.static arraycopyName, Cond.initialized "java/lang/System", Cond.fieldLink RX4 15 "RingPages$State" "area" "[I", Cond.fieldLink RX4 18 "RingPages$State" "kind" "I", Cond.fieldLink RX4 22 "RingPages$State" "value" "I", Cond.fieldLink RX4 25 "RingPages$State" "cell" "I", Cond.fieldLink RX4 43 "RingPages$State" "home" "I", Cond.fieldLink RX4 46 "RingPages$State" "moves" "I", Cond.fieldLink RX4 49 "RingPages$State" "ticks" "I", Cond.fieldLink RX4 28 "RingPages$State" "updates" "I", Cond.fieldLink RX4 31 "RingPages$State" "paged" "I", Cond.methodLink RX7 106 yX0_reckon, Cond.instanceMethod yX0_reckon, Cond.selects RX0 yX0_reckon yX0_reckon, Cond.initialized RX0, Cond.code yX0_reckon cX0_reckon 4 none]
def wsX7_set_r3 : List Cond := [Cond.fieldLink RX0 22 "RingPages$LongRun" "below" "J", Cond.fieldLink RX0 26 "RingPages$Net" "cells" "I", Cond.fieldLink RX0 9 "RingPages$LongRun" "above" "[J", Cond.fieldLink RX0 32 "RingPages$State" "stay" "[I", Cond.fieldLink RX0 37 "RingPages$Net" "out" "[I", Cond.fieldLink RX0 40 "RingPages$Net" "trees" "[J", Cond.fieldLink RX0 43 "RingPages$LongRun" "bestKnown" "Z", Cond.methodLink RX7 124 yX4_register, Cond.instanceMethod yX4_register, Cond.selects RX4 yX4_register yX4_register, Cond.code yX4_register cX4_register 1 none]
def wsX7_set : List Cond := .code yX7_set cX7_set 5 (some .int) :: ((wsX7_set_r1 ++ (wsX7_set_r2 ++ wsX7_set_r3)) ++ wsX70 ++ wsX40 ++ wsX10 ++ wsX20 ++ wsX00)
def wsX7_law_r1 : List Cond := [Cond.fieldLink RX7 58 "RingPages" "state" "LRingPages$State;", Cond.fieldLink RX7 131 "RingPages$State" "kind" "I", Cond.fieldLink RX7 134 "RingPages$State" "value" "I", Cond.fieldLink RX7 19 "RingPages" "past" "LRingPages$Past;", Cond.methodLink RX7 127 yX7_isLaw, Cond.static yX7_isLaw, Cond.initialized RX7, Cond.code yX7_isLaw cX7_isLaw 2 (some .boolean), Cond.methodLink RX7 120 yX2_keep, Cond.instanceMethod yX2_keep, Cond.selects RX2 yX2_keep yX2_keep, Cond.initialized RX2, Cond.code yX2_keep cX2_keep 2 none, Cond.fieldLink RX2 11 "RingPages$Past" "kept" "[LRingPages$State;", Cond.fieldLink RX2 18 "RingPages$Past" "next" "I", Cond.fieldLink RX2 26 "RingPages$Past" "held" "I", Cond.methodLink RX2 29 Lib.Math.min.name, Cond.static Lib.Math.min.name, Cond.initialized "java/lang/Math", Cond.code Lib.Math.min.name Lib.Math.min.code 2 (some .int), Cond.methodLink RX2 22 yX4_copyFrom, Cond.instanceMethod yX4_copyFrom, Cond.selects RX4 yX4_copyFrom yX4_copyFrom, Cond.initialized RX4]
def wsX7_law_r2 : List Cond := [Cond.code yX4_copyFrom cX4_copyFrom 2 none, Cond.fieldLink RX4 9 "RingPages$State" "stay" "[I", Cond.methodLink RX4 37 arraycopyName, Cond.native arraycopyName, Cond.static arraycopyName, Cond.initialized "java/lang/System", Cond.fieldLink RX4 15 "RingPages$State" "area" "[I", Cond.fieldLink RX4 18 "RingPages$State" "kind" "I", Cond.fieldLink RX4 22 "RingPages$State" "value" "I", Cond.fieldLink RX4 25 "RingPages$State" "cell" "I", Cond.fieldLink RX4 43 "RingPages$State" "home" "I", Cond.fieldLink RX4 46 "RingPages$State" "moves" "I", Cond.fieldLink RX4 49 "RingPages$State" "ticks" "I", Cond.fieldLink RX4 28 "RingPages$State" "updates" "I", Cond.fieldLink RX4 31 "RingPages$State" "paged" "I", Cond.methodLink RX7 124 yX4_register, Cond.instanceMethod yX4_register, Cond.selects RX4 yX4_register yX4_register, Cond.code yX4_register cX4_register 1 none]
def wsX7_law : List Cond := .code yX7_law cX7_law 4 (some .int) :: ((wsX7_law_r1 ++ wsX7_law_r2) ++ wsX70 ++ wsX40 ++ wsX20)
def wsX7_give_r1 : List Cond := [Cond.fieldLink RX7 26 "RingPages" "longRun" "LRingPages$LongRun;", Cond.fieldLink RX7 54 "RingPages" "net" "LRingPages$Net;", Cond.fieldLink RX7 19 "RingPages" "past" "LRingPages$Past;", Cond.fieldLink RX7 58 "RingPages" "state" "LRingPages$State;", Cond.fieldLink RX7 94 "RingPages$Net" "cells" "I", Cond.fieldLink RX7 117 "RingPages$State" "area" "[I", Cond.fieldLink RX7 141 "RingPages$LongRun" "best" "[I", Cond.methodLink RX7 137 yX0_findBest, Cond.instanceMethod yX0_findBest, Cond.selects RX0 yX0_findBest yX0_findBest, Cond.initialized RX0, Cond.code yX0_findBest cX0_findBest 5 none, Cond.fieldLink RX0 43 "RingPages$LongRun" "bestKnown" "Z", Cond.fieldLink RX0 19 "RingPages$LongRun" "tried" "[I", Cond.fieldLink RX0 26 "RingPages$Net" "cells" "I", Cond.fieldLink RX0 79 "RingPages$LongRun" "leastExpense" "J", Cond.methodLink RX0 68 yX0_expense, Cond.instanceMethod yX0_expense, Cond.selects RX0 yX0_expense yX0_expense, Cond.code yX0_expense cX0_expense 6 (some .long), Cond.fieldLink RX0 9 "RingPages$LongRun" "above" "[J", Cond.fieldLink RX0 55 "RingPages$Net" "updateCost" "I", Cond.fieldLink RX0 62 "RingPages$Net" "pageCost" "I", Cond.fieldLink RX0 65 "RingPages$Net" "callChance" "I"]
def wsX7_give_r2 : List Cond := [Cond.static yX7_sameArea, Cond.initialized RX7, Cond.code yX7_sameArea cX7_sameArea 5 (some .int), Cond.methodLink RX0 58 yX0_crosses, Cond.instanceMethod yX0_crosses, Cond.selects RX0 yX0_crosses yX0_crosses, Cond.code yX0_crosses cX0_crosses 7 (some .long), Cond.fieldLink RX0 40 "RingPages$Net" "trees" "[J", Cond.fieldLink RX0 47 "RingPages$Net" "weight" "[[I", Cond.methodLink RX0 71 yX0_takeTried, Cond.instanceMethod yX0_takeTried, Cond.selects RX0 yX0_takeTried yX0_takeTried, Cond.code yX0_takeTried cX0_takeTried 3 none, Cond.fieldLink RX0 15 "RingPages$LongRun" "best" "[I", Cond.methodLink RX0 82 arraycopyName, Cond.native arraycopyName, Cond.static arraycopyName, Cond.initialized "java/lang/System", Cond.methodLink RX0 75 yX0_nextTried, Cond.instanceMethod yX0_nextTried, Cond.selects RX0 yX0_nextTried yX0_nextTried, Cond.code yX0_nextTried cX0_nextTried 3 (some .boolean), Cond.methodLink RX0 88 yX0_highestAhead, Cond.instanceMethod yX0_highestAhead]
def wsX7_give_r3 : List Cond := [Cond.selects RX0 yX0_highestAhead yX0_highestAhead, Cond.code yX0_highestAhead cX0_highestAhead 4 (some .int), Cond.methodLink RX0 92 Lib.Math.max.name, Cond.static Lib.Math.max.name, Cond.initialized "java/lang/Math", Cond.code Lib.Math.max.name Lib.Math.max.code 2 (some .int), Cond.methodLink RX7 120 yX2_keep, Cond.instanceMethod yX2_keep, Cond.selects RX2 yX2_keep yX2_keep, Cond.initialized RX2, Cond.code yX2_keep cX2_keep 2 none, Cond.fieldLink RX2 11 "RingPages$Past" "kept" "[LRingPages$State;", Cond.fieldLink RX2 18 "RingPages$Past" "next" "I", Cond.fieldLink RX2 26 "RingPages$Past" "held" "I", Cond.methodLink RX2 29 Lib.Math.min.name, Cond.static Lib.Math.min.name, Cond.code Lib.Math.min.name Lib.Math.min.code 2 (some .int), Cond.methodLink RX2 22 yX4_copyFrom, Cond.instanceMethod yX4_copyFrom, Cond.selects RX4 yX4_copyFrom yX4_copyFrom, Cond.initialized RX4, Cond.code yX4_copyFrom cX4_copyFrom 2 none, Cond.fieldLink RX4 9 "RingPages$State" "stay" "[I", Cond.methodLink RX4 37 arraycopyName]
def wsX7_give_r4 : List Cond := [Cond.fieldLink RX4 15 "RingPages$State" "area" "[I", Cond.fieldLink RX4 18 "RingPages$State" "kind" "I", Cond.fieldLink RX4 22 "RingPages$State" "value" "I", Cond.fieldLink RX4 25 "RingPages$State" "cell" "I", Cond.fieldLink RX4 43 "RingPages$State" "home" "I", Cond.fieldLink RX4 46 "RingPages$State" "moves" "I", Cond.fieldLink RX4 49 "RingPages$State" "ticks" "I", Cond.fieldLink RX4 28 "RingPages$State" "updates" "I", Cond.fieldLink RX4 31 "RingPages$State" "paged" "I", Cond.methodLink RX7 124 yX4_register, Cond.instanceMethod yX4_register, Cond.selects RX4 yX4_register yX4_register, Cond.code yX4_register cX4_register 1 none]
def wsX7_give : List Cond := .code yX7_give cX7_give 3 (some .int) :: ((wsX7_give_r1 ++ (wsX7_give_r2 ++ (wsX7_give_r3 ++ wsX7_give_r4))) ++ wsX70 ++ wsX10 ++ wsX40 ++ wsX00 ++ wsX20)
def wsX7_undo_r1 : List Cond := [Cond.fieldLink RX7 19 "RingPages" "past" "LRingPages$Past;", Cond.fieldLink RX7 58 "RingPages" "state" "LRingPages$State;", Cond.fieldLink RX7 26 "RingPages" "longRun" "LRingPages$LongRun;", Cond.fieldLink RX7 54 "RingPages" "net" "LRingPages$Net;", Cond.fieldLink RX7 103 "RingPages$Past" "held" "I", Cond.methodLink RX7 144 yX2_bringBack, Cond.instanceMethod yX2_bringBack, Cond.selects RX2 yX2_bringBack yX2_bringBack, Cond.initialized RX2, Cond.code yX2_bringBack cX2_bringBack 2 (some .boolean), Cond.fieldLink RX2 26 "RingPages$Past" "held" "I", Cond.fieldLink RX2 18 "RingPages$Past" "next" "I", Cond.fieldLink RX2 11 "RingPages$Past" "kept" "[LRingPages$State;", Cond.methodLink RX2 22 yX4_copyFrom, Cond.instanceMethod yX4_copyFrom, Cond.selects RX4 yX4_copyFrom yX4_copyFrom, Cond.initialized RX4, Cond.code yX4_copyFrom cX4_copyFrom 2 none, Cond.fieldLink RX4 9 "RingPages$State" "stay" "[I", Cond.methodLink RX4 37 arraycopyName, Cond.native arraycopyName, Cond.static arraycopyName, Cond.initialized "java/lang/System", Cond.fieldLink RX4 15 "RingPages$State" "area" "[I"]
def wsX7_undo_r2 : List Cond := [Cond.fieldLink RX4 18 "RingPages$State" "kind" "I", Cond.fieldLink RX4 22 "RingPages$State" "value" "I", Cond.fieldLink RX4 25 "RingPages$State" "cell" "I", Cond.fieldLink RX4 43 "RingPages$State" "home" "I", Cond.fieldLink RX4 46 "RingPages$State" "moves" "I", Cond.fieldLink RX4 49 "RingPages$State" "ticks" "I", Cond.fieldLink RX4 28 "RingPages$State" "updates" "I", Cond.fieldLink RX4 31 "RingPages$State" "paged" "I", Cond.methodLink RX7 106 yX0_reckon, Cond.instanceMethod yX0_reckon, Cond.selects RX0 yX0_reckon yX0_reckon, Cond.initialized RX0, Cond.code yX0_reckon cX0_reckon 4 none, Cond.fieldLink RX0 22 "RingPages$LongRun" "below" "J", Cond.fieldLink RX0 26 "RingPages$Net" "cells" "I", Cond.fieldLink RX0 9 "RingPages$LongRun" "above" "[J", Cond.fieldLink RX0 32 "RingPages$State" "stay" "[I", Cond.fieldLink RX0 37 "RingPages$Net" "out" "[I", Cond.fieldLink RX0 40 "RingPages$Net" "trees" "[J", Cond.fieldLink RX0 43 "RingPages$LongRun" "bestKnown" "Z"]
def wsX7_undo : List Cond := .code yX7_undo cX7_undo 1 (some .int) :: ((wsX7_undo_r1 ++ wsX7_undo_r2) ++ wsX70 ++ wsX20 ++ wsX40 ++ wsX00 ++ wsX10)
def wsX7_cell : List Cond := .code yX7_cell cX7_cell 3 (some .int) :: ([.fieldLink RX7 58 "RingPages" "state" "LRingPages$State;", .fieldLink RX7 113 "RingPages$State" "stay" "[I", .fieldLink RX7 117 "RingPages$State" "area" "[I", .fieldLink RX7 54 "RingPages" "net" "LRingPages$Net;", .fieldLink RX7 148 "RingPages$Net" "out" "[I", .fieldLink RX7 151 "RingPages$Net" "near" "[I", .fieldLink RX7 94 "RingPages$Net" "cells" "I", .methodLink RX7 110 yX7_isCell, .instanceMethod yX7_isCell, .selects RX7 yX7_isCell yX7_isCell, .initialized RX7, .code yX7_isCell cX7_isCell 2 (some .boolean), .methodLink RX7 154 yX7_sameArea, .static yX7_sameArea, .code yX7_sameArea cX7_sameArea 5 (some .int)] ++ wsX70 ++ wsX40 ++ wsX10)
def wsX7_weight : List Cond := .code yX7_weight cX7_weight 3 (some .int) :: ([.fieldLink RX7 54 "RingPages" "net" "LRingPages$Net;", .fieldLink RX7 158 "RingPages$Net" "weight" "[[I", .methodLink RX7 110 yX7_isCell, .instanceMethod yX7_isCell, .selects RX7 yX7_isCell yX7_isCell, .initialized RX7, .code yX7_isCell cX7_isCell 2 (some .boolean), .fieldLink RX7 94 "RingPages$Net" "cells" "I"] ++ wsX70 ++ wsX10)
def wsX7_wide : List Cond := .code yX7_wide cX7_wide 3 (some .int) :: ([.fieldLink RX7 54 "RingPages" "net" "LRingPages$Net;", .fieldLink RX7 162 "RingPages$Net" "wide" "[[I", .methodLink RX7 110 yX7_isCell, .instanceMethod yX7_isCell, .selects RX7 yX7_isCell yX7_isCell, .initialized RX7, .code yX7_isCell cX7_isCell 2 (some .boolean), .fieldLink RX7 94 "RingPages$Net" "cells" "I"] ++ wsX70 ++ wsX10)
def wsX7_tick_r1 : List Cond := [Cond.fieldLink RX7 58 "RingPages" "state" "LRingPages$State;", Cond.fieldLink RX7 54 "RingPages" "net" "LRingPages$Net;", Cond.fieldLink RX7 19 "RingPages" "past" "LRingPages$Past;", Cond.methodLink RX7 110 yX7_isCell, Cond.instanceMethod yX7_isCell, Cond.selects RX7 yX7_isCell yX7_isCell, Cond.initialized RX7, Cond.code yX7_isCell cX7_isCell 2 (some .boolean), Cond.fieldLink RX7 94 "RingPages$Net" "cells" "I", Cond.methodLink RX7 165 yX4_canGo, Cond.instanceMethod yX4_canGo, Cond.selects RX4 yX4_canGo yX4_canGo, Cond.initialized RX4, Cond.code yX4_canGo cX4_canGo 3 (some .boolean), Cond.fieldLink RX4 25 "RingPages$State" "cell" "I", Cond.fieldLink RX4 9 "RingPages$State" "stay" "[I", Cond.fieldLink RX4 52 "RingPages$Net" "near" "[I", Cond.static yX7_holds, Cond.code yX7_holds cX7_holds 2 (some .boolean), Cond.methodLink RX7 120 yX2_keep, Cond.instanceMethod yX2_keep, Cond.selects RX2 yX2_keep yX2_keep, Cond.initialized RX2, Cond.code yX2_keep cX2_keep 2 none]
def wsX7_tick_r2 : List Cond := [Cond.fieldLink RX2 11 "RingPages$Past" "kept" "[LRingPages$State;", Cond.fieldLink RX2 18 "RingPages$Past" "next" "I", Cond.fieldLink RX2 26 "RingPages$Past" "held" "I", Cond.methodLink RX2 29 Lib.Math.min.name, Cond.static Lib.Math.min.name, Cond.initialized "java/lang/Math", Cond.code Lib.Math.min.name Lib.Math.min.code 2 (some .int), Cond.methodLink RX2 22 yX4_copyFrom, Cond.instanceMethod yX4_copyFrom, Cond.selects RX4 yX4_copyFrom yX4_copyFrom, Cond.code yX4_copyFrom cX4_copyFrom 2 none, Cond.methodLink RX4 37 arraycopyName, Cond.native arraycopyName, Cond.static arraycopyName, Cond.initialized "java/lang/System", Cond.fieldLink RX4 15 "RingPages$State" "area" "[I", Cond.fieldLink RX4 18 "RingPages$State" "kind" "I", Cond.fieldLink RX4 22 "RingPages$State" "value" "I", Cond.fieldLink RX4 43 "RingPages$State" "home" "I", Cond.fieldLink RX4 46 "RingPages$State" "moves" "I", Cond.fieldLink RX4 49 "RingPages$State" "ticks" "I", Cond.fieldLink RX4 28 "RingPages$State" "updates" "I", Cond.fieldLink RX4 31 "RingPages$State" "paged" "I", Cond.methodLink RX7 169 yX4_go]
def wsX7_tick_r3 : List Cond := [Cond.instanceMethod yX4_go, Cond.selects RX4 yX4_go yX4_go, Cond.code yX4_go cX4_go 3 (some .boolean), Cond.methodLink RX4 61 yX4_isDue, Cond.instanceMethod yX4_isDue, Cond.selects RX4 yX4_isDue yX4_isDue, Cond.code yX4_isDue cX4_isDue 2 (some .boolean), Cond.methodLink RX4 65 yX4_isOutside, Cond.instanceMethod yX4_isOutside, Cond.selects RX4 yX4_isOutside yX4_isOutside, Cond.code yX4_isOutside cX4_isOutside 3 (some .boolean), Cond.fieldLink RX4 69 "RingPages$Net" "wide" "[[I", Cond.methodLink RX4 34 yX4_register, Cond.instanceMethod yX4_register, Cond.selects RX4 yX4_register yX4_register, Cond.code yX4_register cX4_register 1 none]
def wsX7_tick : List Cond := .code yX7_tick cX7_tick 2 (some .int) :: ((wsX7_tick_r1 ++ (wsX7_tick_r2 ++ wsX7_tick_r3)) ++ wsX70 ++ wsX10 ++ wsX40 ++ wsX20)
def wsX7_seek_r1 : List Cond := [Cond.fieldLink RX7 40 "RingPages" "rounds" "LRingPages$Rounds;", Cond.fieldLink RX7 33 "RingPages" "whereabouts" "LRingPages$Whereabouts;", Cond.fieldLink RX7 54 "RingPages" "net" "LRingPages$Net;", Cond.fieldLink RX7 58 "RingPages" "state" "LRingPages$State;", Cond.fieldLink RX7 26 "RingPages" "longRun" "LRingPages$LongRun;", Cond.fieldLink RX7 217 "RingPages$LongRun" "above" "[J", Cond.fieldLink RX7 225 "RingPages$Net" "mostRounds" "I", Cond.methodLink RX7 214 yX6_find, Cond.instanceMethod yX6_find, Cond.selects RX6 yX6_find yX6_find, Cond.initialized RX6, Cond.code yX6_find cX6_find 8 (some .int), Cond.fieldLink RX6 15 "RingPages$State" "kind" "I", Cond.fieldLink RX6 21 "RingPages$State" "value" "I", Cond.methodLink RX6 24 Lib.Math.min.name, Cond.static Lib.Math.min.name, Cond.initialized "java/lang/Math", Cond.code Lib.Math.min.name Lib.Math.min.code 2 (some .int), Cond.fieldLink RX6 9 "RingPages$Whereabouts" "reached" "[I", Cond.fieldLink RX6 34 "RingPages$State" "home" "I", Cond.fieldLink RX6 37 "RingPages$State" "ticks" "I", Cond.methodLink RX6 30 yX6_insideOf, Cond.instanceMethod yX6_insideOf, Cond.selects RX6 yX6_insideOf yX6_insideOf]
def wsX7_seek_r2 : List Cond := [Cond.code yX6_insideOf cX6_insideOf 5 (some .int), Cond.fieldLink RX6 44 "RingPages$Net" "cells" "I", Cond.methodLink RX6 49 yX4_isOutside, Cond.instanceMethod yX4_isOutside, Cond.selects RX4 yX4_isOutside yX4_isOutside, Cond.initialized RX4, Cond.code yX4_isOutside cX4_isOutside 3 (some .boolean), Cond.fieldLink RX4 18 "RingPages$State" "kind" "I", Cond.fieldLink RX4 15 "RingPages$State" "area" "[I", Cond.fieldLink RX4 43 "RingPages$State" "home" "I", Cond.fieldLink RX4 69 "RingPages$Net" "wide" "[[I", Cond.fieldLink RX4 22 "RingPages$State" "value" "I", Cond.methodLink RX6 40 yX6_step, Cond.instanceMethod yX6_step, Cond.selects RX6 yX6_step yX6_step, Cond.code yX6_step cX6_step 9 (some .boolean), Cond.methodLink RX6 53 yX6_movers, Cond.instanceMethod yX6_movers, Cond.selects RX6 yX6_movers yX6_movers, Cond.code yX6_movers cX6_movers 5 (some .int), Cond.fieldLink RX6 68 "RingPages$Net" "near" "[I", Cond.static yX7_holds, Cond.initialized RX7, Cond.code yX7_holds cX7_holds 2 (some .boolean)]
def wsX7_seek_r3 : List Cond := [Cond.methodLink RX6 57 yX6_stayers, Cond.instanceMethod yX6_stayers, Cond.selects RX6 yX6_stayers yX6_stayers, Cond.code yX6_stayers cX6_stayers 6 (some .int), Cond.fieldLink RX6 65 "RingPages$State" "stay" "[I", Cond.methodLink RX7 221 yX3_lineUp, Cond.instanceMethod yX3_lineUp, Cond.selects RX3 yX3_lineUp yX3_lineUp, Cond.initialized RX3, Cond.code yX3_lineUp cX3_lineUp 5 none, Cond.fieldLink RX3 15 "RingPages$Rounds" "length" "I", Cond.fieldLink RX3 9 "RingPages$Rounds" "row" "[I", Cond.methodLink RX7 228 yX3_split, Cond.instanceMethod yX3_split, Cond.selects RX3 yX3_split yX3_split, Cond.code yX3_split cX3_split 10 none, Cond.constantLong RX3 23 (-1), Cond.fieldLink RX3 25 "RingPages$Rounds" "many" "I", Cond.fieldLink RX3 28 "RingPages$Rounds" "cuts" "I", Cond.methodLink RX3 31 yJ6_bitCount_0f7a4, Cond.static yJ6_bitCount_0f7a4, Cond.initialized RJ6, Cond.code yJ6_bitCount_0f7a4 cJ6_bitCount_0f7a4 1 (some .int), Cond.constant RJ6 265 (1431655765)]
def wsX7_seek_r4 : List Cond := [Cond.constant RJ6 266 (858993459), Cond.constant RJ6 267 (252645135), Cond.methodLink RX3 37 yX3_meanPaged, Cond.instanceMethod yX3_meanPaged, Cond.selects RX3 yX3_meanPaged yX3_meanPaged, Cond.code yX3_meanPaged cX3_meanPaged 7 (some .long), Cond.methodLink RX3 41 yX3_isCutBehind, Cond.instanceMethod yX3_isCutBehind, Cond.selects RX3 yX3_isCutBehind yX3_isCutBehind, Cond.code yX3_isCutBehind cX3_isCutBehind 3 (some .boolean)]
def wsX7_seek : List Cond := .code yX7_seek cX7_seek 1 none :: ((wsX7_seek_r1 ++ (wsX7_seek_r2 ++ (wsX7_seek_r3 ++ wsX7_seek_r4))) ++ wsX70 ++ wsX00 ++ wsX10 ++ wsX40 ++ wsX60 ++ wsX30)
def wsX7_page_r1 : List Cond := [Cond.fieldLink RX7 40 "RingPages" "rounds" "LRingPages$Rounds;", Cond.fieldLink RX7 175 "RingPages$Rounds" "many" "I", Cond.fieldLink RX7 58 "RingPages" "state" "LRingPages$State;", Cond.fieldLink RX7 187 "RingPages$State" "cell" "I", Cond.fieldLink RX7 19 "RingPages" "past" "LRingPages$Past;", Cond.fieldLink RX7 193 "RingPages$State" "paged" "I", Cond.methodLink RX7 172 yX7_seek, Cond.instanceMethod yX7_seek, Cond.selects RX7 yX7_seek yX7_seek, Cond.initialized RX7, Cond.code yX7_seek cX7_seek 1 none, Cond.fieldLink RX7 33 "RingPages" "whereabouts" "LRingPages$Whereabouts;", Cond.fieldLink RX7 54 "RingPages" "net" "LRingPages$Net;", Cond.fieldLink RX7 26 "RingPages" "longRun" "LRingPages$LongRun;", Cond.fieldLink RX7 217 "RingPages$LongRun" "above" "[J", Cond.fieldLink RX7 225 "RingPages$Net" "mostRounds" "I", Cond.methodLink RX7 214 yX6_find, Cond.instanceMethod yX6_find, Cond.selects RX6 yX6_find yX6_find, Cond.initialized RX6, Cond.code yX6_find cX6_find 8 (some .int), Cond.fieldLink RX6 15 "RingPages$State" "kind" "I", Cond.fieldLink RX6 21 "RingPages$State" "value" "I", Cond.methodLink RX6 24 Lib.Math.min.name]
def wsX7_page_r2 : List Cond := [Cond.static Lib.Math.min.name, Cond.initialized "java/lang/Math", Cond.code Lib.Math.min.name Lib.Math.min.code 2 (some .int), Cond.fieldLink RX6 9 "RingPages$Whereabouts" "reached" "[I", Cond.fieldLink RX6 34 "RingPages$State" "home" "I", Cond.fieldLink RX6 37 "RingPages$State" "ticks" "I", Cond.methodLink RX6 30 yX6_insideOf, Cond.instanceMethod yX6_insideOf, Cond.selects RX6 yX6_insideOf yX6_insideOf, Cond.code yX6_insideOf cX6_insideOf 5 (some .int), Cond.fieldLink RX6 44 "RingPages$Net" "cells" "I", Cond.methodLink RX6 49 yX4_isOutside, Cond.instanceMethod yX4_isOutside, Cond.selects RX4 yX4_isOutside yX4_isOutside, Cond.initialized RX4, Cond.code yX4_isOutside cX4_isOutside 3 (some .boolean), Cond.fieldLink RX4 18 "RingPages$State" "kind" "I", Cond.fieldLink RX4 15 "RingPages$State" "area" "[I", Cond.fieldLink RX4 43 "RingPages$State" "home" "I", Cond.fieldLink RX4 69 "RingPages$Net" "wide" "[[I", Cond.fieldLink RX4 22 "RingPages$State" "value" "I", Cond.methodLink RX6 40 yX6_step, Cond.instanceMethod yX6_step, Cond.selects RX6 yX6_step yX6_step]
def wsX7_page_r3 : List Cond := [Cond.code yX6_step cX6_step 9 (some .boolean), Cond.methodLink RX6 53 yX6_movers, Cond.instanceMethod yX6_movers, Cond.selects RX6 yX6_movers yX6_movers, Cond.code yX6_movers cX6_movers 5 (some .int), Cond.fieldLink RX6 68 "RingPages$Net" "near" "[I", Cond.static yX7_holds, Cond.code yX7_holds cX7_holds 2 (some .boolean), Cond.methodLink RX6 57 yX6_stayers, Cond.instanceMethod yX6_stayers, Cond.selects RX6 yX6_stayers yX6_stayers, Cond.code yX6_stayers cX6_stayers 6 (some .int), Cond.fieldLink RX6 65 "RingPages$State" "stay" "[I", Cond.methodLink RX7 221 yX3_lineUp, Cond.instanceMethod yX3_lineUp, Cond.selects RX3 yX3_lineUp yX3_lineUp, Cond.initialized RX3, Cond.code yX3_lineUp cX3_lineUp 5 none, Cond.fieldLink RX3 15 "RingPages$Rounds" "length" "I", Cond.fieldLink RX3 9 "RingPages$Rounds" "row" "[I", Cond.methodLink RX7 228 yX3_split, Cond.instanceMethod yX3_split, Cond.selects RX3 yX3_split yX3_split, Cond.code yX3_split cX3_split 10 none]
def wsX7_page_r4 : List Cond := [Cond.constantLong RX3 23 (-1), Cond.fieldLink RX3 25 "RingPages$Rounds" "many" "I", Cond.fieldLink RX3 28 "RingPages$Rounds" "cuts" "I", Cond.methodLink RX3 31 yJ6_bitCount_0f7a4, Cond.static yJ6_bitCount_0f7a4, Cond.initialized RJ6, Cond.code yJ6_bitCount_0f7a4 cJ6_bitCount_0f7a4 1 (some .int), Cond.constant RJ6 265 (1431655765), Cond.constant RJ6 266 (858993459), Cond.constant RJ6 267 (252645135), Cond.methodLink RX3 37 yX3_meanPaged, Cond.instanceMethod yX3_meanPaged, Cond.selects RX3 yX3_meanPaged yX3_meanPaged, Cond.code yX3_meanPaged cX3_meanPaged 7 (some .long), Cond.methodLink RX3 41 yX3_isCutBehind, Cond.instanceMethod yX3_isCutBehind, Cond.selects RX3 yX3_isCutBehind yX3_isCutBehind, Cond.code yX3_isCutBehind cX3_isCutBehind 3 (some .boolean), Cond.methodLink RX7 178 yX3_cellsOf, Cond.instanceMethod yX3_cellsOf, Cond.selects RX3 yX3_cellsOf yX3_cellsOf, Cond.code yX3_cellsOf cX3_cellsOf 5 (some .int), Cond.methodLink RX7 182 yJ6_bitCount_0f7a4, Cond.methodLink RX7 190 yX7_holds]
def wsX7_page_r5 : List Cond := [Cond.methodLink RX7 120 yX2_keep, Cond.instanceMethod yX2_keep, Cond.selects RX2 yX2_keep yX2_keep, Cond.initialized RX2, Cond.code yX2_keep cX2_keep 2 none, Cond.fieldLink RX2 11 "RingPages$Past" "kept" "[LRingPages$State;", Cond.fieldLink RX2 18 "RingPages$Past" "next" "I", Cond.fieldLink RX2 26 "RingPages$Past" "held" "I", Cond.methodLink RX2 29 Lib.Math.min.name, Cond.methodLink RX2 22 yX4_copyFrom, Cond.instanceMethod yX4_copyFrom, Cond.selects RX4 yX4_copyFrom yX4_copyFrom, Cond.code yX4_copyFrom cX4_copyFrom 2 none, Cond.fieldLink RX4 9 "RingPages$State" "stay" "[I", Cond.methodLink RX4 37 arraycopyName, Cond.native arraycopyName, Cond.static arraycopyName, Cond.initialized "java/lang/System", Cond.fieldLink RX4 25 "RingPages$State" "cell" "I", Cond.fieldLink RX4 46 "RingPages$State" "moves" "I", Cond.fieldLink RX4 49 "RingPages$State" "ticks" "I", Cond.fieldLink RX4 28 "RingPages$State" "updates" "I", Cond.fieldLink RX4 31 "RingPages$State" "paged" "I", Cond.methodLink RX7 124 yX4_register]
def wsX7_page_r6 : List Cond := [Cond.instanceMethod yX4_register, Cond.selects RX4 yX4_register yX4_register, Cond.code yX4_register cX4_register 1 none]
def wsX7_page : List Cond := .code yX7_page cX7_page 4 (some .int) :: ((wsX7_page_r1 ++ (wsX7_page_r2 ++ (wsX7_page_r3 ++ (wsX7_page_r4 ++ (wsX7_page_r5 ++ wsX7_page_r6))))) ++ wsX70 ++ wsX30 ++ wsX40 ++ wsX00 ++ wsX10 ++ wsX60 ++ wsX20)
def wsX7_handset : List Cond := .code yX7_handset cX7_handset 2 (some .int) :: ([.fieldLink RX7 58 "RingPages" "state" "LRingPages$State;", .fieldLink RX7 187 "RingPages$State" "cell" "I", .fieldLink RX7 196 "RingPages$State" "home" "I", .fieldLink RX7 199 "RingPages$State" "moves" "I", .fieldLink RX7 202 "RingPages$State" "ticks" "I", .fieldLink RX7 205 "RingPages$State" "updates" "I", .fieldLink RX7 193 "RingPages$State" "paged" "I", .fieldLink RX7 54 "RingPages" "net" "LRingPages$Net;", .fieldLink RX7 208 "RingPages$Net" "pageCost" "I", .fieldLink RX7 211 "RingPages$Net" "updateCost" "I"] ++ wsX70 ++ wsX40 ++ wsX10)
def wsX7_where_r1 : List Cond := [Cond.fieldLink RX7 33 "RingPages" "whereabouts" "LRingPages$Whereabouts;", Cond.fieldLink RX7 54 "RingPages" "net" "LRingPages$Net;", Cond.fieldLink RX7 58 "RingPages" "state" "LRingPages$State;", Cond.methodLink RX7 214 yX6_find, Cond.instanceMethod yX6_find, Cond.selects RX6 yX6_find yX6_find, Cond.initialized RX6, Cond.code yX6_find cX6_find 8 (some .int), Cond.fieldLink RX6 15 "RingPages$State" "kind" "I", Cond.fieldLink RX6 21 "RingPages$State" "value" "I", Cond.methodLink RX6 24 Lib.Math.min.name, Cond.static Lib.Math.min.name, Cond.initialized "java/lang/Math", Cond.code Lib.Math.min.name Lib.Math.min.code 2 (some .int), Cond.fieldLink RX6 9 "RingPages$Whereabouts" "reached" "[I", Cond.fieldLink RX6 34 "RingPages$State" "home" "I", Cond.fieldLink RX6 37 "RingPages$State" "ticks" "I", Cond.methodLink RX6 30 yX6_insideOf, Cond.instanceMethod yX6_insideOf, Cond.selects RX6 yX6_insideOf yX6_insideOf, Cond.code yX6_insideOf cX6_insideOf 5 (some .int), Cond.fieldLink RX6 44 "RingPages$Net" "cells" "I", Cond.methodLink RX6 49 yX4_isOutside, Cond.instanceMethod yX4_isOutside]
def wsX7_where_r2 : List Cond := [Cond.selects RX4 yX4_isOutside yX4_isOutside, Cond.initialized RX4, Cond.code yX4_isOutside cX4_isOutside 3 (some .boolean), Cond.fieldLink RX4 18 "RingPages$State" "kind" "I", Cond.fieldLink RX4 15 "RingPages$State" "area" "[I", Cond.fieldLink RX4 43 "RingPages$State" "home" "I", Cond.fieldLink RX4 69 "RingPages$Net" "wide" "[[I", Cond.fieldLink RX4 22 "RingPages$State" "value" "I", Cond.methodLink RX6 40 yX6_step, Cond.instanceMethod yX6_step, Cond.selects RX6 yX6_step yX6_step, Cond.code yX6_step cX6_step 9 (some .boolean), Cond.methodLink RX6 53 yX6_movers, Cond.instanceMethod yX6_movers, Cond.selects RX6 yX6_movers yX6_movers, Cond.code yX6_movers cX6_movers 5 (some .int), Cond.fieldLink RX6 68 "RingPages$Net" "near" "[I", Cond.static yX7_holds, Cond.initialized RX7, Cond.code yX7_holds cX7_holds 2 (some .boolean), Cond.methodLink RX6 57 yX6_stayers, Cond.instanceMethod yX6_stayers, Cond.selects RX6 yX6_stayers yX6_stayers, Cond.code yX6_stayers cX6_stayers 6 (some .int)]
def wsX7_where_r3 : List Cond := [Cond.fieldLink RX6 65 "RingPages$State" "stay" "[I"]
def wsX7_where : List Cond := .code yX7_where cX7_where 1 (some .int) :: ((wsX7_where_r1 ++ (wsX7_where_r2 ++ wsX7_where_r3)) ++ wsX70 ++ wsX40 ++ wsX60 ++ wsX10)
def wsX7_round_r1 : List Cond := [Cond.fieldLink RX7 40 "RingPages" "rounds" "LRingPages$Rounds;", Cond.fieldLink RX7 175 "RingPages$Rounds" "many" "I", Cond.methodLink RX7 172 yX7_seek, Cond.instanceMethod yX7_seek, Cond.selects RX7 yX7_seek yX7_seek, Cond.initialized RX7, Cond.code yX7_seek cX7_seek 1 none, Cond.fieldLink RX7 33 "RingPages" "whereabouts" "LRingPages$Whereabouts;", Cond.fieldLink RX7 54 "RingPages" "net" "LRingPages$Net;", Cond.fieldLink RX7 58 "RingPages" "state" "LRingPages$State;", Cond.fieldLink RX7 26 "RingPages" "longRun" "LRingPages$LongRun;", Cond.fieldLink RX7 217 "RingPages$LongRun" "above" "[J", Cond.fieldLink RX7 225 "RingPages$Net" "mostRounds" "I", Cond.methodLink RX7 214 yX6_find, Cond.instanceMethod yX6_find, Cond.selects RX6 yX6_find yX6_find, Cond.initialized RX6, Cond.code yX6_find cX6_find 8 (some .int), Cond.fieldLink RX6 15 "RingPages$State" "kind" "I", Cond.fieldLink RX6 21 "RingPages$State" "value" "I", Cond.methodLink RX6 24 Lib.Math.min.name, Cond.static Lib.Math.min.name, Cond.initialized "java/lang/Math", Cond.code Lib.Math.min.name Lib.Math.min.code 2 (some .int)]
def wsX7_round_r2 : List Cond := [Cond.fieldLink RX6 9 "RingPages$Whereabouts" "reached" "[I", Cond.fieldLink RX6 34 "RingPages$State" "home" "I", Cond.fieldLink RX6 37 "RingPages$State" "ticks" "I", Cond.methodLink RX6 30 yX6_insideOf, Cond.instanceMethod yX6_insideOf, Cond.selects RX6 yX6_insideOf yX6_insideOf, Cond.code yX6_insideOf cX6_insideOf 5 (some .int), Cond.fieldLink RX6 44 "RingPages$Net" "cells" "I", Cond.methodLink RX6 49 yX4_isOutside, Cond.instanceMethod yX4_isOutside, Cond.selects RX4 yX4_isOutside yX4_isOutside, Cond.initialized RX4, Cond.code yX4_isOutside cX4_isOutside 3 (some .boolean), Cond.fieldLink RX4 18 "RingPages$State" "kind" "I", Cond.fieldLink RX4 15 "RingPages$State" "area" "[I", Cond.fieldLink RX4 43 "RingPages$State" "home" "I", Cond.fieldLink RX4 69 "RingPages$Net" "wide" "[[I", Cond.fieldLink RX4 22 "RingPages$State" "value" "I", Cond.methodLink RX6 40 yX6_step, Cond.instanceMethod yX6_step, Cond.selects RX6 yX6_step yX6_step, Cond.code yX6_step cX6_step 9 (some .boolean), Cond.methodLink RX6 53 yX6_movers, Cond.instanceMethod yX6_movers]
def wsX7_round_r3 : List Cond := [Cond.selects RX6 yX6_movers yX6_movers, Cond.code yX6_movers cX6_movers 5 (some .int), Cond.fieldLink RX6 68 "RingPages$Net" "near" "[I", Cond.static yX7_holds, Cond.code yX7_holds cX7_holds 2 (some .boolean), Cond.methodLink RX6 57 yX6_stayers, Cond.instanceMethod yX6_stayers, Cond.selects RX6 yX6_stayers yX6_stayers, Cond.code yX6_stayers cX6_stayers 6 (some .int), Cond.fieldLink RX6 65 "RingPages$State" "stay" "[I", Cond.methodLink RX7 221 yX3_lineUp, Cond.instanceMethod yX3_lineUp, Cond.selects RX3 yX3_lineUp yX3_lineUp, Cond.initialized RX3, Cond.code yX3_lineUp cX3_lineUp 5 none, Cond.fieldLink RX3 15 "RingPages$Rounds" "length" "I", Cond.fieldLink RX3 9 "RingPages$Rounds" "row" "[I", Cond.methodLink RX7 228 yX3_split, Cond.instanceMethod yX3_split, Cond.selects RX3 yX3_split yX3_split, Cond.code yX3_split cX3_split 10 none, Cond.constantLong RX3 23 (-1), Cond.fieldLink RX3 25 "RingPages$Rounds" "many" "I", Cond.fieldLink RX3 28 "RingPages$Rounds" "cuts" "I"]
def wsX7_round_r4 : List Cond := [Cond.methodLink RX3 31 yJ6_bitCount_0f7a4, Cond.static yJ6_bitCount_0f7a4, Cond.initialized RJ6, Cond.code yJ6_bitCount_0f7a4 cJ6_bitCount_0f7a4 1 (some .int), Cond.constant RJ6 265 (1431655765), Cond.constant RJ6 266 (858993459), Cond.constant RJ6 267 (252645135), Cond.methodLink RX3 37 yX3_meanPaged, Cond.instanceMethod yX3_meanPaged, Cond.selects RX3 yX3_meanPaged yX3_meanPaged, Cond.code yX3_meanPaged cX3_meanPaged 7 (some .long), Cond.methodLink RX3 41 yX3_isCutBehind, Cond.instanceMethod yX3_isCutBehind, Cond.selects RX3 yX3_isCutBehind yX3_isCutBehind, Cond.code yX3_isCutBehind cX3_isCutBehind 3 (some .boolean), Cond.methodLink RX7 178 yX3_cellsOf, Cond.instanceMethod yX3_cellsOf, Cond.selects RX3 yX3_cellsOf yX3_cellsOf, Cond.code yX3_cellsOf cX3_cellsOf 5 (some .int)]
def wsX7_round : List Cond := .code yX7_round cX7_round 2 (some .int) :: ((wsX7_round_r1 ++ (wsX7_round_r2 ++ (wsX7_round_r3 ++ wsX7_round_r4))) ++ wsX70 ++ wsX30 ++ wsX00 ++ wsX10 ++ wsX40 ++ wsX60)
def wsX7_isPart : List Cond := .code yX7_isPart cX7_isPart 1 (some .boolean) :: ([])
def wsX7_greatestShared : List Cond := .code yX7_greatestShared cX7_greatestShared 7 (some .long) :: ([])
def wsX7_lowest : List Cond := .code yX7_lowest cX7_lowest 7 (some .long) :: ([.methodLink RX7 289 yX7_greatestShared, .static yX7_greatestShared, .initialized RX7, .code yX7_greatestShared cX7_greatestShared 7 (some .long)])
def wsX7_chance : List Cond := .code yX7_chance cX7_chance 3 (some .long) :: ([.constantLong RX7 234 (-1), .fieldLink RX7 26 "RingPages" "longRun" "LRingPages$LongRun;", .fieldLink RX7 217 "RingPages$LongRun" "above" "[J", .fieldLink RX7 236 "RingPages$LongRun" "below" "J", .methodLink RX7 110 yX7_isCell, .instanceMethod yX7_isCell, .selects RX7 yX7_isCell yX7_isCell, .initialized RX7, .code yX7_isCell cX7_isCell 2 (some .boolean), .fieldLink RX7 54 "RingPages" "net" "LRingPages$Net;", .fieldLink RX7 94 "RingPages$Net" "cells" "I", .methodLink RX7 231 yX7_isPart, .static yX7_isPart, .code yX7_isPart cX7_isPart 1 (some .boolean), .methodLink RX7 240 yX7_lowest, .static yX7_lowest, .code yX7_lowest cX7_lowest 7 (some .long), .methodLink RX7 289 yX7_greatestShared, .static yX7_greatestShared, .code yX7_greatestShared cX7_greatestShared 7 (some .long)] ++ wsX70 ++ wsX00 ++ wsX10)
def wsX7_rate_r1 : List Cond := [Cond.fieldLink RX7 58 "RingPages" "state" "LRingPages$State;", Cond.fieldLink RX7 131 "RingPages$State" "kind" "I", Cond.fieldLink RX7 26 "RingPages" "longRun" "LRingPages$LongRun;", Cond.fieldLink RX7 54 "RingPages" "net" "LRingPages$Net;", Cond.fieldLink RX7 117 "RingPages$State" "area" "[I", Cond.fieldLink RX7 236 "RingPages$LongRun" "below" "J", Cond.fieldLink RX7 134 "RingPages$State" "value" "I", Cond.constantLong RX7 261 (-4), Cond.methodLink RX7 244 yX0_crosses, Cond.instanceMethod yX0_crosses, Cond.selects RX0 yX0_crosses yX0_crosses, Cond.initialized RX0, Cond.code yX0_crosses cX0_crosses 7 (some .long), Cond.fieldLink RX0 26 "RingPages$Net" "cells" "I", Cond.fieldLink RX0 40 "RingPages$Net" "trees" "[J", Cond.fieldLink RX0 47 "RingPages$Net" "weight" "[[I", Cond.methodLink RX7 240 yX7_lowest, Cond.static yX7_lowest, Cond.initialized RX7, Cond.code yX7_lowest cX7_lowest 7 (some .long), Cond.methodLink RX7 289 yX7_greatestShared, Cond.static yX7_greatestShared, Cond.code yX7_greatestShared cX7_greatestShared 7 (some .long), Cond.methodLink RX7 248 yX0_movesOn]
def wsX7_rate_r2 : List Cond := [Cond.instanceMethod yX0_movesOn, Cond.selects RX0 yX0_movesOn yX0_movesOn, Cond.code yX0_movesOn cX0_movesOn 5 (some .long), Cond.fieldLink RX0 37 "RingPages$Net" "out" "[I"]
def wsX7_rate : List Cond := .code yX7_rate cX7_rate 2 (some .long) :: ((wsX7_rate_r1 ++ wsX7_rate_r2) ++ wsX70 ++ wsX40 ++ wsX00 ++ wsX10)
def wsX7_mean_r1 : List Cond := [Cond.constantLong RX7 234 (-1), Cond.fieldLink RX7 26 "RingPages" "longRun" "LRingPages$LongRun;", Cond.fieldLink RX7 54 "RingPages" "net" "LRingPages$Net;", Cond.fieldLink RX7 58 "RingPages" "state" "LRingPages$State;", Cond.fieldLink RX7 117 "RingPages$State" "area" "[I", Cond.fieldLink RX7 236 "RingPages$LongRun" "below" "J", Cond.constantLong RX7 259 (100), Cond.methodLink RX7 231 yX7_isPart, Cond.static yX7_isPart, Cond.initialized RX7, Cond.code yX7_isPart cX7_isPart 1 (some .boolean), Cond.methodLink RX7 244 yX0_crosses, Cond.instanceMethod yX0_crosses, Cond.selects RX0 yX0_crosses yX0_crosses, Cond.initialized RX0, Cond.code yX0_crosses cX0_crosses 7 (some .long), Cond.fieldLink RX0 26 "RingPages$Net" "cells" "I", Cond.fieldLink RX0 40 "RingPages$Net" "trees" "[J", Cond.fieldLink RX0 47 "RingPages$Net" "weight" "[[I", Cond.methodLink RX7 240 yX7_lowest, Cond.static yX7_lowest, Cond.code yX7_lowest cX7_lowest 7 (some .long), Cond.methodLink RX7 289 yX7_greatestShared, Cond.static yX7_greatestShared]
def wsX7_mean_r2 : List Cond := [Cond.code yX7_greatestShared cX7_greatestShared 7 (some .long), Cond.methodLink RX7 248 yX0_movesOn, Cond.instanceMethod yX0_movesOn, Cond.selects RX0 yX0_movesOn yX0_movesOn, Cond.code yX0_movesOn cX0_movesOn 5 (some .long), Cond.fieldLink RX0 37 "RingPages$Net" "out" "[I", Cond.methodLink RX7 252 yX7_rate, Cond.instanceMethod yX7_rate, Cond.selects RX7 yX7_rate yX7_rate, Cond.code yX7_rate cX7_rate 2 (some .long), Cond.fieldLink RX7 131 "RingPages$State" "kind" "I", Cond.fieldLink RX7 134 "RingPages$State" "value" "I", Cond.constantLong RX7 261 (-4), Cond.methodLink RX7 256 yX0_expense, Cond.instanceMethod yX0_expense, Cond.selects RX0 yX0_expense yX0_expense, Cond.code yX0_expense cX0_expense 6 (some .long), Cond.fieldLink RX0 9 "RingPages$LongRun" "above" "[J", Cond.fieldLink RX0 55 "RingPages$Net" "updateCost" "I", Cond.fieldLink RX0 62 "RingPages$Net" "pageCost" "I", Cond.fieldLink RX0 65 "RingPages$Net" "callChance" "I", Cond.static yX7_sameArea, Cond.code yX7_sameArea cX7_sameArea 5 (some .int), Cond.methodLink RX0 58 yX0_crosses]
def wsX7_mean : List Cond := .code yX7_mean cX7_mean 3 (some .long) :: ((wsX7_mean_r1 ++ wsX7_mean_r2) ++ wsX70 ++ wsX40 ++ wsX00 ++ wsX10)
def wsX7_best_r1 : List Cond := [Cond.fieldLink RX7 26 "RingPages" "longRun" "LRingPages$LongRun;", Cond.fieldLink RX7 54 "RingPages" "net" "LRingPages$Net;", Cond.fieldLink RX7 141 "RingPages$LongRun" "best" "[I", Cond.methodLink RX7 110 yX7_isCell, Cond.instanceMethod yX7_isCell, Cond.selects RX7 yX7_isCell yX7_isCell, Cond.initialized RX7, Cond.code yX7_isCell cX7_isCell 2 (some .boolean), Cond.fieldLink RX7 94 "RingPages$Net" "cells" "I", Cond.methodLink RX7 137 yX0_findBest, Cond.instanceMethod yX0_findBest, Cond.selects RX0 yX0_findBest yX0_findBest, Cond.initialized RX0, Cond.code yX0_findBest cX0_findBest 5 none, Cond.fieldLink RX0 43 "RingPages$LongRun" "bestKnown" "Z", Cond.fieldLink RX0 19 "RingPages$LongRun" "tried" "[I", Cond.fieldLink RX0 26 "RingPages$Net" "cells" "I", Cond.fieldLink RX0 79 "RingPages$LongRun" "leastExpense" "J", Cond.methodLink RX0 68 yX0_expense, Cond.instanceMethod yX0_expense, Cond.selects RX0 yX0_expense yX0_expense, Cond.code yX0_expense cX0_expense 6 (some .long), Cond.fieldLink RX0 9 "RingPages$LongRun" "above" "[J", Cond.fieldLink RX0 55 "RingPages$Net" "updateCost" "I"]
def wsX7_best_r2 : List Cond := [Cond.fieldLink RX0 62 "RingPages$Net" "pageCost" "I", Cond.fieldLink RX0 65 "RingPages$Net" "callChance" "I", Cond.static yX7_sameArea, Cond.code yX7_sameArea cX7_sameArea 5 (some .int), Cond.methodLink RX0 58 yX0_crosses, Cond.instanceMethod yX0_crosses, Cond.selects RX0 yX0_crosses yX0_crosses, Cond.code yX0_crosses cX0_crosses 7 (some .long), Cond.fieldLink RX0 40 "RingPages$Net" "trees" "[J", Cond.fieldLink RX0 47 "RingPages$Net" "weight" "[[I", Cond.methodLink RX0 71 yX0_takeTried, Cond.instanceMethod yX0_takeTried, Cond.selects RX0 yX0_takeTried yX0_takeTried, Cond.code yX0_takeTried cX0_takeTried 3 none, Cond.fieldLink RX0 15 "RingPages$LongRun" "best" "[I", Cond.methodLink RX0 82 arraycopyName, Cond.native arraycopyName, Cond.static arraycopyName, Cond.initialized "java/lang/System", Cond.methodLink RX0 75 yX0_nextTried, Cond.instanceMethod yX0_nextTried, Cond.selects RX0 yX0_nextTried yX0_nextTried, Cond.code yX0_nextTried cX0_nextTried 3 (some .boolean), Cond.methodLink RX0 88 yX0_highestAhead]
def wsX7_best_r3 : List Cond := [Cond.instanceMethod yX0_highestAhead, Cond.selects RX0 yX0_highestAhead yX0_highestAhead, Cond.code yX0_highestAhead cX0_highestAhead 4 (some .int), Cond.methodLink RX0 92 Lib.Math.max.name, Cond.static Lib.Math.max.name, Cond.initialized "java/lang/Math", Cond.code Lib.Math.max.name Lib.Math.max.code 2 (some .int)]
def wsX7_best : List Cond := .code yX7_best cX7_best 2 (some .int) :: ((wsX7_best_r1 ++ (wsX7_best_r2 ++ wsX7_best_r3)) ++ wsX70 ++ wsX00 ++ wsX10)
def wsX7_least_r1 : List Cond := [Cond.constantLong RX7 234 (-1), Cond.fieldLink RX7 26 "RingPages" "longRun" "LRingPages$LongRun;", Cond.fieldLink RX7 54 "RingPages" "net" "LRingPages$Net;", Cond.fieldLink RX7 263 "RingPages$LongRun" "leastExpense" "J", Cond.constantLong RX7 259 (100), Cond.fieldLink RX7 236 "RingPages$LongRun" "below" "J", Cond.methodLink RX7 231 yX7_isPart, Cond.static yX7_isPart, Cond.initialized RX7, Cond.code yX7_isPart cX7_isPart 1 (some .boolean), Cond.methodLink RX7 137 yX0_findBest, Cond.instanceMethod yX0_findBest, Cond.selects RX0 yX0_findBest yX0_findBest, Cond.initialized RX0, Cond.code yX0_findBest cX0_findBest 5 none, Cond.fieldLink RX0 43 "RingPages$LongRun" "bestKnown" "Z", Cond.fieldLink RX0 19 "RingPages$LongRun" "tried" "[I", Cond.fieldLink RX0 26 "RingPages$Net" "cells" "I", Cond.fieldLink RX0 79 "RingPages$LongRun" "leastExpense" "J", Cond.methodLink RX0 68 yX0_expense, Cond.instanceMethod yX0_expense, Cond.selects RX0 yX0_expense yX0_expense, Cond.code yX0_expense cX0_expense 6 (some .long), Cond.fieldLink RX0 9 "RingPages$LongRun" "above" "[J"]
def wsX7_least_r2 : List Cond := [Cond.fieldLink RX0 55 "RingPages$Net" "updateCost" "I", Cond.fieldLink RX0 62 "RingPages$Net" "pageCost" "I", Cond.fieldLink RX0 65 "RingPages$Net" "callChance" "I", Cond.static yX7_sameArea, Cond.code yX7_sameArea cX7_sameArea 5 (some .int), Cond.methodLink RX0 58 yX0_crosses, Cond.instanceMethod yX0_crosses, Cond.selects RX0 yX0_crosses yX0_crosses, Cond.code yX0_crosses cX0_crosses 7 (some .long), Cond.fieldLink RX0 40 "RingPages$Net" "trees" "[J", Cond.fieldLink RX0 47 "RingPages$Net" "weight" "[[I", Cond.methodLink RX0 71 yX0_takeTried, Cond.instanceMethod yX0_takeTried, Cond.selects RX0 yX0_takeTried yX0_takeTried, Cond.code yX0_takeTried cX0_takeTried 3 none, Cond.fieldLink RX0 15 "RingPages$LongRun" "best" "[I", Cond.methodLink RX0 82 arraycopyName, Cond.native arraycopyName, Cond.static arraycopyName, Cond.initialized "java/lang/System", Cond.methodLink RX0 75 yX0_nextTried, Cond.instanceMethod yX0_nextTried, Cond.selects RX0 yX0_nextTried yX0_nextTried, Cond.code yX0_nextTried cX0_nextTried 3 (some .boolean)]
def wsX7_least_r3 : List Cond := [Cond.methodLink RX0 88 yX0_highestAhead, Cond.instanceMethod yX0_highestAhead, Cond.selects RX0 yX0_highestAhead yX0_highestAhead, Cond.code yX0_highestAhead cX0_highestAhead 4 (some .int), Cond.methodLink RX0 92 Lib.Math.max.name, Cond.static Lib.Math.max.name, Cond.initialized "java/lang/Math", Cond.code Lib.Math.max.name Lib.Math.max.code 2 (some .int), Cond.methodLink RX7 240 yX7_lowest, Cond.static yX7_lowest, Cond.code yX7_lowest cX7_lowest 7 (some .long), Cond.methodLink RX7 289 yX7_greatestShared, Cond.static yX7_greatestShared, Cond.code yX7_greatestShared cX7_greatestShared 7 (some .long)]
def wsX7_least : List Cond := .code yX7_least cX7_least 2 (some .long) :: ((wsX7_least_r1 ++ (wsX7_least_r2 ++ wsX7_least_r3)) ++ wsX70 ++ wsX00 ++ wsX10)
def wsX7_draw : List Cond := .code yX7_draw cX7_draw 4 (some .int) :: ([.constantLong RX7 283 (7919), .constantLong RX7 285 (6151), .constantLong RX7 287 (65521)])
def wsX7_walk_r1 : List Cond := [Cond.fieldLink RX7 47 "RingPages" "walker" "LRingPages$State;", Cond.fieldLink RX7 58 "RingPages" "state" "LRingPages$State;", Cond.fieldLink RX7 54 "RingPages" "net" "LRingPages$Net;", Cond.fieldLink RX7 187 "RingPages$State" "cell" "I", Cond.methodLink RX7 266 yX4_copyFrom, Cond.instanceMethod yX4_copyFrom, Cond.selects RX4 yX4_copyFrom yX4_copyFrom, Cond.initialized RX4, Cond.code yX4_copyFrom cX4_copyFrom 2 none, Cond.fieldLink RX4 9 "RingPages$State" "stay" "[I", Cond.methodLink RX4 37 arraycopyName, Cond.native arraycopyName, Cond.static arraycopyName, Cond.initialized "java/lang/System", Cond.fieldLink RX4 15 "RingPages$State" "area" "[I", Cond.fieldLink RX4 18 "RingPages$State" "kind" "I", Cond.fieldLink RX4 22 "RingPages$State" "value" "I", Cond.fieldLink RX4 25 "RingPages$State" "cell" "I", Cond.fieldLink RX4 43 "RingPages$State" "home" "I", Cond.fieldLink RX4 46 "RingPages$State" "moves" "I", Cond.fieldLink RX4 49 "RingPages$State" "ticks" "I", Cond.fieldLink RX4 28 "RingPages$State" "updates" "I", Cond.fieldLink RX4 31 "RingPages$State" "paged" "I", Cond.methodLink RX7 269 yX7_draw]
def wsX7_walk_r2 : List Cond := [Cond.static yX7_draw, Cond.initialized RX7, Cond.code yX7_draw cX7_draw 4 (some .int), Cond.constantLong RX7 283 (7919), Cond.constantLong RX7 285 (6151), Cond.constantLong RX7 287 (65521), Cond.methodLink RX7 273 yX4_drawnCell, Cond.instanceMethod yX4_drawnCell, Cond.selects RX4 yX4_drawnCell yX4_drawnCell, Cond.code yX4_drawnCell cX4_drawnCell 7 (some .int), Cond.fieldLink RX4 73 "RingPages$Net" "out" "[I", Cond.fieldLink RX4 76 "RingPages$Net" "cells" "I", Cond.fieldLink RX4 79 "RingPages$Net" "weight" "[[I", Cond.methodLink RX7 169 yX4_go, Cond.instanceMethod yX4_go, Cond.selects RX4 yX4_go yX4_go, Cond.code yX4_go cX4_go 3 (some .boolean), Cond.methodLink RX4 61 yX4_isDue, Cond.instanceMethod yX4_isDue, Cond.selects RX4 yX4_isDue yX4_isDue, Cond.code yX4_isDue cX4_isDue 2 (some .boolean), Cond.methodLink RX4 65 yX4_isOutside, Cond.instanceMethod yX4_isOutside, Cond.selects RX4 yX4_isOutside yX4_isOutside]
def wsX7_walk_r3 : List Cond := [Cond.code yX4_isOutside cX4_isOutside 3 (some .boolean), Cond.fieldLink RX4 69 "RingPages$Net" "wide" "[[I", Cond.methodLink RX4 34 yX4_register, Cond.instanceMethod yX4_register, Cond.selects RX4 yX4_register yX4_register, Cond.code yX4_register cX4_register 1 none]
def wsX7_walk : List Cond := .code yX7_walk cX7_walk 8 (some .int) :: ((wsX7_walk_r1 ++ (wsX7_walk_r2 ++ wsX7_walk_r3)) ++ wsX70 ++ wsX40 ++ wsX10)
def wsX7_count : List Cond := .code yX7_count cX7_count 2 (some .int) :: ([.fieldLink RX7 54 "RingPages" "net" "LRingPages$Net;", .fieldLink RX7 94 "RingPages$Net" "cells" "I", .fieldLink RX7 277 "RingPages$Net" "joins" "I", .fieldLink RX7 58 "RingPages" "state" "LRingPages$State;", .fieldLink RX7 131 "RingPages$State" "kind" "I", .fieldLink RX7 134 "RingPages$State" "value" "I", .fieldLink RX7 225 "RingPages$Net" "mostRounds" "I", .fieldLink RX7 208 "RingPages$Net" "pageCost" "I", .fieldLink RX7 211 "RingPages$Net" "updateCost" "I", .fieldLink RX7 280 "RingPages$Net" "callChance" "I", .fieldLink RX7 19 "RingPages" "past" "LRingPages$Past;", .fieldLink RX7 103 "RingPages$Past" "held" "I", .fieldLink RX7 10 "RingPages" "text" "LRingPages$Text;", .fieldLink RX7 87 "RingPages$Text" "length" "I"] ++ wsX70 ++ wsX10 ++ wsX40 ++ wsX20 ++ wsX50)
def wsX8_clears : List Cond := .code yX8_clears cX8_clears 2 none :: ([.fieldLink RX8 62 "RingPagesModel" "readCells" "I", .fieldLink RX8 73 "RingPagesModel" "readJoins" "I", .fieldLink RX8 25 "RingPagesModel" "readWeight" "[I", .fieldLink RX8 31 "RingPagesModel" "read" "[I", .fieldLink RX8 28 "RingPagesModel" "readPrice" "[I"] ++ wsX80)
def wsX8_joinOf : List Cond := .code yX8_joinOf cX8_joinOf 5 none :: ([.fieldLink RX8 25 "RingPagesModel" "readWeight" "[I", .fieldLink RX8 73 "RingPagesModel" "readJoins" "I"] ++ wsX80)
def wsX8_takes : List Cond := .code yX8_takes cX8_takes 2 none :: ([.fieldLink RX8 62 "RingPagesModel" "readCells" "I", .fieldLink RX8 76 "RingPagesModel" "cells" "I", .fieldLink RX8 73 "RingPagesModel" "readJoins" "I", .fieldLink RX8 79 "RingPagesModel" "joins" "I", .fieldLink RX8 13 "RingPagesModel" "weight" "[I", .fieldLink RX8 25 "RingPagesModel" "readWeight" "[I", .fieldLink RX8 19 "RingPagesModel" "now" "[I", .fieldLink RX8 31 "RingPagesModel" "read" "[I", .fieldLink RX8 16 "RingPagesModel" "price" "[I", .fieldLink RX8 28 "RingPagesModel" "readPrice" "[I", .fieldLink RX8 82 "RingPagesModel" "changes" "I"] ++ wsX80)
def wsX8_init_r1 : List Cond := [Cond.methodLink RX8 1 objectInit, Cond.instanceMethod objectInit, Cond.code objectInit ⟨#[0xb1]⟩ 1 none, Cond.arrayClass .int, Cond.fieldLink RX8 7 "RingPagesModel" "text" "[I", Cond.fieldLink RX8 13 "RingPagesModel" "weight" "[I", Cond.fieldLink RX8 16 "RingPagesModel" "price" "[I", Cond.fieldLink RX8 19 "RingPagesModel" "now" "[I", Cond.fieldLink RX8 22 "RingPagesModel" "was" "[I", Cond.fieldLink RX8 25 "RingPagesModel" "readWeight" "[I", Cond.fieldLink RX8 28 "RingPagesModel" "readPrice" "[I", Cond.fieldLink RX8 31 "RingPagesModel" "read" "[I", Cond.fieldLink RX8 34 "RingPagesModel" "can" "[I", Cond.fieldLink RX8 37 "RingPagesModel" "next" "[I", Cond.arrayClass .long, Cond.fieldLink RX8 40 "RingPagesModel" "trees" "[J", Cond.fieldLink RX8 44 "RingPagesModel" "table" "[J", Cond.fieldLink RX8 47 "RingPagesModel" "tried" "[I", Cond.fieldLink RX8 50 "RingPagesModel" "best" "[I", Cond.fieldLink RX8 53 "RingPagesModel" "row" "[I", Cond.fieldLink RX8 56 "RingPagesModel" "walker" "[I", Cond.fieldLink RX8 62 "RingPagesModel" "readCells" "I", Cond.methodLink RX8 59 yX8_clears, Cond.instanceMethod yX8_clears]
def wsX8_init_r2 : List Cond := [Cond.selects RX8 yX8_clears yX8_clears, Cond.initialized RX8, Cond.code yX8_clears cX8_clears 2 none, Cond.fieldLink RX8 73 "RingPagesModel" "readJoins" "I", Cond.methodLink RX8 66 yX8_joinOf, Cond.instanceMethod yX8_joinOf, Cond.selects RX8 yX8_joinOf yX8_joinOf, Cond.code yX8_joinOf cX8_joinOf 5 none, Cond.methodLink RX8 70 yX8_takes, Cond.instanceMethod yX8_takes, Cond.selects RX8 yX8_takes yX8_takes, Cond.code yX8_takes cX8_takes 2 none, Cond.fieldLink RX8 76 "RingPagesModel" "cells" "I", Cond.fieldLink RX8 79 "RingPagesModel" "joins" "I", Cond.fieldLink RX8 82 "RingPagesModel" "changes" "I"]
def wsX8_init : List Cond := .code yX8_init cX8_init 1 none :: ((wsX8_init_r1 ++ wsX8_init_r2) ++ wsX80)
def wsX8_isIn : List Cond := .code yX8_isIn cX8_isIn 3 (some .boolean) :: ([])
def wsX8_letterAt : List Cond := .code yX8_letterAt cX8_letterAt 2 (some .int) :: ([.fieldLink RX8 85 "RingPagesModel" "length" "I", .fieldLink RX8 7 "RingPagesModel" "text" "[I"] ++ wsX80)
def wsX8_number : List Cond := .code yX8_number cX8_number 4 (some .boolean) :: ([.fieldLink RX8 88 "RingPagesModel" "value" "I", .fieldLink RX8 91 "RingPagesModel" "ends" "I", .fieldLink RX8 7 "RingPagesModel" "text" "[I", .methodLink RX8 94 yX8_letterAt, .instanceMethod yX8_letterAt, .selects RX8 yX8_letterAt yX8_letterAt, .initialized RX8, .code yX8_letterAt cX8_letterAt 2 (some .int), .fieldLink RX8 85 "RingPagesModel" "length" "I", .methodLink RX8 98 yX8_isIn, .static yX8_isIn, .code yX8_isIn cX8_isIn 3 (some .boolean)] ++ wsX80)
def wsX8_more : List Cond := .code yX8_more cX8_more 3 (some .boolean) :: ([.fieldLink RX8 91 "RingPagesModel" "ends" "I", .methodLink RX8 94 yX8_letterAt, .instanceMethod yX8_letterAt, .selects RX8 yX8_letterAt yX8_letterAt, .initialized RX8, .code yX8_letterAt cX8_letterAt 2 (some .int), .fieldLink RX8 85 "RingPagesModel" "length" "I", .fieldLink RX8 7 "RingPagesModel" "text" "[I", .methodLink RX8 102 yX8_number, .instanceMethod yX8_number, .selects RX8 yX8_number yX8_number, .code yX8_number cX8_number 4 (some .boolean), .fieldLink RX8 88 "RingPagesModel" "value" "I", .methodLink RX8 98 yX8_isIn, .static yX8_isIn, .code yX8_isIn cX8_isIn 3 (some .boolean)] ++ wsX80)
def wsX8_readsJoin_r1 : List Cond := [Cond.fieldLink RX8 62 "RingPagesModel" "readCells" "I", Cond.fieldLink RX8 88 "RingPagesModel" "value" "I", Cond.fieldLink RX8 25 "RingPagesModel" "readWeight" "[I", Cond.methodLink RX8 102 yX8_number, Cond.instanceMethod yX8_number, Cond.selects RX8 yX8_number yX8_number, Cond.initialized RX8, Cond.code yX8_number cX8_number 4 (some .boolean), Cond.fieldLink RX8 91 "RingPagesModel" "ends" "I", Cond.fieldLink RX8 7 "RingPagesModel" "text" "[I", Cond.methodLink RX8 94 yX8_letterAt, Cond.instanceMethod yX8_letterAt, Cond.selects RX8 yX8_letterAt yX8_letterAt, Cond.code yX8_letterAt cX8_letterAt 2 (some .int), Cond.fieldLink RX8 85 "RingPagesModel" "length" "I", Cond.methodLink RX8 98 yX8_isIn, Cond.static yX8_isIn, Cond.code yX8_isIn cX8_isIn 3 (some .boolean), Cond.methodLink RX8 105 yX8_more, Cond.instanceMethod yX8_more, Cond.selects RX8 yX8_more yX8_more, Cond.code yX8_more cX8_more 3 (some .boolean), Cond.methodLink RX8 66 yX8_joinOf, Cond.instanceMethod yX8_joinOf]
def wsX8_readsJoin_r2 : List Cond := [Cond.selects RX8 yX8_joinOf yX8_joinOf, Cond.code yX8_joinOf cX8_joinOf 5 none, Cond.fieldLink RX8 73 "RingPagesModel" "readJoins" "I"]
def wsX8_readsJoin : List Cond := .code yX8_readsJoin cX8_readsJoin 5 (some .boolean) :: ((wsX8_readsJoin_r1 ++ wsX8_readsJoin_r2) ++ wsX80)
def wsX8_readsCell : List Cond := .code yX8_readsCell cX8_readsCell 5 (some .boolean) :: ([.fieldLink RX8 62 "RingPagesModel" "readCells" "I", .fieldLink RX8 88 "RingPagesModel" "value" "I", .fieldLink RX8 31 "RingPagesModel" "read" "[I", .methodLink RX8 102 yX8_number, .instanceMethod yX8_number, .selects RX8 yX8_number yX8_number, .initialized RX8, .code yX8_number cX8_number 4 (some .boolean), .fieldLink RX8 91 "RingPagesModel" "ends" "I", .fieldLink RX8 7 "RingPagesModel" "text" "[I", .methodLink RX8 94 yX8_letterAt, .instanceMethod yX8_letterAt, .selects RX8 yX8_letterAt yX8_letterAt, .code yX8_letterAt cX8_letterAt 2 (some .int), .fieldLink RX8 85 "RingPagesModel" "length" "I", .methodLink RX8 98 yX8_isIn, .static yX8_isIn, .code yX8_isIn cX8_isIn 3 (some .boolean), .methodLink RX8 105 yX8_more, .instanceMethod yX8_more, .selects RX8 yX8_more yX8_more, .code yX8_more cX8_more 3 (some .boolean)] ++ wsX80)
def wsX8_isLaw : List Cond := .code yX8_isLaw cX8_isLaw 2 (some .boolean) :: ([.methodLink RX8 98 yX8_isIn, .static yX8_isIn, .initialized RX8, .code yX8_isIn cX8_isIn 3 (some .boolean)])
def wsX8_readsLaw : List Cond := .code yX8_readsLaw cX8_readsLaw 4 (some .boolean) :: ([.fieldLink RX8 88 "RingPagesModel" "value" "I", .fieldLink RX8 31 "RingPagesModel" "read" "[I", .methodLink RX8 102 yX8_number, .instanceMethod yX8_number, .selects RX8 yX8_number yX8_number, .initialized RX8, .code yX8_number cX8_number 4 (some .boolean), .fieldLink RX8 91 "RingPagesModel" "ends" "I", .fieldLink RX8 7 "RingPagesModel" "text" "[I", .methodLink RX8 94 yX8_letterAt, .instanceMethod yX8_letterAt, .selects RX8 yX8_letterAt yX8_letterAt, .code yX8_letterAt cX8_letterAt 2 (some .int), .fieldLink RX8 85 "RingPagesModel" "length" "I", .methodLink RX8 98 yX8_isIn, .static yX8_isIn, .code yX8_isIn cX8_isIn 3 (some .boolean), .methodLink RX8 105 yX8_more, .instanceMethod yX8_more, .selects RX8 yX8_more yX8_more, .code yX8_more cX8_more 3 (some .boolean), .methodLink RX8 109 yX8_isLaw, .static yX8_isLaw, .code yX8_isLaw cX8_isLaw 2 (some .boolean)] ++ wsX80)
def wsX8_readsPrice : List Cond := .code yX8_readsPrice cX8_readsPrice 5 (some .boolean) :: ([.fieldLink RX8 28 "RingPagesModel" "readPrice" "[I", .fieldLink RX8 88 "RingPagesModel" "value" "I", .methodLink RX8 102 yX8_number, .instanceMethod yX8_number, .selects RX8 yX8_number yX8_number, .initialized RX8, .code yX8_number cX8_number 4 (some .boolean), .fieldLink RX8 91 "RingPagesModel" "ends" "I", .fieldLink RX8 7 "RingPagesModel" "text" "[I", .methodLink RX8 94 yX8_letterAt, .instanceMethod yX8_letterAt, .selects RX8 yX8_letterAt yX8_letterAt, .code yX8_letterAt cX8_letterAt 2 (some .int), .fieldLink RX8 85 "RingPagesModel" "length" "I", .methodLink RX8 98 yX8_isIn, .static yX8_isIn, .code yX8_isIn cX8_isIn 3 (some .boolean), .methodLink RX8 105 yX8_more, .instanceMethod yX8_more, .selects RX8 yX8_more yX8_more, .code yX8_more cX8_more 3 (some .boolean)] ++ wsX80)
def wsX8_readsItem_r1 : List Cond := [Cond.fieldLink RX8 88 "RingPagesModel" "value" "I", Cond.fieldLink RX8 62 "RingPagesModel" "readCells" "I", Cond.methodLink RX8 102 yX8_number, Cond.instanceMethod yX8_number, Cond.selects RX8 yX8_number yX8_number, Cond.initialized RX8, Cond.code yX8_number cX8_number 4 (some .boolean), Cond.fieldLink RX8 91 "RingPagesModel" "ends" "I", Cond.fieldLink RX8 7 "RingPagesModel" "text" "[I", Cond.methodLink RX8 94 yX8_letterAt, Cond.instanceMethod yX8_letterAt, Cond.selects RX8 yX8_letterAt yX8_letterAt, Cond.code yX8_letterAt cX8_letterAt 2 (some .int), Cond.fieldLink RX8 85 "RingPagesModel" "length" "I", Cond.methodLink RX8 98 yX8_isIn, Cond.static yX8_isIn, Cond.code yX8_isIn cX8_isIn 3 (some .boolean), Cond.methodLink RX8 112 yX8_readsJoin, Cond.instanceMethod yX8_readsJoin, Cond.selects RX8 yX8_readsJoin yX8_readsJoin, Cond.code yX8_readsJoin cX8_readsJoin 5 (some .boolean), Cond.fieldLink RX8 25 "RingPagesModel" "readWeight" "[I", Cond.methodLink RX8 105 yX8_more, Cond.instanceMethod yX8_more]
def wsX8_readsItem_r2 : List Cond := [Cond.selects RX8 yX8_more yX8_more, Cond.code yX8_more cX8_more 3 (some .boolean), Cond.methodLink RX8 66 yX8_joinOf, Cond.instanceMethod yX8_joinOf, Cond.selects RX8 yX8_joinOf yX8_joinOf, Cond.code yX8_joinOf cX8_joinOf 5 none, Cond.fieldLink RX8 73 "RingPagesModel" "readJoins" "I", Cond.methodLink RX8 116 yX8_readsCell, Cond.instanceMethod yX8_readsCell, Cond.selects RX8 yX8_readsCell yX8_readsCell, Cond.code yX8_readsCell cX8_readsCell 5 (some .boolean), Cond.fieldLink RX8 31 "RingPagesModel" "read" "[I", Cond.methodLink RX8 119 yX8_readsLaw, Cond.instanceMethod yX8_readsLaw, Cond.selects RX8 yX8_readsLaw yX8_readsLaw, Cond.code yX8_readsLaw cX8_readsLaw 4 (some .boolean), Cond.methodLink RX8 109 yX8_isLaw, Cond.static yX8_isLaw, Cond.code yX8_isLaw cX8_isLaw 2 (some .boolean), Cond.methodLink RX8 122 yX8_readsPrice, Cond.instanceMethod yX8_readsPrice, Cond.selects RX8 yX8_readsPrice yX8_readsPrice, Cond.code yX8_readsPrice cX8_readsPrice 5 (some .boolean), Cond.fieldLink RX8 28 "RingPagesModel" "readPrice" "[I"]
def wsX8_readsItem : List Cond := .code yX8_readsItem cX8_readsItem 4 (some .boolean) :: ((wsX8_readsItem_r1 ++ wsX8_readsItem_r2) ++ wsX80)
def wsX8_reads_r1 : List Cond := [Cond.fieldLink RX8 85 "RingPagesModel" "length" "I", Cond.fieldLink RX8 7 "RingPagesModel" "text" "[I", Cond.fieldLink RX8 91 "RingPagesModel" "ends" "I", Cond.methodLink RX8 59 yX8_clears, Cond.instanceMethod yX8_clears, Cond.selects RX8 yX8_clears yX8_clears, Cond.initialized RX8, Cond.code yX8_clears cX8_clears 2 none, Cond.fieldLink RX8 62 "RingPagesModel" "readCells" "I", Cond.fieldLink RX8 73 "RingPagesModel" "readJoins" "I", Cond.fieldLink RX8 25 "RingPagesModel" "readWeight" "[I", Cond.fieldLink RX8 31 "RingPagesModel" "read" "[I", Cond.fieldLink RX8 28 "RingPagesModel" "readPrice" "[I", Cond.methodLink RX8 125 yX8_readsItem, Cond.instanceMethod yX8_readsItem, Cond.selects RX8 yX8_readsItem yX8_readsItem, Cond.code yX8_readsItem cX8_readsItem 4 (some .boolean), Cond.fieldLink RX8 88 "RingPagesModel" "value" "I", Cond.methodLink RX8 102 yX8_number, Cond.instanceMethod yX8_number, Cond.selects RX8 yX8_number yX8_number, Cond.code yX8_number cX8_number 4 (some .boolean), Cond.methodLink RX8 94 yX8_letterAt, Cond.instanceMethod yX8_letterAt]
def wsX8_reads_r2 : List Cond := [Cond.selects RX8 yX8_letterAt yX8_letterAt, Cond.code yX8_letterAt cX8_letterAt 2 (some .int), Cond.methodLink RX8 98 yX8_isIn, Cond.static yX8_isIn, Cond.code yX8_isIn cX8_isIn 3 (some .boolean), Cond.methodLink RX8 112 yX8_readsJoin, Cond.instanceMethod yX8_readsJoin, Cond.selects RX8 yX8_readsJoin yX8_readsJoin, Cond.code yX8_readsJoin cX8_readsJoin 5 (some .boolean), Cond.methodLink RX8 105 yX8_more, Cond.instanceMethod yX8_more, Cond.selects RX8 yX8_more yX8_more, Cond.code yX8_more cX8_more 3 (some .boolean), Cond.methodLink RX8 66 yX8_joinOf, Cond.instanceMethod yX8_joinOf, Cond.selects RX8 yX8_joinOf yX8_joinOf, Cond.code yX8_joinOf cX8_joinOf 5 none, Cond.methodLink RX8 116 yX8_readsCell, Cond.instanceMethod yX8_readsCell, Cond.selects RX8 yX8_readsCell yX8_readsCell, Cond.code yX8_readsCell cX8_readsCell 5 (some .boolean), Cond.methodLink RX8 119 yX8_readsLaw, Cond.instanceMethod yX8_readsLaw, Cond.selects RX8 yX8_readsLaw yX8_readsLaw]
def wsX8_reads_r3 : List Cond := [Cond.code yX8_readsLaw cX8_readsLaw 4 (some .boolean), Cond.methodLink RX8 109 yX8_isLaw, Cond.static yX8_isLaw, Cond.code yX8_isLaw cX8_isLaw 2 (some .boolean), Cond.methodLink RX8 122 yX8_readsPrice, Cond.instanceMethod yX8_readsPrice, Cond.selects RX8 yX8_readsPrice yX8_readsPrice, Cond.code yX8_readsPrice cX8_readsPrice 5 (some .boolean)]
def wsX8_reads : List Cond := .code yX8_reads cX8_reads 2 (some .int) :: ((wsX8_reads_r1 ++ (wsX8_reads_r2 ++ wsX8_reads_r3)) ++ wsX80)
def wsX8_hang : List Cond := .code yX8_hang cX8_hang 4 (some .boolean) :: ([.fieldLink RX8 62 "RingPagesModel" "readCells" "I", .fieldLink RX8 25 "RingPagesModel" "readWeight" "[I"] ++ wsX80)
def wsX8_write : List Cond := .code yX8_write cX8_write 2 (some .int) :: ([.fieldLink RX8 85 "RingPagesModel" "length" "I", .fieldLink RX8 7 "RingPagesModel" "text" "[I"] ++ wsX80)
def wsX8_wipe : List Cond := .code yX8_wipe cX8_wipe 2 (some .int) :: ([.fieldLink RX8 85 "RingPagesModel" "length" "I"] ++ wsX80)
def wsX8_fault_r1 : List Cond := [Cond.methodLink RX8 128 yX8_reads, Cond.instanceMethod yX8_reads, Cond.selects RX8 yX8_reads yX8_reads, Cond.initialized RX8, Cond.code yX8_reads cX8_reads 2 (some .int), Cond.fieldLink RX8 85 "RingPagesModel" "length" "I", Cond.fieldLink RX8 7 "RingPagesModel" "text" "[I", Cond.fieldLink RX8 91 "RingPagesModel" "ends" "I", Cond.methodLink RX8 59 yX8_clears, Cond.instanceMethod yX8_clears, Cond.selects RX8 yX8_clears yX8_clears, Cond.code yX8_clears cX8_clears 2 none, Cond.fieldLink RX8 62 "RingPagesModel" "readCells" "I", Cond.fieldLink RX8 73 "RingPagesModel" "readJoins" "I", Cond.fieldLink RX8 25 "RingPagesModel" "readWeight" "[I", Cond.fieldLink RX8 31 "RingPagesModel" "read" "[I", Cond.fieldLink RX8 28 "RingPagesModel" "readPrice" "[I", Cond.methodLink RX8 125 yX8_readsItem, Cond.instanceMethod yX8_readsItem, Cond.selects RX8 yX8_readsItem yX8_readsItem, Cond.code yX8_readsItem cX8_readsItem 4 (some .boolean), Cond.fieldLink RX8 88 "RingPagesModel" "value" "I", Cond.methodLink RX8 102 yX8_number, Cond.instanceMethod yX8_number]
def wsX8_fault_r2 : List Cond := [Cond.selects RX8 yX8_number yX8_number, Cond.code yX8_number cX8_number 4 (some .boolean), Cond.methodLink RX8 94 yX8_letterAt, Cond.instanceMethod yX8_letterAt, Cond.selects RX8 yX8_letterAt yX8_letterAt, Cond.code yX8_letterAt cX8_letterAt 2 (some .int), Cond.methodLink RX8 98 yX8_isIn, Cond.static yX8_isIn, Cond.code yX8_isIn cX8_isIn 3 (some .boolean), Cond.methodLink RX8 112 yX8_readsJoin, Cond.instanceMethod yX8_readsJoin, Cond.selects RX8 yX8_readsJoin yX8_readsJoin, Cond.code yX8_readsJoin cX8_readsJoin 5 (some .boolean), Cond.methodLink RX8 105 yX8_more, Cond.instanceMethod yX8_more, Cond.selects RX8 yX8_more yX8_more, Cond.code yX8_more cX8_more 3 (some .boolean), Cond.methodLink RX8 66 yX8_joinOf, Cond.instanceMethod yX8_joinOf, Cond.selects RX8 yX8_joinOf yX8_joinOf, Cond.code yX8_joinOf cX8_joinOf 5 none, Cond.methodLink RX8 116 yX8_readsCell, Cond.instanceMethod yX8_readsCell, Cond.selects RX8 yX8_readsCell yX8_readsCell]
def wsX8_fault_r3 : List Cond := [Cond.code yX8_readsCell cX8_readsCell 5 (some .boolean), Cond.methodLink RX8 119 yX8_readsLaw, Cond.instanceMethod yX8_readsLaw, Cond.selects RX8 yX8_readsLaw yX8_readsLaw, Cond.code yX8_readsLaw cX8_readsLaw 4 (some .boolean), Cond.methodLink RX8 109 yX8_isLaw, Cond.static yX8_isLaw, Cond.code yX8_isLaw cX8_isLaw 2 (some .boolean), Cond.methodLink RX8 122 yX8_readsPrice, Cond.instanceMethod yX8_readsPrice, Cond.selects RX8 yX8_readsPrice yX8_readsPrice, Cond.code yX8_readsPrice cX8_readsPrice 5 (some .boolean)]
def wsX8_fault : List Cond := .code yX8_fault cX8_fault 1 (some .int) :: ((wsX8_fault_r1 ++ (wsX8_fault_r2 ++ wsX8_fault_r3)) ++ wsX80)
def wsX8_lay_r1 : List Cond := [Cond.fieldLink RX8 76 "RingPagesModel" "cells" "I", Cond.methodLink RX8 128 yX8_reads, Cond.instanceMethod yX8_reads, Cond.selects RX8 yX8_reads yX8_reads, Cond.initialized RX8, Cond.code yX8_reads cX8_reads 2 (some .int), Cond.fieldLink RX8 85 "RingPagesModel" "length" "I", Cond.fieldLink RX8 7 "RingPagesModel" "text" "[I", Cond.fieldLink RX8 91 "RingPagesModel" "ends" "I", Cond.methodLink RX8 59 yX8_clears, Cond.instanceMethod yX8_clears, Cond.selects RX8 yX8_clears yX8_clears, Cond.code yX8_clears cX8_clears 2 none, Cond.fieldLink RX8 62 "RingPagesModel" "readCells" "I", Cond.fieldLink RX8 73 "RingPagesModel" "readJoins" "I", Cond.fieldLink RX8 25 "RingPagesModel" "readWeight" "[I", Cond.fieldLink RX8 31 "RingPagesModel" "read" "[I", Cond.fieldLink RX8 28 "RingPagesModel" "readPrice" "[I", Cond.methodLink RX8 125 yX8_readsItem, Cond.instanceMethod yX8_readsItem, Cond.selects RX8 yX8_readsItem yX8_readsItem, Cond.code yX8_readsItem cX8_readsItem 4 (some .boolean), Cond.fieldLink RX8 88 "RingPagesModel" "value" "I", Cond.methodLink RX8 102 yX8_number]
def wsX8_lay_r2 : List Cond := [Cond.instanceMethod yX8_number, Cond.selects RX8 yX8_number yX8_number, Cond.code yX8_number cX8_number 4 (some .boolean), Cond.methodLink RX8 94 yX8_letterAt, Cond.instanceMethod yX8_letterAt, Cond.selects RX8 yX8_letterAt yX8_letterAt, Cond.code yX8_letterAt cX8_letterAt 2 (some .int), Cond.methodLink RX8 98 yX8_isIn, Cond.static yX8_isIn, Cond.code yX8_isIn cX8_isIn 3 (some .boolean), Cond.methodLink RX8 112 yX8_readsJoin, Cond.instanceMethod yX8_readsJoin, Cond.selects RX8 yX8_readsJoin yX8_readsJoin, Cond.code yX8_readsJoin cX8_readsJoin 5 (some .boolean), Cond.methodLink RX8 105 yX8_more, Cond.instanceMethod yX8_more, Cond.selects RX8 yX8_more yX8_more, Cond.code yX8_more cX8_more 3 (some .boolean), Cond.methodLink RX8 66 yX8_joinOf, Cond.instanceMethod yX8_joinOf, Cond.selects RX8 yX8_joinOf yX8_joinOf, Cond.code yX8_joinOf cX8_joinOf 5 none, Cond.methodLink RX8 116 yX8_readsCell, Cond.instanceMethod yX8_readsCell]
def wsX8_lay_r3 : List Cond := [Cond.selects RX8 yX8_readsCell yX8_readsCell, Cond.code yX8_readsCell cX8_readsCell 5 (some .boolean), Cond.methodLink RX8 119 yX8_readsLaw, Cond.instanceMethod yX8_readsLaw, Cond.selects RX8 yX8_readsLaw yX8_readsLaw, Cond.code yX8_readsLaw cX8_readsLaw 4 (some .boolean), Cond.methodLink RX8 109 yX8_isLaw, Cond.static yX8_isLaw, Cond.code yX8_isLaw cX8_isLaw 2 (some .boolean), Cond.methodLink RX8 122 yX8_readsPrice, Cond.instanceMethod yX8_readsPrice, Cond.selects RX8 yX8_readsPrice yX8_readsPrice, Cond.code yX8_readsPrice cX8_readsPrice 5 (some .boolean), Cond.methodLink RX8 132 yX8_hang, Cond.instanceMethod yX8_hang, Cond.selects RX8 yX8_hang yX8_hang, Cond.code yX8_hang cX8_hang 4 (some .boolean), Cond.methodLink RX8 70 yX8_takes, Cond.instanceMethod yX8_takes, Cond.selects RX8 yX8_takes yX8_takes, Cond.code yX8_takes cX8_takes 2 none, Cond.fieldLink RX8 79 "RingPagesModel" "joins" "I", Cond.fieldLink RX8 13 "RingPagesModel" "weight" "[I", Cond.fieldLink RX8 19 "RingPagesModel" "now" "[I"]
def wsX8_lay_r4 : List Cond := [Cond.fieldLink RX8 16 "RingPagesModel" "price" "[I", Cond.fieldLink RX8 82 "RingPagesModel" "changes" "I"]
def wsX8_lay : List Cond := .code yX8_lay cX8_lay 1 (some .int) :: ((wsX8_lay_r1 ++ (wsX8_lay_r2 ++ (wsX8_lay_r3 ++ wsX8_lay_r4))) ++ wsX80)
def wsX8_keeps : List Cond := .code yX8_keeps cX8_keeps 2 none :: ([.fieldLink RX8 82 "RingPagesModel" "changes" "I", .fieldLink RX8 22 "RingPagesModel" "was" "[I", .fieldLink RX8 19 "RingPagesModel" "now" "[I"] ++ wsX80)
def wsX8_undo : List Cond := .code yX8_undo cX8_undo 2 (some .int) :: ([.fieldLink RX8 82 "RingPagesModel" "changes" "I", .fieldLink RX8 19 "RingPagesModel" "now" "[I", .fieldLink RX8 22 "RingPagesModel" "was" "[I"] ++ wsX80)
def wsX8_isCell : List Cond := .code yX8_isCell cX8_isCell 2 (some .boolean) :: ([.fieldLink RX8 76 "RingPagesModel" "cells" "I", .methodLink RX8 98 yX8_isIn, .static yX8_isIn, .initialized RX8, .code yX8_isIn cX8_isIn 3 (some .boolean)] ++ wsX80)
def wsX8_registers : List Cond := .code yX8_registers cX8_registers 1 none :: ([])
def wsX8_set : List Cond := .code yX8_set cX8_set 5 (some .int) :: ([.fieldLink RX8 19 "RingPagesModel" "now" "[I", .methodLink RX8 136 yX8_isCell, .instanceMethod yX8_isCell, .selects RX8 yX8_isCell yX8_isCell, .initialized RX8, .code yX8_isCell cX8_isCell 2 (some .boolean), .fieldLink RX8 76 "RingPagesModel" "cells" "I", .methodLink RX8 98 yX8_isIn, .static yX8_isIn, .code yX8_isIn cX8_isIn 3 (some .boolean), .methodLink RX8 139 yX8_keeps, .instanceMethod yX8_keeps, .selects RX8 yX8_keeps yX8_keeps, .code yX8_keeps cX8_keeps 2 none, .fieldLink RX8 82 "RingPagesModel" "changes" "I", .fieldLink RX8 22 "RingPagesModel" "was" "[I", .methodLink RX8 142 yX8_registers, .static yX8_registers, .code yX8_registers cX8_registers 1 none] ++ wsX80)
def wsX8_law : List Cond := .code yX8_law cX8_law 4 (some .int) :: ([.fieldLink RX8 19 "RingPagesModel" "now" "[I", .methodLink RX8 109 yX8_isLaw, .static yX8_isLaw, .initialized RX8, .code yX8_isLaw cX8_isLaw 2 (some .boolean), .methodLink RX8 98 yX8_isIn, .static yX8_isIn, .code yX8_isIn cX8_isIn 3 (some .boolean), .methodLink RX8 139 yX8_keeps, .instanceMethod yX8_keeps, .selects RX8 yX8_keeps yX8_keeps, .code yX8_keeps cX8_keeps 2 none, .fieldLink RX8 82 "RingPagesModel" "changes" "I", .fieldLink RX8 22 "RingPagesModel" "was" "[I", .methodLink RX8 142 yX8_registers, .static yX8_registers, .code yX8_registers cX8_registers 1 none] ++ wsX80)
def wsX8_out : List Cond := .code yX8_out cX8_out 4 (some .int) :: ([.fieldLink RX8 76 "RingPagesModel" "cells" "I", .fieldLink RX8 13 "RingPagesModel" "weight" "[I"] ++ wsX80)
def wsX8_sum : List Cond := .code yX8_sum cX8_sum 2 (some .int) :: ([.fieldLink RX8 19 "RingPagesModel" "now" "[I", .methodLink RX8 146 yX8_out, .instanceMethod yX8_out, .selects RX8 yX8_out yX8_out, .initialized RX8, .code yX8_out cX8_out 4 (some .int), .fieldLink RX8 76 "RingPagesModel" "cells" "I", .fieldLink RX8 13 "RingPagesModel" "weight" "[I"] ++ wsX80)
def wsX8_joined : List Cond := .code yX8_joined cX8_joined 4 (some .int) :: ([.fieldLink RX8 76 "RingPagesModel" "cells" "I", .fieldLink RX8 13 "RingPagesModel" "weight" "[I"] ++ wsX80)
def wsX8_likeArea : List Cond := .code yX8_likeArea cX8_likeArea 4 (some .int) :: ([.fieldLink RX8 76 "RingPagesModel" "cells" "I", .fieldLink RX8 19 "RingPagesModel" "now" "[I"] ++ wsX80)
def wsX8_cell_r1 : List Cond := [Cond.fieldLink RX8 19 "RingPagesModel" "now" "[I", Cond.methodLink RX8 136 yX8_isCell, Cond.instanceMethod yX8_isCell, Cond.selects RX8 yX8_isCell yX8_isCell, Cond.initialized RX8, Cond.code yX8_isCell cX8_isCell 2 (some .boolean), Cond.fieldLink RX8 76 "RingPagesModel" "cells" "I", Cond.methodLink RX8 98 yX8_isIn, Cond.static yX8_isIn, Cond.code yX8_isIn cX8_isIn 3 (some .boolean), Cond.methodLink RX8 149 yX8_sum, Cond.instanceMethod yX8_sum, Cond.selects RX8 yX8_sum yX8_sum, Cond.code yX8_sum cX8_sum 2 (some .int), Cond.methodLink RX8 146 yX8_out, Cond.instanceMethod yX8_out, Cond.selects RX8 yX8_out yX8_out, Cond.code yX8_out cX8_out 4 (some .int), Cond.fieldLink RX8 13 "RingPagesModel" "weight" "[I", Cond.methodLink RX8 152 yX8_joined, Cond.instanceMethod yX8_joined, Cond.selects RX8 yX8_joined yX8_joined, Cond.code yX8_joined cX8_joined 4 (some .int), Cond.methodLink RX8 155 yX8_likeArea]
def wsX8_cell_r2 : List Cond := [Cond.instanceMethod yX8_likeArea, Cond.selects RX8 yX8_likeArea yX8_likeArea, Cond.code yX8_likeArea cX8_likeArea 4 (some .int)]
def wsX8_cell : List Cond := .code yX8_cell cX8_cell 3 (some .int) :: ((wsX8_cell_r1 ++ wsX8_cell_r2) ++ wsX80)
def wsX8_weight : List Cond := .code yX8_weight cX8_weight 3 (some .int) :: ([.fieldLink RX8 13 "RingPagesModel" "weight" "[I", .methodLink RX8 136 yX8_isCell, .instanceMethod yX8_isCell, .selects RX8 yX8_isCell yX8_isCell, .initialized RX8, .code yX8_isCell cX8_isCell 2 (some .boolean), .fieldLink RX8 76 "RingPagesModel" "cells" "I", .methodLink RX8 98 yX8_isIn, .static yX8_isIn, .code yX8_isIn cX8_isIn 3 (some .boolean)] ++ wsX80)
def wsX8_far : List Cond := .code yX8_far cX8_far 7 (some .int) :: ([.fieldLink RX8 76 "RingPagesModel" "cells" "I", .methodLink RX8 152 yX8_joined, .instanceMethod yX8_joined, .selects RX8 yX8_joined yX8_joined, .initialized RX8, .code yX8_joined cX8_joined 4 (some .int), .fieldLink RX8 13 "RingPagesModel" "weight" "[I"] ++ wsX80)
def wsX8_wide : List Cond := .code yX8_wide cX8_wide 3 (some .int) :: ([.methodLink RX8 136 yX8_isCell, .instanceMethod yX8_isCell, .selects RX8 yX8_isCell yX8_isCell, .initialized RX8, .code yX8_isCell cX8_isCell 2 (some .boolean), .fieldLink RX8 76 "RingPagesModel" "cells" "I", .methodLink RX8 98 yX8_isIn, .static yX8_isIn, .code yX8_isIn cX8_isIn 3 (some .boolean), .methodLink RX8 158 yX8_far, .instanceMethod yX8_far, .selects RX8 yX8_far yX8_far, .code yX8_far cX8_far 7 (some .int), .methodLink RX8 152 yX8_joined, .instanceMethod yX8_joined, .selects RX8 yX8_joined yX8_joined, .code yX8_joined cX8_joined 4 (some .int), .fieldLink RX8 13 "RingPagesModel" "weight" "[I"] ++ wsX80)
def wsX8_isDue : List Cond := .code yX8_isDue cX8_isDue 2 (some .boolean) :: ([.fieldLink RX8 19 "RingPagesModel" "now" "[I", .methodLink RX8 158 yX8_far, .instanceMethod yX8_far, .selects RX8 yX8_far yX8_far, .initialized RX8, .code yX8_far cX8_far 7 (some .int), .fieldLink RX8 76 "RingPagesModel" "cells" "I", .methodLink RX8 152 yX8_joined, .instanceMethod yX8_joined, .selects RX8 yX8_joined yX8_joined, .code yX8_joined cX8_joined 4 (some .int), .fieldLink RX8 13 "RingPagesModel" "weight" "[I"] ++ wsX80)
def wsX8_goes : List Cond := .code yX8_goes cX8_goes 3 (some .int) :: ([.methodLink RX8 162 yX8_isDue, .instanceMethod yX8_isDue, .selects RX8 yX8_isDue yX8_isDue, .initialized RX8, .code yX8_isDue cX8_isDue 2 (some .boolean), .fieldLink RX8 19 "RingPagesModel" "now" "[I", .methodLink RX8 158 yX8_far, .instanceMethod yX8_far, .selects RX8 yX8_far yX8_far, .code yX8_far cX8_far 7 (some .int), .fieldLink RX8 76 "RingPagesModel" "cells" "I", .methodLink RX8 152 yX8_joined, .instanceMethod yX8_joined, .selects RX8 yX8_joined yX8_joined, .code yX8_joined cX8_joined 4 (some .int), .fieldLink RX8 13 "RingPagesModel" "weight" "[I", .methodLink RX8 142 yX8_registers, .static yX8_registers, .code yX8_registers cX8_registers 1 none] ++ wsX80)
def wsX8_tick_r1 : List Cond := [Cond.fieldLink RX8 19 "RingPagesModel" "now" "[I", Cond.fieldLink RX8 13 "RingPagesModel" "weight" "[I", Cond.methodLink RX8 136 yX8_isCell, Cond.instanceMethod yX8_isCell, Cond.selects RX8 yX8_isCell yX8_isCell, Cond.initialized RX8, Cond.code yX8_isCell cX8_isCell 2 (some .boolean), Cond.fieldLink RX8 76 "RingPagesModel" "cells" "I", Cond.methodLink RX8 98 yX8_isIn, Cond.static yX8_isIn, Cond.code yX8_isIn cX8_isIn 3 (some .boolean), Cond.methodLink RX8 139 yX8_keeps, Cond.instanceMethod yX8_keeps, Cond.selects RX8 yX8_keeps yX8_keeps, Cond.code yX8_keeps cX8_keeps 2 none, Cond.fieldLink RX8 82 "RingPagesModel" "changes" "I", Cond.fieldLink RX8 22 "RingPagesModel" "was" "[I", Cond.methodLink RX8 166 yX8_goes, Cond.instanceMethod yX8_goes, Cond.selects RX8 yX8_goes yX8_goes, Cond.code yX8_goes cX8_goes 3 (some .int), Cond.methodLink RX8 162 yX8_isDue, Cond.instanceMethod yX8_isDue, Cond.selects RX8 yX8_isDue yX8_isDue]
def wsX8_tick_r2 : List Cond := [Cond.code yX8_isDue cX8_isDue 2 (some .boolean), Cond.methodLink RX8 158 yX8_far, Cond.instanceMethod yX8_far, Cond.selects RX8 yX8_far yX8_far, Cond.code yX8_far cX8_far 7 (some .int), Cond.methodLink RX8 152 yX8_joined, Cond.instanceMethod yX8_joined, Cond.selects RX8 yX8_joined yX8_joined, Cond.code yX8_joined cX8_joined 4 (some .int), Cond.methodLink RX8 142 yX8_registers, Cond.static yX8_registers, Cond.code yX8_registers cX8_registers 1 none]
def wsX8_tick : List Cond := .code yX8_tick cX8_tick 3 (some .int) :: ((wsX8_tick_r1 ++ wsX8_tick_r2) ++ wsX80)
def wsX8_handset : List Cond := .code yX8_handset cX8_handset 2 (some .int) :: ([.fieldLink RX8 19 "RingPagesModel" "now" "[I", .fieldLink RX8 16 "RingPagesModel" "price" "[I", .methodLink RX8 98 yX8_isIn, .static yX8_isIn, .initialized RX8, .code yX8_isIn cX8_isIn 3 (some .boolean)] ++ wsX80)
def wsX8_allowed : List Cond := .code yX8_allowed cX8_allowed 5 (some .int) :: ([.fieldLink RX8 19 "RingPagesModel" "now" "[I", .fieldLink RX8 76 "RingPagesModel" "cells" "I", .methodLink RX8 158 yX8_far, .instanceMethod yX8_far, .selects RX8 yX8_far yX8_far, .initialized RX8, .code yX8_far cX8_far 7 (some .int), .methodLink RX8 152 yX8_joined, .instanceMethod yX8_joined, .selects RX8 yX8_joined yX8_joined, .code yX8_joined cX8_joined 4 (some .int), .fieldLink RX8 13 "RingPagesModel" "weight" "[I"] ++ wsX80)
def wsX8_whereIs : List Cond := .code yX8_whereIs cX8_whereIs 7 (some .int) :: ([.fieldLink RX8 19 "RingPagesModel" "now" "[I", .fieldLink RX8 34 "RingPagesModel" "can" "[I", .fieldLink RX8 37 "RingPagesModel" "next" "[I", .fieldLink RX8 76 "RingPagesModel" "cells" "I", .methodLink RX8 170 yX8_allowed, .instanceMethod yX8_allowed, .selects RX8 yX8_allowed yX8_allowed, .initialized RX8, .code yX8_allowed cX8_allowed 5 (some .int), .methodLink RX8 158 yX8_far, .instanceMethod yX8_far, .selects RX8 yX8_far yX8_far, .code yX8_far cX8_far 7 (some .int), .methodLink RX8 152 yX8_joined, .instanceMethod yX8_joined, .selects RX8 yX8_joined yX8_joined, .code yX8_joined cX8_joined 4 (some .int), .fieldLink RX8 13 "RingPagesModel" "weight" "[I"] ++ wsX80)
def wsX8_where : List Cond := .code yX8_where cX8_where 1 (some .int) :: ([.methodLink RX8 173 yX8_whereIs, .instanceMethod yX8_whereIs, .selects RX8 yX8_whereIs yX8_whereIs, .initialized RX8, .code yX8_whereIs cX8_whereIs 7 (some .int), .fieldLink RX8 19 "RingPagesModel" "now" "[I", .fieldLink RX8 34 "RingPagesModel" "can" "[I", .fieldLink RX8 37 "RingPagesModel" "next" "[I", .fieldLink RX8 76 "RingPagesModel" "cells" "I", .methodLink RX8 170 yX8_allowed, .instanceMethod yX8_allowed, .selects RX8 yX8_allowed yX8_allowed, .code yX8_allowed cX8_allowed 5 (some .int), .methodLink RX8 158 yX8_far, .instanceMethod yX8_far, .selects RX8 yX8_far yX8_far, .code yX8_far cX8_far 7 (some .int), .methodLink RX8 152 yX8_joined, .instanceMethod yX8_joined, .selects RX8 yX8_joined yX8_joined, .code yX8_joined cX8_joined 4 (some .int), .fieldLink RX8 13 "RingPagesModel" "weight" "[I"] ++ wsX80)
def wsX8_determinant : List Cond := .code yX8_determinant cX8_determinant 7 (some .long) :: ([.fieldLink RX8 44 "RingPagesModel" "table" "[J"] ++ wsX80)
def wsX8_grows : List Cond := .code yX8_grows cX8_grows 6 none :: ([.fieldLink RX8 76 "RingPagesModel" "cells" "I", .fieldLink RX8 44 "RingPagesModel" "table" "[J", .fieldLink RX8 13 "RingPagesModel" "weight" "[I", .fieldLink RX8 40 "RingPagesModel" "trees" "[J", .methodLink RX8 146 yX8_out, .instanceMethod yX8_out, .selects RX8 yX8_out yX8_out, .initialized RX8, .code yX8_out cX8_out 4 (some .int), .methodLink RX8 176 yX8_determinant, .instanceMethod yX8_determinant, .selects RX8 yX8_determinant yX8_determinant, .code yX8_determinant cX8_determinant 7 (some .long)] ++ wsX80)
def wsX8_below : List Cond := .code yX8_below cX8_below 4 (some .long) :: ([.fieldLink RX8 76 "RingPagesModel" "cells" "I", .fieldLink RX8 40 "RingPagesModel" "trees" "[J", .methodLink RX8 149 yX8_sum, .instanceMethod yX8_sum, .selects RX8 yX8_sum yX8_sum, .initialized RX8, .code yX8_sum cX8_sum 2 (some .int), .fieldLink RX8 19 "RingPagesModel" "now" "[I", .methodLink RX8 146 yX8_out, .instanceMethod yX8_out, .selects RX8 yX8_out yX8_out, .code yX8_out cX8_out 4 (some .int), .fieldLink RX8 13 "RingPagesModel" "weight" "[I"] ++ wsX80)
def wsX8_common : List Cond := .code yX8_common cX8_common 10 (some .long) :: ([])
def wsX8_term : List Cond := .code yX8_term cX8_term 7 (some .long) :: ([.methodLink RX8 180 yX8_common, .static yX8_common, .initialized RX8, .code yX8_common cX8_common 10 (some .long)])
def wsX8_chance_r1 : List Cond := [Cond.constantLong RX8 184 (-1), Cond.fieldLink RX8 40 "RingPagesModel" "trees" "[J", Cond.methodLink RX8 136 yX8_isCell, Cond.instanceMethod yX8_isCell, Cond.selects RX8 yX8_isCell yX8_isCell, Cond.initialized RX8, Cond.code yX8_isCell cX8_isCell 2 (some .boolean), Cond.fieldLink RX8 76 "RingPagesModel" "cells" "I", Cond.methodLink RX8 98 yX8_isIn, Cond.static yX8_isIn, Cond.code yX8_isIn cX8_isIn 3 (some .boolean), Cond.methodLink RX8 186 yX8_grows, Cond.instanceMethod yX8_grows, Cond.selects RX8 yX8_grows yX8_grows, Cond.code yX8_grows cX8_grows 6 none, Cond.fieldLink RX8 44 "RingPagesModel" "table" "[J", Cond.fieldLink RX8 13 "RingPagesModel" "weight" "[I", Cond.methodLink RX8 146 yX8_out, Cond.instanceMethod yX8_out, Cond.selects RX8 yX8_out yX8_out, Cond.code yX8_out cX8_out 4 (some .int), Cond.methodLink RX8 176 yX8_determinant, Cond.instanceMethod yX8_determinant, Cond.selects RX8 yX8_determinant yX8_determinant]
def wsX8_chance_r2 : List Cond := [Cond.code yX8_determinant cX8_determinant 7 (some .long), Cond.methodLink RX8 149 yX8_sum, Cond.instanceMethod yX8_sum, Cond.selects RX8 yX8_sum yX8_sum, Cond.code yX8_sum cX8_sum 2 (some .int), Cond.fieldLink RX8 19 "RingPagesModel" "now" "[I", Cond.methodLink RX8 189 yX8_below, Cond.instanceMethod yX8_below, Cond.selects RX8 yX8_below yX8_below, Cond.code yX8_below cX8_below 4 (some .long), Cond.methodLink RX8 193 yX8_term, Cond.static yX8_term, Cond.code yX8_term cX8_term 7 (some .long), Cond.methodLink RX8 180 yX8_common, Cond.static yX8_common, Cond.code yX8_common cX8_common 10 (some .long)]
def wsX8_chance : List Cond := .code yX8_chance cX8_chance 3 (some .long) :: ((wsX8_chance_r1 ++ wsX8_chance_r2) ++ wsX80)
def wsX8_crossing : List Cond := .code yX8_crossing cX8_crossing 8 (some .long) :: ([.fieldLink RX8 76 "RingPagesModel" "cells" "I", .fieldLink RX8 40 "RingPagesModel" "trees" "[J", .fieldLink RX8 13 "RingPagesModel" "weight" "[I"] ++ wsX80)
def wsX8_expense : List Cond := .code yX8_expense cX8_expense 7 (some .long) :: ([.constantLong RX8 197 (100), .fieldLink RX8 16 "RingPagesModel" "price" "[I", .fieldLink RX8 76 "RingPagesModel" "cells" "I", .fieldLink RX8 40 "RingPagesModel" "trees" "[J", .methodLink RX8 199 yX8_crossing, .instanceMethod yX8_crossing, .selects RX8 yX8_crossing yX8_crossing, .initialized RX8, .code yX8_crossing cX8_crossing 8 (some .long), .fieldLink RX8 13 "RingPagesModel" "weight" "[I", .methodLink RX8 149 yX8_sum, .instanceMethod yX8_sum, .selects RX8 yX8_sum yX8_sum, .code yX8_sum cX8_sum 2 (some .int), .fieldLink RX8 19 "RingPagesModel" "now" "[I", .methodLink RX8 146 yX8_out, .instanceMethod yX8_out, .selects RX8 yX8_out yX8_out, .code yX8_out cX8_out 4 (some .int)] ++ wsX80)
def wsX8_mean_r1 : List Cond := [Cond.constantLong RX8 184 (-1), Cond.fieldLink RX8 19 "RingPagesModel" "now" "[I", Cond.constantLong RX8 197 (100), Cond.constantLong RX8 207 (-4), Cond.methodLink RX8 98 yX8_isIn, Cond.static yX8_isIn, Cond.initialized RX8, Cond.code yX8_isIn cX8_isIn 3 (some .boolean), Cond.methodLink RX8 186 yX8_grows, Cond.instanceMethod yX8_grows, Cond.selects RX8 yX8_grows yX8_grows, Cond.code yX8_grows cX8_grows 6 none, Cond.fieldLink RX8 76 "RingPagesModel" "cells" "I", Cond.fieldLink RX8 44 "RingPagesModel" "table" "[J", Cond.fieldLink RX8 13 "RingPagesModel" "weight" "[I", Cond.fieldLink RX8 40 "RingPagesModel" "trees" "[J", Cond.methodLink RX8 146 yX8_out, Cond.instanceMethod yX8_out, Cond.selects RX8 yX8_out yX8_out, Cond.code yX8_out cX8_out 4 (some .int), Cond.methodLink RX8 176 yX8_determinant, Cond.instanceMethod yX8_determinant, Cond.selects RX8 yX8_determinant yX8_determinant, Cond.code yX8_determinant cX8_determinant 7 (some .long)]
def wsX8_mean_r2 : List Cond := [Cond.methodLink RX8 189 yX8_below, Cond.instanceMethod yX8_below, Cond.selects RX8 yX8_below yX8_below, Cond.code yX8_below cX8_below 4 (some .long), Cond.methodLink RX8 149 yX8_sum, Cond.instanceMethod yX8_sum, Cond.selects RX8 yX8_sum yX8_sum, Cond.code yX8_sum cX8_sum 2 (some .int), Cond.methodLink RX8 199 yX8_crossing, Cond.instanceMethod yX8_crossing, Cond.selects RX8 yX8_crossing yX8_crossing, Cond.code yX8_crossing cX8_crossing 8 (some .long), Cond.methodLink RX8 193 yX8_term, Cond.static yX8_term, Cond.code yX8_term cX8_term 7 (some .long), Cond.methodLink RX8 180 yX8_common, Cond.static yX8_common, Cond.code yX8_common cX8_common 10 (some .long), Cond.methodLink RX8 203 yX8_expense, Cond.instanceMethod yX8_expense, Cond.selects RX8 yX8_expense yX8_expense, Cond.code yX8_expense cX8_expense 7 (some .long), Cond.fieldLink RX8 16 "RingPagesModel" "price" "[I"]
def wsX8_mean : List Cond := .code yX8_mean cX8_mean 5 (some .long) :: ((wsX8_mean_r1 ++ wsX8_mean_r2) ++ wsX80)
def wsX8_goesOn : List Cond := .code yX8_goesOn cX8_goesOn 4 (some .boolean) :: ([.fieldLink RX8 76 "RingPagesModel" "cells" "I", .fieldLink RX8 47 "RingPagesModel" "tried" "[I"] ++ wsX80)
def wsX8_finds_r1 : List Cond := [Cond.fieldLink RX8 47 "RingPagesModel" "tried" "[I", Cond.fieldLink RX8 50 "RingPagesModel" "best" "[I", Cond.methodLink RX8 186 yX8_grows, Cond.instanceMethod yX8_grows, Cond.selects RX8 yX8_grows yX8_grows, Cond.initialized RX8, Cond.code yX8_grows cX8_grows 6 none, Cond.fieldLink RX8 76 "RingPagesModel" "cells" "I", Cond.fieldLink RX8 44 "RingPagesModel" "table" "[J", Cond.fieldLink RX8 13 "RingPagesModel" "weight" "[I", Cond.fieldLink RX8 40 "RingPagesModel" "trees" "[J", Cond.methodLink RX8 146 yX8_out, Cond.instanceMethod yX8_out, Cond.selects RX8 yX8_out yX8_out, Cond.code yX8_out cX8_out 4 (some .int), Cond.methodLink RX8 176 yX8_determinant, Cond.instanceMethod yX8_determinant, Cond.selects RX8 yX8_determinant yX8_determinant, Cond.code yX8_determinant cX8_determinant 7 (some .long), Cond.methodLink RX8 203 yX8_expense, Cond.instanceMethod yX8_expense, Cond.selects RX8 yX8_expense yX8_expense, Cond.code yX8_expense cX8_expense 7 (some .long), Cond.constantLong RX8 197 (100)]
def wsX8_finds_r2 : List Cond := [Cond.fieldLink RX8 16 "RingPagesModel" "price" "[I", Cond.methodLink RX8 199 yX8_crossing, Cond.instanceMethod yX8_crossing, Cond.selects RX8 yX8_crossing yX8_crossing, Cond.code yX8_crossing cX8_crossing 8 (some .long), Cond.methodLink RX8 149 yX8_sum, Cond.instanceMethod yX8_sum, Cond.selects RX8 yX8_sum yX8_sum, Cond.code yX8_sum cX8_sum 2 (some .int), Cond.fieldLink RX8 19 "RingPagesModel" "now" "[I", Cond.methodLink RX8 209 yX8_goesOn, Cond.instanceMethod yX8_goesOn, Cond.selects RX8 yX8_goesOn yX8_goesOn, Cond.code yX8_goesOn cX8_goesOn 4 (some .boolean)]
def wsX8_finds : List Cond := .code yX8_finds cX8_finds 6 (some .long) :: ((wsX8_finds_r1 ++ wsX8_finds_r2) ++ wsX80)
def wsX8_best_r1 : List Cond := [Cond.fieldLink RX8 50 "RingPagesModel" "best" "[I", Cond.methodLink RX8 136 yX8_isCell, Cond.instanceMethod yX8_isCell, Cond.selects RX8 yX8_isCell yX8_isCell, Cond.initialized RX8, Cond.code yX8_isCell cX8_isCell 2 (some .boolean), Cond.fieldLink RX8 76 "RingPagesModel" "cells" "I", Cond.methodLink RX8 98 yX8_isIn, Cond.static yX8_isIn, Cond.code yX8_isIn cX8_isIn 3 (some .boolean), Cond.methodLink RX8 212 yX8_finds, Cond.instanceMethod yX8_finds, Cond.selects RX8 yX8_finds yX8_finds, Cond.code yX8_finds cX8_finds 6 (some .long), Cond.fieldLink RX8 47 "RingPagesModel" "tried" "[I", Cond.methodLink RX8 186 yX8_grows, Cond.instanceMethod yX8_grows, Cond.selects RX8 yX8_grows yX8_grows, Cond.code yX8_grows cX8_grows 6 none, Cond.fieldLink RX8 44 "RingPagesModel" "table" "[J", Cond.fieldLink RX8 13 "RingPagesModel" "weight" "[I", Cond.fieldLink RX8 40 "RingPagesModel" "trees" "[J", Cond.methodLink RX8 146 yX8_out, Cond.instanceMethod yX8_out]
def wsX8_best_r2 : List Cond := [Cond.selects RX8 yX8_out yX8_out, Cond.code yX8_out cX8_out 4 (some .int), Cond.methodLink RX8 176 yX8_determinant, Cond.instanceMethod yX8_determinant, Cond.selects RX8 yX8_determinant yX8_determinant, Cond.code yX8_determinant cX8_determinant 7 (some .long), Cond.methodLink RX8 203 yX8_expense, Cond.instanceMethod yX8_expense, Cond.selects RX8 yX8_expense yX8_expense, Cond.code yX8_expense cX8_expense 7 (some .long), Cond.constantLong RX8 197 (100), Cond.fieldLink RX8 16 "RingPagesModel" "price" "[I", Cond.methodLink RX8 199 yX8_crossing, Cond.instanceMethod yX8_crossing, Cond.selects RX8 yX8_crossing yX8_crossing, Cond.code yX8_crossing cX8_crossing 8 (some .long), Cond.methodLink RX8 149 yX8_sum, Cond.instanceMethod yX8_sum, Cond.selects RX8 yX8_sum yX8_sum, Cond.code yX8_sum cX8_sum 2 (some .int), Cond.fieldLink RX8 19 "RingPagesModel" "now" "[I", Cond.methodLink RX8 209 yX8_goesOn, Cond.instanceMethod yX8_goesOn, Cond.selects RX8 yX8_goesOn yX8_goesOn]
def wsX8_best_r3 : List Cond := [Cond.code yX8_goesOn cX8_goesOn 4 (some .boolean)]
def wsX8_best : List Cond := .code yX8_best cX8_best 2 (some .int) :: ((wsX8_best_r1 ++ (wsX8_best_r2 ++ wsX8_best_r3)) ++ wsX80)
def wsX8_least_r1 : List Cond := [Cond.constantLong RX8 184 (-1), Cond.constantLong RX8 197 (100), Cond.methodLink RX8 98 yX8_isIn, Cond.static yX8_isIn, Cond.initialized RX8, Cond.code yX8_isIn cX8_isIn 3 (some .boolean), Cond.methodLink RX8 212 yX8_finds, Cond.instanceMethod yX8_finds, Cond.selects RX8 yX8_finds yX8_finds, Cond.code yX8_finds cX8_finds 6 (some .long), Cond.fieldLink RX8 47 "RingPagesModel" "tried" "[I", Cond.fieldLink RX8 50 "RingPagesModel" "best" "[I", Cond.methodLink RX8 186 yX8_grows, Cond.instanceMethod yX8_grows, Cond.selects RX8 yX8_grows yX8_grows, Cond.code yX8_grows cX8_grows 6 none, Cond.fieldLink RX8 76 "RingPagesModel" "cells" "I", Cond.fieldLink RX8 44 "RingPagesModel" "table" "[J", Cond.fieldLink RX8 13 "RingPagesModel" "weight" "[I", Cond.fieldLink RX8 40 "RingPagesModel" "trees" "[J", Cond.methodLink RX8 146 yX8_out, Cond.instanceMethod yX8_out, Cond.selects RX8 yX8_out yX8_out, Cond.code yX8_out cX8_out 4 (some .int)]
def wsX8_least_r2 : List Cond := [Cond.methodLink RX8 176 yX8_determinant, Cond.instanceMethod yX8_determinant, Cond.selects RX8 yX8_determinant yX8_determinant, Cond.code yX8_determinant cX8_determinant 7 (some .long), Cond.methodLink RX8 203 yX8_expense, Cond.instanceMethod yX8_expense, Cond.selects RX8 yX8_expense yX8_expense, Cond.code yX8_expense cX8_expense 7 (some .long), Cond.fieldLink RX8 16 "RingPagesModel" "price" "[I", Cond.methodLink RX8 199 yX8_crossing, Cond.instanceMethod yX8_crossing, Cond.selects RX8 yX8_crossing yX8_crossing, Cond.code yX8_crossing cX8_crossing 8 (some .long), Cond.methodLink RX8 149 yX8_sum, Cond.instanceMethod yX8_sum, Cond.selects RX8 yX8_sum yX8_sum, Cond.code yX8_sum cX8_sum 2 (some .int), Cond.fieldLink RX8 19 "RingPagesModel" "now" "[I", Cond.methodLink RX8 209 yX8_goesOn, Cond.instanceMethod yX8_goesOn, Cond.selects RX8 yX8_goesOn yX8_goesOn, Cond.code yX8_goesOn cX8_goesOn 4 (some .boolean), Cond.methodLink RX8 189 yX8_below, Cond.instanceMethod yX8_below]
def wsX8_least_r3 : List Cond := [Cond.selects RX8 yX8_below yX8_below, Cond.code yX8_below cX8_below 4 (some .long), Cond.methodLink RX8 193 yX8_term, Cond.static yX8_term, Cond.code yX8_term cX8_term 7 (some .long), Cond.methodLink RX8 180 yX8_common, Cond.static yX8_common, Cond.code yX8_common cX8_common 10 (some .long)]
def wsX8_least : List Cond := .code yX8_least cX8_least 2 (some .long) :: ((wsX8_least_r1 ++ (wsX8_least_r2 ++ wsX8_least_r3)) ++ wsX80)
def wsX8_give_r1 : List Cond := [Cond.fieldLink RX8 76 "RingPagesModel" "cells" "I", Cond.fieldLink RX8 19 "RingPagesModel" "now" "[I", Cond.fieldLink RX8 50 "RingPagesModel" "best" "[I", Cond.methodLink RX8 212 yX8_finds, Cond.instanceMethod yX8_finds, Cond.selects RX8 yX8_finds yX8_finds, Cond.initialized RX8, Cond.code yX8_finds cX8_finds 6 (some .long), Cond.fieldLink RX8 47 "RingPagesModel" "tried" "[I", Cond.methodLink RX8 186 yX8_grows, Cond.instanceMethod yX8_grows, Cond.selects RX8 yX8_grows yX8_grows, Cond.code yX8_grows cX8_grows 6 none, Cond.fieldLink RX8 44 "RingPagesModel" "table" "[J", Cond.fieldLink RX8 13 "RingPagesModel" "weight" "[I", Cond.fieldLink RX8 40 "RingPagesModel" "trees" "[J", Cond.methodLink RX8 146 yX8_out, Cond.instanceMethod yX8_out, Cond.selects RX8 yX8_out yX8_out, Cond.code yX8_out cX8_out 4 (some .int), Cond.methodLink RX8 176 yX8_determinant, Cond.instanceMethod yX8_determinant, Cond.selects RX8 yX8_determinant yX8_determinant, Cond.code yX8_determinant cX8_determinant 7 (some .long)]
def wsX8_give_r2 : List Cond := [Cond.methodLink RX8 203 yX8_expense, Cond.instanceMethod yX8_expense, Cond.selects RX8 yX8_expense yX8_expense, Cond.code yX8_expense cX8_expense 7 (some .long), Cond.constantLong RX8 197 (100), Cond.fieldLink RX8 16 "RingPagesModel" "price" "[I", Cond.methodLink RX8 199 yX8_crossing, Cond.instanceMethod yX8_crossing, Cond.selects RX8 yX8_crossing yX8_crossing, Cond.code yX8_crossing cX8_crossing 8 (some .long), Cond.methodLink RX8 149 yX8_sum, Cond.instanceMethod yX8_sum, Cond.selects RX8 yX8_sum yX8_sum, Cond.code yX8_sum cX8_sum 2 (some .int), Cond.methodLink RX8 209 yX8_goesOn, Cond.instanceMethod yX8_goesOn, Cond.selects RX8 yX8_goesOn yX8_goesOn, Cond.code yX8_goesOn cX8_goesOn 4 (some .boolean), Cond.methodLink RX8 139 yX8_keeps, Cond.instanceMethod yX8_keeps, Cond.selects RX8 yX8_keeps yX8_keeps, Cond.code yX8_keeps cX8_keeps 2 none, Cond.fieldLink RX8 82 "RingPagesModel" "changes" "I", Cond.fieldLink RX8 22 "RingPagesModel" "was" "[I"]
def wsX8_give_r3 : List Cond := [Cond.methodLink RX8 142 yX8_registers, Cond.static yX8_registers, Cond.code yX8_registers cX8_registers 1 none]
def wsX8_give : List Cond := .code yX8_give cX8_give 3 (some .int) :: ((wsX8_give_r1 ++ (wsX8_give_r2 ++ wsX8_give_r3)) ++ wsX80)
def wsX8_ranks_r1 : List Cond := [Cond.fieldLink RX8 215 "RingPagesModel" "rows" "I", Cond.fieldLink RX8 76 "RingPagesModel" "cells" "I", Cond.fieldLink RX8 40 "RingPagesModel" "trees" "[J", Cond.fieldLink RX8 53 "RingPagesModel" "row" "[I", Cond.methodLink RX8 173 yX8_whereIs, Cond.instanceMethod yX8_whereIs, Cond.selects RX8 yX8_whereIs yX8_whereIs, Cond.initialized RX8, Cond.code yX8_whereIs cX8_whereIs 7 (some .int), Cond.fieldLink RX8 19 "RingPagesModel" "now" "[I", Cond.fieldLink RX8 34 "RingPagesModel" "can" "[I", Cond.fieldLink RX8 37 "RingPagesModel" "next" "[I", Cond.methodLink RX8 170 yX8_allowed, Cond.instanceMethod yX8_allowed, Cond.selects RX8 yX8_allowed yX8_allowed, Cond.code yX8_allowed cX8_allowed 5 (some .int), Cond.methodLink RX8 158 yX8_far, Cond.instanceMethod yX8_far, Cond.selects RX8 yX8_far yX8_far, Cond.code yX8_far cX8_far 7 (some .int), Cond.methodLink RX8 152 yX8_joined, Cond.instanceMethod yX8_joined, Cond.selects RX8 yX8_joined yX8_joined, Cond.code yX8_joined cX8_joined 4 (some .int)]
def wsX8_ranks_r2 : List Cond := [Cond.fieldLink RX8 13 "RingPagesModel" "weight" "[I", Cond.methodLink RX8 186 yX8_grows, Cond.instanceMethod yX8_grows, Cond.selects RX8 yX8_grows yX8_grows, Cond.code yX8_grows cX8_grows 6 none, Cond.fieldLink RX8 44 "RingPagesModel" "table" "[J", Cond.methodLink RX8 146 yX8_out, Cond.instanceMethod yX8_out, Cond.selects RX8 yX8_out yX8_out, Cond.code yX8_out cX8_out 4 (some .int), Cond.methodLink RX8 176 yX8_determinant, Cond.instanceMethod yX8_determinant, Cond.selects RX8 yX8_determinant yX8_determinant, Cond.code yX8_determinant cX8_determinant 7 (some .long), Cond.methodLink RX8 149 yX8_sum, Cond.instanceMethod yX8_sum, Cond.selects RX8 yX8_sum yX8_sum, Cond.code yX8_sum cX8_sum 2 (some .int)]
def wsX8_ranks : List Cond := .code yX8_ranks cX8_ranks 4 none :: ((wsX8_ranks_r1 ++ wsX8_ranks_r2) ++ wsX80)
def wsX8_bits : List Cond := .code yX8_bits cX8_bits 3 (some .int) :: ([])
def wsX8_paged : List Cond := .code yX8_paged cX8_paged 6 (some .long) :: ([.fieldLink RX8 215 "RingPagesModel" "rows" "I", .fieldLink RX8 40 "RingPagesModel" "trees" "[J", .fieldLink RX8 53 "RingPagesModel" "row" "[I", .methodLink RX8 149 yX8_sum, .instanceMethod yX8_sum, .selects RX8 yX8_sum yX8_sum, .initialized RX8, .code yX8_sum cX8_sum 2 (some .int), .fieldLink RX8 19 "RingPagesModel" "now" "[I", .methodLink RX8 146 yX8_out, .instanceMethod yX8_out, .selects RX8 yX8_out yX8_out, .code yX8_out cX8_out 4 (some .int), .fieldLink RX8 76 "RingPagesModel" "cells" "I", .fieldLink RX8 13 "RingPagesModel" "weight" "[I"] ++ wsX80)
def wsX8_isFirst : List Cond := .code yX8_isFirst cX8_isFirst 4 (some .boolean) :: ([])
def wsX8_splits_r1 : List Cond := [Cond.fieldLink RX8 215 "RingPagesModel" "rows" "I", Cond.fieldLink RX8 221 "RingPagesModel" "cuts" "I", Cond.fieldLink RX8 16 "RingPagesModel" "price" "[I", Cond.methodLink RX8 218 yX8_ranks, Cond.instanceMethod yX8_ranks, Cond.selects RX8 yX8_ranks yX8_ranks, Cond.initialized RX8, Cond.code yX8_ranks cX8_ranks 4 none, Cond.fieldLink RX8 76 "RingPagesModel" "cells" "I", Cond.fieldLink RX8 40 "RingPagesModel" "trees" "[J", Cond.fieldLink RX8 53 "RingPagesModel" "row" "[I", Cond.methodLink RX8 173 yX8_whereIs, Cond.instanceMethod yX8_whereIs, Cond.selects RX8 yX8_whereIs yX8_whereIs, Cond.code yX8_whereIs cX8_whereIs 7 (some .int), Cond.fieldLink RX8 19 "RingPagesModel" "now" "[I", Cond.fieldLink RX8 34 "RingPagesModel" "can" "[I", Cond.fieldLink RX8 37 "RingPagesModel" "next" "[I", Cond.methodLink RX8 170 yX8_allowed, Cond.instanceMethod yX8_allowed, Cond.selects RX8 yX8_allowed yX8_allowed, Cond.code yX8_allowed cX8_allowed 5 (some .int), Cond.methodLink RX8 158 yX8_far, Cond.instanceMethod yX8_far]
def wsX8_splits_r2 : List Cond := [Cond.selects RX8 yX8_far yX8_far, Cond.code yX8_far cX8_far 7 (some .int), Cond.methodLink RX8 152 yX8_joined, Cond.instanceMethod yX8_joined, Cond.selects RX8 yX8_joined yX8_joined, Cond.code yX8_joined cX8_joined 4 (some .int), Cond.fieldLink RX8 13 "RingPagesModel" "weight" "[I", Cond.methodLink RX8 186 yX8_grows, Cond.instanceMethod yX8_grows, Cond.selects RX8 yX8_grows yX8_grows, Cond.code yX8_grows cX8_grows 6 none, Cond.fieldLink RX8 44 "RingPagesModel" "table" "[J", Cond.methodLink RX8 146 yX8_out, Cond.instanceMethod yX8_out, Cond.selects RX8 yX8_out yX8_out, Cond.code yX8_out cX8_out 4 (some .int), Cond.methodLink RX8 176 yX8_determinant, Cond.instanceMethod yX8_determinant, Cond.selects RX8 yX8_determinant yX8_determinant, Cond.code yX8_determinant cX8_determinant 7 (some .long), Cond.methodLink RX8 149 yX8_sum, Cond.instanceMethod yX8_sum, Cond.selects RX8 yX8_sum yX8_sum, Cond.code yX8_sum cX8_sum 2 (some .int)]
def wsX8_splits_r3 : List Cond := [Cond.methodLink RX8 224 yX8_paged, Cond.instanceMethod yX8_paged, Cond.selects RX8 yX8_paged yX8_paged, Cond.code yX8_paged cX8_paged 6 (some .long), Cond.methodLink RX8 227 yX8_bits, Cond.static yX8_bits, Cond.code yX8_bits cX8_bits 3 (some .int), Cond.methodLink RX8 230 yX8_isFirst, Cond.static yX8_isFirst, Cond.code yX8_isFirst cX8_isFirst 4 (some .boolean)]
def wsX8_splits : List Cond := .code yX8_splits cX8_splits 8 none :: ((wsX8_splits_r1 ++ (wsX8_splits_r2 ++ wsX8_splits_r3)) ++ wsX80)
def wsX8_round_r1 : List Cond := [Cond.fieldLink RX8 221 "RingPagesModel" "cuts" "I", Cond.fieldLink RX8 215 "RingPagesModel" "rows" "I", Cond.fieldLink RX8 53 "RingPagesModel" "row" "[I", Cond.methodLink RX8 233 yX8_splits, Cond.instanceMethod yX8_splits, Cond.selects RX8 yX8_splits yX8_splits, Cond.initialized RX8, Cond.code yX8_splits cX8_splits 8 none, Cond.fieldLink RX8 16 "RingPagesModel" "price" "[I", Cond.methodLink RX8 218 yX8_ranks, Cond.instanceMethod yX8_ranks, Cond.selects RX8 yX8_ranks yX8_ranks, Cond.code yX8_ranks cX8_ranks 4 none, Cond.fieldLink RX8 76 "RingPagesModel" "cells" "I", Cond.fieldLink RX8 40 "RingPagesModel" "trees" "[J", Cond.methodLink RX8 173 yX8_whereIs, Cond.instanceMethod yX8_whereIs, Cond.selects RX8 yX8_whereIs yX8_whereIs, Cond.code yX8_whereIs cX8_whereIs 7 (some .int), Cond.fieldLink RX8 19 "RingPagesModel" "now" "[I", Cond.fieldLink RX8 34 "RingPagesModel" "can" "[I", Cond.fieldLink RX8 37 "RingPagesModel" "next" "[I", Cond.methodLink RX8 170 yX8_allowed, Cond.instanceMethod yX8_allowed]
def wsX8_round_r2 : List Cond := [Cond.selects RX8 yX8_allowed yX8_allowed, Cond.code yX8_allowed cX8_allowed 5 (some .int), Cond.methodLink RX8 158 yX8_far, Cond.instanceMethod yX8_far, Cond.selects RX8 yX8_far yX8_far, Cond.code yX8_far cX8_far 7 (some .int), Cond.methodLink RX8 152 yX8_joined, Cond.instanceMethod yX8_joined, Cond.selects RX8 yX8_joined yX8_joined, Cond.code yX8_joined cX8_joined 4 (some .int), Cond.fieldLink RX8 13 "RingPagesModel" "weight" "[I", Cond.methodLink RX8 186 yX8_grows, Cond.instanceMethod yX8_grows, Cond.selects RX8 yX8_grows yX8_grows, Cond.code yX8_grows cX8_grows 6 none, Cond.fieldLink RX8 44 "RingPagesModel" "table" "[J", Cond.methodLink RX8 146 yX8_out, Cond.instanceMethod yX8_out, Cond.selects RX8 yX8_out yX8_out, Cond.code yX8_out cX8_out 4 (some .int), Cond.methodLink RX8 176 yX8_determinant, Cond.instanceMethod yX8_determinant, Cond.selects RX8 yX8_determinant yX8_determinant, Cond.code yX8_determinant cX8_determinant 7 (some .long)]
def wsX8_round_r3 : List Cond := [Cond.methodLink RX8 149 yX8_sum, Cond.instanceMethod yX8_sum, Cond.selects RX8 yX8_sum yX8_sum, Cond.code yX8_sum cX8_sum 2 (some .int), Cond.methodLink RX8 224 yX8_paged, Cond.instanceMethod yX8_paged, Cond.selects RX8 yX8_paged yX8_paged, Cond.code yX8_paged cX8_paged 6 (some .long), Cond.methodLink RX8 227 yX8_bits, Cond.static yX8_bits, Cond.code yX8_bits cX8_bits 3 (some .int), Cond.methodLink RX8 230 yX8_isFirst, Cond.static yX8_isFirst, Cond.code yX8_isFirst cX8_isFirst 4 (some .boolean)]
def wsX8_round : List Cond := .code yX8_round cX8_round 5 (some .int) :: ((wsX8_round_r1 ++ (wsX8_round_r2 ++ wsX8_round_r3)) ++ wsX80)
def wsX8_page_r1 : List Cond := [Cond.fieldLink RX8 53 "RingPagesModel" "row" "[I", Cond.fieldLink RX8 19 "RingPagesModel" "now" "[I", Cond.fieldLink RX8 221 "RingPagesModel" "cuts" "I", Cond.methodLink RX8 233 yX8_splits, Cond.instanceMethod yX8_splits, Cond.selects RX8 yX8_splits yX8_splits, Cond.initialized RX8, Cond.code yX8_splits cX8_splits 8 none, Cond.fieldLink RX8 215 "RingPagesModel" "rows" "I", Cond.fieldLink RX8 16 "RingPagesModel" "price" "[I", Cond.methodLink RX8 218 yX8_ranks, Cond.instanceMethod yX8_ranks, Cond.selects RX8 yX8_ranks yX8_ranks, Cond.code yX8_ranks cX8_ranks 4 none, Cond.fieldLink RX8 76 "RingPagesModel" "cells" "I", Cond.fieldLink RX8 40 "RingPagesModel" "trees" "[J", Cond.methodLink RX8 173 yX8_whereIs, Cond.instanceMethod yX8_whereIs, Cond.selects RX8 yX8_whereIs yX8_whereIs, Cond.code yX8_whereIs cX8_whereIs 7 (some .int), Cond.fieldLink RX8 34 "RingPagesModel" "can" "[I", Cond.fieldLink RX8 37 "RingPagesModel" "next" "[I", Cond.methodLink RX8 170 yX8_allowed, Cond.instanceMethod yX8_allowed]
def wsX8_page_r2 : List Cond := [Cond.selects RX8 yX8_allowed yX8_allowed, Cond.code yX8_allowed cX8_allowed 5 (some .int), Cond.methodLink RX8 158 yX8_far, Cond.instanceMethod yX8_far, Cond.selects RX8 yX8_far yX8_far, Cond.code yX8_far cX8_far 7 (some .int), Cond.methodLink RX8 152 yX8_joined, Cond.instanceMethod yX8_joined, Cond.selects RX8 yX8_joined yX8_joined, Cond.code yX8_joined cX8_joined 4 (some .int), Cond.fieldLink RX8 13 "RingPagesModel" "weight" "[I", Cond.methodLink RX8 186 yX8_grows, Cond.instanceMethod yX8_grows, Cond.selects RX8 yX8_grows yX8_grows, Cond.code yX8_grows cX8_grows 6 none, Cond.fieldLink RX8 44 "RingPagesModel" "table" "[J", Cond.methodLink RX8 146 yX8_out, Cond.instanceMethod yX8_out, Cond.selects RX8 yX8_out yX8_out, Cond.code yX8_out cX8_out 4 (some .int), Cond.methodLink RX8 176 yX8_determinant, Cond.instanceMethod yX8_determinant, Cond.selects RX8 yX8_determinant yX8_determinant, Cond.code yX8_determinant cX8_determinant 7 (some .long)]
def wsX8_page_r3 : List Cond := [Cond.methodLink RX8 149 yX8_sum, Cond.instanceMethod yX8_sum, Cond.selects RX8 yX8_sum yX8_sum, Cond.code yX8_sum cX8_sum 2 (some .int), Cond.methodLink RX8 224 yX8_paged, Cond.instanceMethod yX8_paged, Cond.selects RX8 yX8_paged yX8_paged, Cond.code yX8_paged cX8_paged 6 (some .long), Cond.methodLink RX8 227 yX8_bits, Cond.static yX8_bits, Cond.code yX8_bits cX8_bits 3 (some .int), Cond.methodLink RX8 230 yX8_isFirst, Cond.static yX8_isFirst, Cond.code yX8_isFirst cX8_isFirst 4 (some .boolean), Cond.methodLink RX8 139 yX8_keeps, Cond.instanceMethod yX8_keeps, Cond.selects RX8 yX8_keeps yX8_keeps, Cond.code yX8_keeps cX8_keeps 2 none, Cond.fieldLink RX8 82 "RingPagesModel" "changes" "I", Cond.fieldLink RX8 22 "RingPagesModel" "was" "[I", Cond.methodLink RX8 142 yX8_registers, Cond.static yX8_registers, Cond.code yX8_registers cX8_registers 1 none]
def wsX8_page : List Cond := .code yX8_page cX8_page 2 (some .int) :: ((wsX8_page_r1 ++ (wsX8_page_r2 ++ wsX8_page_r3)) ++ wsX80)
def wsX8_walk_r1 : List Cond := [Cond.fieldLink RX8 56 "RingPagesModel" "walker" "[I", Cond.fieldLink RX8 19 "RingPagesModel" "now" "[I", Cond.constantLong RX8 236 (7919), Cond.constantLong RX8 238 (6151), Cond.constantLong RX8 240 (65521), Cond.fieldLink RX8 76 "RingPagesModel" "cells" "I", Cond.fieldLink RX8 13 "RingPagesModel" "weight" "[I", Cond.methodLink RX8 98 yX8_isIn, Cond.static yX8_isIn, Cond.initialized RX8, Cond.code yX8_isIn cX8_isIn 3 (some .boolean), Cond.methodLink RX8 149 yX8_sum, Cond.instanceMethod yX8_sum, Cond.selects RX8 yX8_sum yX8_sum, Cond.code yX8_sum cX8_sum 2 (some .int), Cond.methodLink RX8 146 yX8_out, Cond.instanceMethod yX8_out, Cond.selects RX8 yX8_out yX8_out, Cond.code yX8_out cX8_out 4 (some .int), Cond.methodLink RX8 166 yX8_goes, Cond.instanceMethod yX8_goes, Cond.selects RX8 yX8_goes yX8_goes, Cond.code yX8_goes cX8_goes 3 (some .int), Cond.methodLink RX8 162 yX8_isDue]
def wsX8_walk_r2 : List Cond := [Cond.instanceMethod yX8_isDue, Cond.selects RX8 yX8_isDue yX8_isDue, Cond.code yX8_isDue cX8_isDue 2 (some .boolean), Cond.methodLink RX8 158 yX8_far, Cond.instanceMethod yX8_far, Cond.selects RX8 yX8_far yX8_far, Cond.code yX8_far cX8_far 7 (some .int), Cond.methodLink RX8 152 yX8_joined, Cond.instanceMethod yX8_joined, Cond.selects RX8 yX8_joined yX8_joined, Cond.code yX8_joined cX8_joined 4 (some .int), Cond.methodLink RX8 142 yX8_registers, Cond.static yX8_registers, Cond.code yX8_registers cX8_registers 1 none]
def wsX8_walk : List Cond := .code yX8_walk cX8_walk 13 (some .int) :: ((wsX8_walk_r1 ++ wsX8_walk_r2) ++ wsX80)
def wsX8_count : List Cond := .code yX8_count cX8_count 2 (some .int) :: ([.fieldLink RX8 76 "RingPagesModel" "cells" "I", .fieldLink RX8 79 "RingPagesModel" "joins" "I", .fieldLink RX8 19 "RingPagesModel" "now" "[I", .fieldLink RX8 16 "RingPagesModel" "price" "[I", .fieldLink RX8 82 "RingPagesModel" "changes" "I", .fieldLink RX8 85 "RingPagesModel" "length" "I"] ++ wsX80)
def wsJ9_max_7cf53 : List Cond := .code yJ9_max_7cf53 cJ9_max_7cf53 2 (some .int) :: ([])
def wsJ9_min_7cf53 : List Cond := .code yJ9_min_7cf53 cJ9_min_7cf53 2 (some .int) :: ([])
def wsL_law_r1 : List Cond := [Cond.classLink RL 7 RX7, Cond.instantiable RX7 10, Cond.initialized RX7, Cond.classLink RL 10 RX8, Cond.instantiable RX8 26, Cond.initialized RX8, Cond.methodLink RL 9 yX7_init, Cond.instanceMethod yX7_init, Cond.code yX7_init cX7_init 2 none, Cond.methodLink RX7 1 objectInit, Cond.instanceMethod objectInit, Cond.code objectInit ⟨#[0xb1]⟩ 1 none, Cond.classLink RX7 7 RX5, Cond.instantiable RX5 4, Cond.initialized RX5, Cond.fieldLink RX7 10 "RingPages" "text" "LRingPages$Text;", Cond.classLink RX7 16 RX2, Cond.instantiable RX2 3, Cond.initialized RX2, Cond.fieldLink RX7 19 "RingPages" "past" "LRingPages$Past;", Cond.classLink RX7 23 RX0, Cond.instantiable RX0 6, Cond.initialized RX0, Cond.fieldLink RX7 26 "RingPages" "longRun" "LRingPages$LongRun;"]
def wsL_law_r2 : List Cond := [Cond.classLink RX7 30 RX6, Cond.instantiable RX6 1, Cond.initialized RX6, Cond.fieldLink RX7 33 "RingPages" "whereabouts" "LRingPages$Whereabouts;", Cond.classLink RX7 37 RX3, Cond.instantiable RX3 4, Cond.initialized RX3, Cond.fieldLink RX7 40 "RingPages" "rounds" "LRingPages$Rounds;", Cond.classLink RX7 44 RX4, Cond.instantiable RX4 10, Cond.initialized RX4, Cond.fieldLink RX7 47 "RingPages" "walker" "LRingPages$State;", Cond.classLink RX7 51 RX1, Cond.instantiable RX1 12, Cond.initialized RX1, Cond.fieldLink RX7 54 "RingPages" "net" "LRingPages$Net;", Cond.fieldLink RX7 58 "RingPages" "state" "LRingPages$State;", Cond.fieldLink RX7 61 "RingPages" "draftNet" "LRingPages$Net;", Cond.fieldLink RX7 64 "RingPages" "draftState" "LRingPages$State;", Cond.fieldLink RX7 87 "RingPages$Text" "length" "I", Cond.instanceMethod yX5_init, Cond.code yX5_init cX5_init 1 none, Cond.methodLink RX5 3 objectInit, Cond.arrayClass .int]
def wsL_law_r3 : List Cond := [Cond.fieldLink RX5 9 "RingPages$Text" "letters" "[I", Cond.fieldLink RX5 15 "RingPages$Text" "numbers" "[I", Cond.methodLink RX7 18 yX2_init, Cond.instanceMethod yX2_init, Cond.code yX2_init cX2_init 2 none, Cond.methodLink RX2 3 objectInit, Cond.classLink RX2 9 RX4, Cond.fieldLink RX2 11 "RingPages$Past" "kept" "[LRingPages$State;", Cond.instanceMethod yX4_init, Cond.code yX4_init cX4_init 1 none, Cond.methodLink RX4 3 objectInit, Cond.fieldLink RX4 9 "RingPages$State" "stay" "[I", Cond.fieldLink RX4 15 "RingPages$State" "area" "[I", Cond.instanceMethod yX0_init, Cond.code yX0_init cX0_init 1 none, Cond.methodLink RX0 3 objectInit, Cond.arrayClass .long, Cond.fieldLink RX0 9 "RingPages$LongRun" "above" "[J", Cond.fieldLink RX0 15 "RingPages$LongRun" "best" "[I", Cond.fieldLink RX0 19 "RingPages$LongRun" "tried" "[I", Cond.instanceMethod yX6_init, Cond.code yX6_init cX6_init 1 none, Cond.methodLink RX6 3 objectInit, Cond.fieldLink RX6 9 "RingPages$Whereabouts" "reached" "[I"]
def wsL_law_r4 : List Cond := [Cond.instanceMethod yX3_init, Cond.code yX3_init cX3_init 1 none, Cond.methodLink RX3 3 objectInit, Cond.fieldLink RX3 9 "RingPages$Rounds" "row" "[I", Cond.instanceMethod yX1_init, Cond.code yX1_init cX1_init 1 none, Cond.methodLink RX1 3 objectInit, Cond.classLink RX1 9 "[[I", Cond.fieldLink RX1 11 "RingPages$Net" "weight" "[[I", Cond.fieldLink RX1 16 "RingPages$Net" "wide" "[[I", Cond.fieldLink RX1 19 "RingPages$Net" "near" "[I", Cond.fieldLink RX1 23 "RingPages$Net" "out" "[I", Cond.fieldLink RX1 26 "RingPages$Net" "trees" "[J", Cond.fieldLink RX1 30 "RingPages$Net" "minors" "[J", Cond.methodLink RX7 69 yJ0_length_8abf5, Cond.instanceMethod yJ0_length_8abf5, Cond.selects RJ0 yJ0_length_8abf5 yJ0_length_8abf5, Cond.initialized RJ0, Cond.code yJ0_length_8abf5 cJ0_length_8abf5 1 (some .int), Cond.fieldLink RJ0 9 "java/lang/String" "value" "[B", Cond.methodLink RJ0 335 yJ0_coder_7d493, Cond.instanceMethod yJ0_coder_7d493, Cond.selects RJ0 yJ0_coder_7d493 yJ0_coder_7d493, Cond.code yJ0_coder_7d493 cJ0_coder_7d493 1 (some .byte)]
def wsL_law_r5 : List Cond := [Cond.fieldLink RJ0 38 "java/lang/String" "COMPACT_STRINGS" "Z", Cond.fieldLink RJ0 15 "java/lang/String" "coder" "B", Cond.methodLink RX7 75 yJ0_charAt_5068e, Cond.instanceMethod yJ0_charAt_5068e, Cond.selects RJ0 yJ0_charAt_5068e yJ0_charAt_5068e, Cond.code yJ0_charAt_5068e cJ0_charAt_5068e 2 (some .char), Cond.methodLink RJ0 492 yJ0_isLatin1_aae02, Cond.instanceMethod yJ0_isLatin1_aae02, Cond.selects RJ0 yJ0_isLatin1_aae02 yJ0_isLatin1_aae02, Cond.code yJ0_isLatin1_aae02 cJ0_isLatin1_aae02 1 (some .boolean), Cond.methodLink RJ0 495 yJ1_charAt_3b067, Cond.static yJ1_charAt_3b067, Cond.initialized RJ1, Cond.code yJ1_charAt_3b067 cJ1_charAt_3b067 2 (some .char), Cond.methodLink RJ1 9 yJ0_checkIndex_df160, Cond.static yJ0_checkIndex_df160, Cond.code yJ0_checkIndex_df160 cJ0_checkIndex_df160 2 none, Cond.fieldLink RJ0 1053 "jdk/internal/util/Preconditions" "SIOOBE_FORMATTER" "Ljava/util/function/BiFunction;", Cond.methodLink RJ0 1059 yJ3_checkIndex_8e157, Cond.static yJ3_checkIndex_8e157, Cond.initialized RJ3, Cond.code yJ3_checkIndex_8e157 cJ3_checkIndex_8e157 3 (some .int), Cond.methodLink RJ0 498 yJ2_charAt_3b067, Cond.static yJ2_charAt_3b067]
def wsL_law_r6 : List Cond := [Cond.initialized RJ2, Cond.code yJ2_charAt_3b067 cJ2_charAt_3b067 2 (some .char), Cond.methodLink RJ2 67 yJ2_checkIndex_2214a, Cond.static yJ2_checkIndex_2214a, Cond.code yJ2_checkIndex_2214a cJ2_checkIndex_2214a 2 none, Cond.methodLink RJ2 48 yJ2_length_9d52b, Cond.static yJ2_length_9d52b, Cond.code yJ2_length_9d52b cJ2_length_9d52b 1 (some .int), Cond.methodLink RJ2 414 yJ0_checkIndex_df160, Cond.methodLink RJ2 71 yJ2_getChar_3b067, Cond.static yJ2_getChar_3b067, Cond.code yJ2_getChar_3b067 cJ2_getChar_3b067 2 (some .char), Cond.fieldLink RJ2 44 "java/lang/StringUTF16" "$assertionsDisabled" "Z", Cond.fieldLink RJ2 59 "java/lang/StringUTF16" "HI_BYTE_SHIFT" "I", Cond.fieldLink RJ2 63 "java/lang/StringUTF16" "LO_BYTE_SHIFT" "I", Cond.methodLink RX7 79 yX5_append, Cond.instanceMethod yX5_append, Cond.selects RX5 yX5_append yX5_append, Cond.code yX5_append cX5_append 2 (some .boolean), Cond.fieldLink RX5 18 "RingPages$Text" "length" "I", Cond.methodLink RX7 83 yX7_layText, Cond.instanceMethod yX7_layText, Cond.selects RX7 yX7_layText yX7_layText, Cond.code yX7_layText cX7_layText 3 (some .boolean)]
def wsL_law_r7 : List Cond := [Cond.fieldLink RX7 103 "RingPages$Past" "held" "I", Cond.methodLink RX7 90 yX5_readInto, Cond.instanceMethod yX5_readInto, Cond.selects RX5 yX5_readInto yX5_readInto, Cond.code yX5_readInto cX5_readInto 5 (some .int), Cond.fieldLink RX5 32 "RingPages$Text" "place" "I", Cond.methodLink RX5 22 yX1_begin, Cond.instanceMethod yX1_begin, Cond.selects RX1 yX1_begin yX1_begin, Cond.code yX1_begin cX1_begin 4 none, Cond.fieldLink RX1 33 "RingPages$Net" "cells" "I", Cond.fieldLink RX1 37 "RingPages$Net" "joins" "I", Cond.methodLink RX1 40 yX1_price, Cond.instanceMethod yX1_price, Cond.selects RX1 yX1_price yX1_price, Cond.code yX1_price cX1_price 5 none, Cond.fieldLink RX1 44 "RingPages$Net" "mostRounds" "I", Cond.fieldLink RX1 47 "RingPages$Net" "pageCost" "I", Cond.fieldLink RX1 50 "RingPages$Net" "updateCost" "I", Cond.fieldLink RX1 53 "RingPages$Net" "callChance" "I", Cond.methodLink RX5 28 yX4_begin, Cond.instanceMethod yX4_begin, Cond.selects RX4 yX4_begin yX4_begin, Cond.code yX4_begin cX4_begin 2 none]
def wsL_law_r8 : List Cond := [Cond.fieldLink RX4 18 "RingPages$State" "kind" "I", Cond.fieldLink RX4 22 "RingPages$State" "value" "I", Cond.fieldLink RX4 25 "RingPages$State" "cell" "I", Cond.fieldLink RX4 28 "RingPages$State" "updates" "I", Cond.fieldLink RX4 31 "RingPages$State" "paged" "I", Cond.methodLink RX4 34 yX4_register, Cond.instanceMethod yX4_register, Cond.selects RX4 yX4_register yX4_register, Cond.code yX4_register cX4_register 1 none, Cond.fieldLink RX4 43 "RingPages$State" "home" "I", Cond.fieldLink RX4 46 "RingPages$State" "moves" "I", Cond.fieldLink RX4 49 "RingPages$State" "ticks" "I", Cond.methodLink RX5 35 yX5_readItem, Cond.instanceMethod yX5_readItem, Cond.selects RX5 yX5_readItem yX5_readItem, Cond.code yX5_readItem cX5_readItem 5 (some .boolean), Cond.fieldLink RX5 43 "RingPages$Net" "cells" "I", Cond.fieldLink RX5 61 "RingPages$State" "stay" "[I", Cond.fieldLink RX5 68 "RingPages$State" "area" "[I", Cond.methodLink RX5 39 yX5_letterHere, Cond.instanceMethod yX5_letterHere, Cond.selects RX5 yX5_letterHere yX5_letterHere, Cond.code yX5_letterHere cX5_letterHere 1 (some .int), Cond.methodLink RX5 46 yX5_numbersBehind]
def wsL_law_r9 : List Cond := [Cond.instanceMethod yX5_numbersBehind, Cond.selects RX5 yX5_numbersBehind yX5_numbersBehind, Cond.code yX5_numbersBehind cX5_numbersBehind 2 (some .int), Cond.methodLink RX5 50 yX5_readNumbers, Cond.instanceMethod yX5_readNumbers, Cond.selects RX5 yX5_readNumbers yX5_readNumbers, Cond.code yX5_readNumbers cX5_readNumbers 3 (some .boolean), Cond.methodLink RX5 102 yX5_readNumber, Cond.instanceMethod yX5_readNumber, Cond.selects RX5 yX5_readNumber yX5_readNumber, Cond.code yX5_readNumber cX5_readNumber 3 (some .int), Cond.methodLink RX5 105 yX5_figureHere, Cond.instanceMethod yX5_figureHere, Cond.selects RX5 yX5_figureHere yX5_figureHere, Cond.code yX5_figureHere cX5_figureHere 2 (some .int), Cond.methodLink RX5 54 yX5_takeCells, Cond.instanceMethod yX5_takeCells, Cond.selects RX5 yX5_takeCells yX5_takeCells, Cond.code yX5_takeCells cX5_takeCells 2 (some .boolean), Cond.methodLink RX5 58 yX5_takeJoin, Cond.instanceMethod yX5_takeJoin, Cond.selects RX5 yX5_takeJoin yX5_takeJoin, Cond.code yX5_takeJoin cX5_takeJoin 4 (some .boolean), Cond.fieldLink RX5 78 "RingPages$Net" "weight" "[[I"]
def wsL_law_r10 : List Cond := [Cond.methodLink RX5 82 yX5_isWeight, Cond.instanceMethod yX5_isWeight, Cond.selects RX5 yX5_isWeight yX5_isWeight, Cond.code yX5_isWeight cX5_isWeight 2 (some .boolean), Cond.methodLink RX5 85 yX1_join, Cond.instanceMethod yX1_join, Cond.selects RX1 yX1_join yX1_join, Cond.code yX1_join cX1_join 5 none, Cond.methodLink RX1 56 yX1_lead, Cond.instanceMethod yX1_lead, Cond.selects RX1 yX1_lead yX1_lead, Cond.code yX1_lead cX1_lead 4 none, Cond.methodLink RX5 64 yX5_takeCellNumber, Cond.instanceMethod yX5_takeCellNumber, Cond.selects RX5 yX5_takeCellNumber yX5_takeCellNumber, Cond.code yX5_takeCellNumber cX5_takeCellNumber 4 (some .boolean), Cond.methodLink RX5 71 yX5_takeLaw, Cond.instanceMethod yX5_takeLaw, Cond.selects RX5 yX5_takeLaw yX5_takeLaw, Cond.code yX5_takeLaw cX5_takeLaw 2 (some .boolean), Cond.fieldLink RX5 93 "RingPages$State" "kind" "I", Cond.fieldLink RX5 96 "RingPages$State" "value" "I", Cond.static yX7_isLaw, Cond.code yX7_isLaw cX7_isLaw 2 (some .boolean)]
def wsL_law_r11 : List Cond := [Cond.methodLink RX5 75 yX5_takePrices, Cond.instanceMethod yX5_takePrices, Cond.selects RX5 yX5_takePrices yX5_takePrices, Cond.code yX5_takePrices cX5_takePrices 2 (some .boolean), Cond.methodLink RX5 99 yX1_price, Cond.methodLink RX7 97 yX1_isWhole, Cond.instanceMethod yX1_isWhole, Cond.selects RX1 yX1_isWhole yX1_isWhole, Cond.code yX1_isWhole cX1_isWhole 4 (some .boolean), Cond.methodLink RX1 60 Lib.Math.min.name, Cond.static Lib.Math.min.name, Cond.initialized "java/lang/Math", Cond.code Lib.Math.min.name Lib.Math.min.code 2 (some .int), Cond.methodLink RX7 100 yX1_growTrees, Cond.instanceMethod yX1_growTrees, Cond.selects RX1 yX1_growTrees yX1_growTrees, Cond.code yX1_growTrees cX1_growTrees 2 none, Cond.methodLink RX1 66 yX1_treesTo, Cond.instanceMethod yX1_treesTo, Cond.selects RX1 yX1_treesTo yX1_treesTo, Cond.code yX1_treesTo cX1_treesTo 4 (some .long), Cond.methodLink RX1 70 yJ6_bitCount_0f7a4, Cond.static yJ6_bitCount_0f7a4, Cond.initialized RJ6]
def wsL_law_r12 : List Cond := [Cond.code yJ6_bitCount_0f7a4 cJ6_bitCount_0f7a4 1 (some .int), Cond.constant RJ6 265 (1431655765), Cond.constant RJ6 266 (858993459), Cond.constant RJ6 267 (252645135), Cond.methodLink RX1 76 yX1_rowOf, Cond.instanceMethod yX1_rowOf, Cond.selects RX1 yX1_rowOf yX1_rowOf, Cond.code yX1_rowOf cX1_rowOf 3 (some .int), Cond.methodLink RX1 79 yX1_minorOf, Cond.instanceMethod yX1_minorOf, Cond.selects RX1 yX1_minorOf yX1_minorOf, Cond.code yX1_minorOf cX1_minorOf 9 (some .long), Cond.static yX7_holds, Cond.code yX7_holds cX7_holds 2 (some .boolean), Cond.methodLink RX7 106 yX0_reckon, Cond.instanceMethod yX0_reckon, Cond.selects RX0 yX0_reckon yX0_reckon, Cond.code yX0_reckon cX0_reckon 4 none, Cond.fieldLink RX0 22 "RingPages$LongRun" "below" "J", Cond.fieldLink RX0 26 "RingPages$Net" "cells" "I", Cond.fieldLink RX0 32 "RingPages$State" "stay" "[I", Cond.fieldLink RX0 37 "RingPages$Net" "out" "[I", Cond.fieldLink RX0 40 "RingPages$Net" "trees" "[J", Cond.fieldLink RX0 43 "RingPages$LongRun" "bestKnown" "Z"]
def wsL_law_r13 : List Cond := [Cond.methodLink RL 12 yX8_init, Cond.instanceMethod yX8_init, Cond.code yX8_init cX8_init 1 none, Cond.methodLink RX8 1 objectInit, Cond.fieldLink RX8 7 "RingPagesModel" "text" "[I", Cond.fieldLink RX8 13 "RingPagesModel" "weight" "[I", Cond.fieldLink RX8 16 "RingPagesModel" "price" "[I", Cond.fieldLink RX8 19 "RingPagesModel" "now" "[I", Cond.fieldLink RX8 22 "RingPagesModel" "was" "[I", Cond.fieldLink RX8 25 "RingPagesModel" "readWeight" "[I", Cond.fieldLink RX8 28 "RingPagesModel" "readPrice" "[I", Cond.fieldLink RX8 31 "RingPagesModel" "read" "[I", Cond.fieldLink RX8 34 "RingPagesModel" "can" "[I", Cond.fieldLink RX8 37 "RingPagesModel" "next" "[I", Cond.fieldLink RX8 40 "RingPagesModel" "trees" "[J", Cond.fieldLink RX8 44 "RingPagesModel" "table" "[J", Cond.fieldLink RX8 47 "RingPagesModel" "tried" "[I", Cond.fieldLink RX8 50 "RingPagesModel" "best" "[I", Cond.fieldLink RX8 53 "RingPagesModel" "row" "[I", Cond.fieldLink RX8 56 "RingPagesModel" "walker" "[I", Cond.fieldLink RX8 62 "RingPagesModel" "readCells" "I", Cond.methodLink RX8 59 yX8_clears, Cond.instanceMethod yX8_clears, Cond.selects RX8 yX8_clears yX8_clears]
def wsL_law_r14 : List Cond := [Cond.code yX8_clears cX8_clears 2 none, Cond.fieldLink RX8 73 "RingPagesModel" "readJoins" "I", Cond.methodLink RX8 66 yX8_joinOf, Cond.instanceMethod yX8_joinOf, Cond.selects RX8 yX8_joinOf yX8_joinOf, Cond.code yX8_joinOf cX8_joinOf 5 none, Cond.methodLink RX8 70 yX8_takes, Cond.instanceMethod yX8_takes, Cond.selects RX8 yX8_takes yX8_takes, Cond.code yX8_takes cX8_takes 2 none, Cond.fieldLink RX8 76 "RingPagesModel" "cells" "I", Cond.fieldLink RX8 79 "RingPagesModel" "joins" "I", Cond.fieldLink RX8 82 "RingPagesModel" "changes" "I", Cond.methodLink RL 13 yX7_write, Cond.instanceMethod yX7_write, Cond.selects RX7 yX7_write yX7_write, Cond.code yX7_write cX7_write 2 (some .int), Cond.methodLink RL 17 yX8_write, Cond.instanceMethod yX8_write, Cond.selects RX8 yX8_write yX8_write, Cond.code yX8_write cX8_write 2 (some .int), Cond.fieldLink RX8 85 "RingPagesModel" "length" "I", Cond.methodLink RL 18 yX7_wipe, Cond.instanceMethod yX7_wipe]
def wsL_law_r15 : List Cond := [Cond.selects RX7 yX7_wipe yX7_wipe, Cond.code yX7_wipe cX7_wipe 2 (some .int), Cond.methodLink RL 22 yX8_wipe, Cond.instanceMethod yX8_wipe, Cond.selects RX8 yX8_wipe yX8_wipe, Cond.code yX8_wipe cX8_wipe 2 (some .int), Cond.methodLink RL 23 yX7_fault, Cond.instanceMethod yX7_fault, Cond.selects RX7 yX7_fault yX7_fault, Cond.code yX7_fault cX7_fault 1 (some .int), Cond.methodLink RL 26 yX8_fault, Cond.instanceMethod yX8_fault, Cond.selects RX8 yX8_fault yX8_fault, Cond.code yX8_fault cX8_fault 1 (some .int), Cond.methodLink RX8 128 yX8_reads, Cond.instanceMethod yX8_reads, Cond.selects RX8 yX8_reads yX8_reads, Cond.code yX8_reads cX8_reads 2 (some .int), Cond.fieldLink RX8 91 "RingPagesModel" "ends" "I", Cond.methodLink RX8 125 yX8_readsItem, Cond.instanceMethod yX8_readsItem, Cond.selects RX8 yX8_readsItem yX8_readsItem, Cond.code yX8_readsItem cX8_readsItem 4 (some .boolean), Cond.fieldLink RX8 88 "RingPagesModel" "value" "I"]
def wsL_law_r16 : List Cond := [Cond.methodLink RX8 102 yX8_number, Cond.instanceMethod yX8_number, Cond.selects RX8 yX8_number yX8_number, Cond.code yX8_number cX8_number 4 (some .boolean), Cond.methodLink RX8 94 yX8_letterAt, Cond.instanceMethod yX8_letterAt, Cond.selects RX8 yX8_letterAt yX8_letterAt, Cond.code yX8_letterAt cX8_letterAt 2 (some .int), Cond.methodLink RX8 98 yX8_isIn, Cond.static yX8_isIn, Cond.code yX8_isIn cX8_isIn 3 (some .boolean), Cond.methodLink RX8 112 yX8_readsJoin, Cond.instanceMethod yX8_readsJoin, Cond.selects RX8 yX8_readsJoin yX8_readsJoin, Cond.code yX8_readsJoin cX8_readsJoin 5 (some .boolean), Cond.methodLink RX8 105 yX8_more, Cond.instanceMethod yX8_more, Cond.selects RX8 yX8_more yX8_more, Cond.code yX8_more cX8_more 3 (some .boolean), Cond.methodLink RX8 116 yX8_readsCell, Cond.instanceMethod yX8_readsCell, Cond.selects RX8 yX8_readsCell yX8_readsCell, Cond.code yX8_readsCell cX8_readsCell 5 (some .boolean), Cond.methodLink RX8 119 yX8_readsLaw]
def wsL_law_r17 : List Cond := [Cond.instanceMethod yX8_readsLaw, Cond.selects RX8 yX8_readsLaw yX8_readsLaw, Cond.code yX8_readsLaw cX8_readsLaw 4 (some .boolean), Cond.methodLink RX8 109 yX8_isLaw, Cond.static yX8_isLaw, Cond.code yX8_isLaw cX8_isLaw 2 (some .boolean), Cond.methodLink RX8 122 yX8_readsPrice, Cond.instanceMethod yX8_readsPrice, Cond.selects RX8 yX8_readsPrice yX8_readsPrice, Cond.code yX8_readsPrice cX8_readsPrice 5 (some .boolean), Cond.methodLink RL 27 yX7_lay, Cond.instanceMethod yX7_lay, Cond.selects RX7 yX7_lay yX7_lay, Cond.code yX7_lay cX7_lay 1 (some .int), Cond.fieldLink RX7 94 "RingPages$Net" "cells" "I", Cond.methodLink RL 30 yX8_lay, Cond.instanceMethod yX8_lay, Cond.selects RX8 yX8_lay yX8_lay, Cond.code yX8_lay cX8_lay 1 (some .int), Cond.methodLink RX8 132 yX8_hang, Cond.instanceMethod yX8_hang, Cond.selects RX8 yX8_hang yX8_hang, Cond.code yX8_hang cX8_hang 4 (some .boolean), Cond.methodLink RL 31 yX7_set]
def wsL_law_r18 : List Cond := [Cond.instanceMethod yX7_set, Cond.selects RX7 yX7_set yX7_set, Cond.code yX7_set cX7_set 5 (some .int), Cond.fieldLink RX7 113 "RingPages$State" "stay" "[I", Cond.fieldLink RX7 117 "RingPages$State" "area" "[I", Cond.methodLink RX7 110 yX7_isCell, Cond.instanceMethod yX7_isCell, Cond.selects RX7 yX7_isCell yX7_isCell, Cond.code yX7_isCell cX7_isCell 2 (some .boolean), Cond.methodLink RX7 120 yX2_keep, Cond.instanceMethod yX2_keep, Cond.selects RX2 yX2_keep yX2_keep, Cond.code yX2_keep cX2_keep 2 none, Cond.fieldLink RX2 18 "RingPages$Past" "next" "I", Cond.fieldLink RX2 26 "RingPages$Past" "held" "I", Cond.methodLink RX2 29 Lib.Math.min.name, Cond.methodLink RX2 22 yX4_copyFrom, Cond.instanceMethod yX4_copyFrom, Cond.selects RX4 yX4_copyFrom yX4_copyFrom, Cond.code yX4_copyFrom cX4_copyFrom 2 none, Cond.methodLink RX4 37 arraycopyName, Cond.native arraycopyName, Cond.static arraycopyName, Cond.initialized "java/lang/System"]
def wsL_law_r19 : List Cond := [Cond.methodLink RX7 124 yX4_register, Cond.methodLink RL 35 yX8_set, Cond.instanceMethod yX8_set, Cond.selects RX8 yX8_set yX8_set, Cond.code yX8_set cX8_set 5 (some .int), Cond.methodLink RX8 136 yX8_isCell, Cond.instanceMethod yX8_isCell, Cond.selects RX8 yX8_isCell yX8_isCell, Cond.code yX8_isCell cX8_isCell 2 (some .boolean), Cond.methodLink RX8 139 yX8_keeps, Cond.instanceMethod yX8_keeps, Cond.selects RX8 yX8_keeps yX8_keeps, Cond.code yX8_keeps cX8_keeps 2 none, Cond.methodLink RX8 142 yX8_registers, Cond.static yX8_registers, Cond.code yX8_registers cX8_registers 1 none, Cond.methodLink RL 36 yX7_law, Cond.instanceMethod yX7_law, Cond.selects RX7 yX7_law yX7_law, Cond.code yX7_law cX7_law 4 (some .int), Cond.fieldLink RX7 131 "RingPages$State" "kind" "I", Cond.fieldLink RX7 134 "RingPages$State" "value" "I", Cond.methodLink RX7 127 yX7_isLaw, Cond.methodLink RL 40 yX8_law]
def wsL_law_r20 : List Cond := [Cond.instanceMethod yX8_law, Cond.selects RX8 yX8_law yX8_law, Cond.code yX8_law cX8_law 4 (some .int), Cond.methodLink RL 41 yX7_give, Cond.instanceMethod yX7_give, Cond.selects RX7 yX7_give yX7_give, Cond.code yX7_give cX7_give 3 (some .int), Cond.fieldLink RX7 141 "RingPages$LongRun" "best" "[I", Cond.methodLink RX7 137 yX0_findBest, Cond.instanceMethod yX0_findBest, Cond.selects RX0 yX0_findBest yX0_findBest, Cond.code yX0_findBest cX0_findBest 5 none, Cond.fieldLink RX0 79 "RingPages$LongRun" "leastExpense" "J", Cond.methodLink RX0 68 yX0_expense, Cond.instanceMethod yX0_expense, Cond.selects RX0 yX0_expense yX0_expense, Cond.code yX0_expense cX0_expense 6 (some .long), Cond.fieldLink RX0 55 "RingPages$Net" "updateCost" "I", Cond.fieldLink RX0 62 "RingPages$Net" "pageCost" "I", Cond.fieldLink RX0 65 "RingPages$Net" "callChance" "I", Cond.static yX7_sameArea, Cond.code yX7_sameArea cX7_sameArea 5 (some .int), Cond.methodLink RX0 58 yX0_crosses, Cond.instanceMethod yX0_crosses]
def wsL_law_r21 : List Cond := [Cond.selects RX0 yX0_crosses yX0_crosses, Cond.code yX0_crosses cX0_crosses 7 (some .long), Cond.fieldLink RX0 47 "RingPages$Net" "weight" "[[I", Cond.methodLink RX0 71 yX0_takeTried, Cond.instanceMethod yX0_takeTried, Cond.selects RX0 yX0_takeTried yX0_takeTried, Cond.code yX0_takeTried cX0_takeTried 3 none, Cond.methodLink RX0 82 arraycopyName, Cond.methodLink RX0 75 yX0_nextTried, Cond.instanceMethod yX0_nextTried, Cond.selects RX0 yX0_nextTried yX0_nextTried, Cond.code yX0_nextTried cX0_nextTried 3 (some .boolean), Cond.methodLink RX0 88 yX0_highestAhead, Cond.instanceMethod yX0_highestAhead, Cond.selects RX0 yX0_highestAhead yX0_highestAhead, Cond.code yX0_highestAhead cX0_highestAhead 4 (some .int), Cond.methodLink RX0 92 Lib.Math.max.name, Cond.static Lib.Math.max.name, Cond.code Lib.Math.max.name Lib.Math.max.code 2 (some .int), Cond.methodLink RL 44 yX8_give, Cond.instanceMethod yX8_give, Cond.selects RX8 yX8_give yX8_give, Cond.code yX8_give cX8_give 3 (some .int), Cond.methodLink RX8 212 yX8_finds]
def wsL_law_r22 : List Cond := [Cond.instanceMethod yX8_finds, Cond.selects RX8 yX8_finds yX8_finds, Cond.code yX8_finds cX8_finds 6 (some .long), Cond.methodLink RX8 186 yX8_grows, Cond.instanceMethod yX8_grows, Cond.selects RX8 yX8_grows yX8_grows, Cond.code yX8_grows cX8_grows 6 none, Cond.methodLink RX8 146 yX8_out, Cond.instanceMethod yX8_out, Cond.selects RX8 yX8_out yX8_out, Cond.code yX8_out cX8_out 4 (some .int), Cond.methodLink RX8 176 yX8_determinant, Cond.instanceMethod yX8_determinant, Cond.selects RX8 yX8_determinant yX8_determinant, Cond.code yX8_determinant cX8_determinant 7 (some .long), Cond.methodLink RX8 203 yX8_expense, Cond.instanceMethod yX8_expense, Cond.selects RX8 yX8_expense yX8_expense, Cond.code yX8_expense cX8_expense 7 (some .long), Cond.constantLong RX8 197 (100), Cond.methodLink RX8 199 yX8_crossing, Cond.instanceMethod yX8_crossing, Cond.selects RX8 yX8_crossing yX8_crossing, Cond.code yX8_crossing cX8_crossing 8 (some .long)]
def wsL_law_r23 : List Cond := [Cond.methodLink RX8 149 yX8_sum, Cond.instanceMethod yX8_sum, Cond.selects RX8 yX8_sum yX8_sum, Cond.code yX8_sum cX8_sum 2 (some .int), Cond.methodLink RX8 209 yX8_goesOn, Cond.instanceMethod yX8_goesOn, Cond.selects RX8 yX8_goesOn yX8_goesOn, Cond.code yX8_goesOn cX8_goesOn 4 (some .boolean), Cond.methodLink RL 45 yX7_undo, Cond.instanceMethod yX7_undo, Cond.selects RX7 yX7_undo yX7_undo, Cond.code yX7_undo cX7_undo 1 (some .int), Cond.methodLink RX7 144 yX2_bringBack, Cond.instanceMethod yX2_bringBack, Cond.selects RX2 yX2_bringBack yX2_bringBack, Cond.code yX2_bringBack cX2_bringBack 2 (some .boolean), Cond.methodLink RL 48 yX8_undo, Cond.instanceMethod yX8_undo, Cond.selects RX8 yX8_undo yX8_undo, Cond.code yX8_undo cX8_undo 2 (some .int), Cond.methodLink RL 49 yX7_cell, Cond.instanceMethod yX7_cell, Cond.selects RX7 yX7_cell yX7_cell, Cond.code yX7_cell cX7_cell 3 (some .int)]
def wsL_law_r24 : List Cond := [Cond.fieldLink RX7 148 "RingPages$Net" "out" "[I", Cond.fieldLink RX7 151 "RingPages$Net" "near" "[I", Cond.methodLink RX7 154 yX7_sameArea, Cond.methodLink RL 52 yX8_cell, Cond.instanceMethod yX8_cell, Cond.selects RX8 yX8_cell yX8_cell, Cond.code yX8_cell cX8_cell 3 (some .int), Cond.methodLink RX8 152 yX8_joined, Cond.instanceMethod yX8_joined, Cond.selects RX8 yX8_joined yX8_joined, Cond.code yX8_joined cX8_joined 4 (some .int), Cond.methodLink RX8 155 yX8_likeArea, Cond.instanceMethod yX8_likeArea, Cond.selects RX8 yX8_likeArea yX8_likeArea, Cond.code yX8_likeArea cX8_likeArea 4 (some .int), Cond.methodLink RL 53 yX7_weight, Cond.instanceMethod yX7_weight, Cond.selects RX7 yX7_weight yX7_weight, Cond.code yX7_weight cX7_weight 3 (some .int), Cond.fieldLink RX7 158 "RingPages$Net" "weight" "[[I", Cond.methodLink RL 56 yX8_weight, Cond.instanceMethod yX8_weight, Cond.selects RX8 yX8_weight yX8_weight, Cond.code yX8_weight cX8_weight 3 (some .int)]
def wsL_law_r25 : List Cond := [Cond.methodLink RL 57 yX7_wide, Cond.instanceMethod yX7_wide, Cond.selects RX7 yX7_wide yX7_wide, Cond.code yX7_wide cX7_wide 3 (some .int), Cond.fieldLink RX7 162 "RingPages$Net" "wide" "[[I", Cond.methodLink RL 60 yX8_wide, Cond.instanceMethod yX8_wide, Cond.selects RX8 yX8_wide yX8_wide, Cond.code yX8_wide cX8_wide 3 (some .int), Cond.methodLink RX8 158 yX8_far, Cond.instanceMethod yX8_far, Cond.selects RX8 yX8_far yX8_far, Cond.code yX8_far cX8_far 7 (some .int), Cond.methodLink RL 61 yX7_tick, Cond.instanceMethod yX7_tick, Cond.selects RX7 yX7_tick yX7_tick, Cond.code yX7_tick cX7_tick 2 (some .int), Cond.methodLink RX7 165 yX4_canGo, Cond.instanceMethod yX4_canGo, Cond.selects RX4 yX4_canGo yX4_canGo, Cond.code yX4_canGo cX4_canGo 3 (some .boolean), Cond.fieldLink RX4 52 "RingPages$Net" "near" "[I", Cond.methodLink RX7 169 yX4_go, Cond.instanceMethod yX4_go]
def wsL_law_r26 : List Cond := [Cond.selects RX4 yX4_go yX4_go, Cond.code yX4_go cX4_go 3 (some .boolean), Cond.methodLink RX4 61 yX4_isDue, Cond.instanceMethod yX4_isDue, Cond.selects RX4 yX4_isDue yX4_isDue, Cond.code yX4_isDue cX4_isDue 2 (some .boolean), Cond.methodLink RX4 65 yX4_isOutside, Cond.instanceMethod yX4_isOutside, Cond.selects RX4 yX4_isOutside yX4_isOutside, Cond.code yX4_isOutside cX4_isOutside 3 (some .boolean), Cond.fieldLink RX4 69 "RingPages$Net" "wide" "[[I", Cond.methodLink RL 64 yX8_tick, Cond.instanceMethod yX8_tick, Cond.selects RX8 yX8_tick yX8_tick, Cond.code yX8_tick cX8_tick 3 (some .int), Cond.methodLink RX8 166 yX8_goes, Cond.instanceMethod yX8_goes, Cond.selects RX8 yX8_goes yX8_goes, Cond.code yX8_goes cX8_goes 3 (some .int), Cond.methodLink RX8 162 yX8_isDue, Cond.instanceMethod yX8_isDue, Cond.selects RX8 yX8_isDue yX8_isDue, Cond.code yX8_isDue cX8_isDue 2 (some .boolean), Cond.methodLink RL 65 yX7_page]
def wsL_law_r27 : List Cond := [Cond.instanceMethod yX7_page, Cond.selects RX7 yX7_page yX7_page, Cond.code yX7_page cX7_page 4 (some .int), Cond.fieldLink RX7 175 "RingPages$Rounds" "many" "I", Cond.fieldLink RX7 187 "RingPages$State" "cell" "I", Cond.fieldLink RX7 193 "RingPages$State" "paged" "I", Cond.methodLink RX7 172 yX7_seek, Cond.instanceMethod yX7_seek, Cond.selects RX7 yX7_seek yX7_seek, Cond.code yX7_seek cX7_seek 1 none, Cond.fieldLink RX7 217 "RingPages$LongRun" "above" "[J", Cond.fieldLink RX7 225 "RingPages$Net" "mostRounds" "I", Cond.methodLink RX7 214 yX6_find, Cond.instanceMethod yX6_find, Cond.selects RX6 yX6_find yX6_find, Cond.code yX6_find cX6_find 8 (some .int), Cond.fieldLink RX6 15 "RingPages$State" "kind" "I", Cond.fieldLink RX6 21 "RingPages$State" "value" "I", Cond.methodLink RX6 24 Lib.Math.min.name, Cond.fieldLink RX6 34 "RingPages$State" "home" "I", Cond.fieldLink RX6 37 "RingPages$State" "ticks" "I", Cond.methodLink RX6 30 yX6_insideOf, Cond.instanceMethod yX6_insideOf, Cond.selects RX6 yX6_insideOf yX6_insideOf]
def wsL_law_r28 : List Cond := [Cond.code yX6_insideOf cX6_insideOf 5 (some .int), Cond.fieldLink RX6 44 "RingPages$Net" "cells" "I", Cond.methodLink RX6 49 yX4_isOutside, Cond.methodLink RX6 40 yX6_step, Cond.instanceMethod yX6_step, Cond.selects RX6 yX6_step yX6_step, Cond.code yX6_step cX6_step 9 (some .boolean), Cond.methodLink RX6 53 yX6_movers, Cond.instanceMethod yX6_movers, Cond.selects RX6 yX6_movers yX6_movers, Cond.code yX6_movers cX6_movers 5 (some .int), Cond.fieldLink RX6 68 "RingPages$Net" "near" "[I", Cond.methodLink RX6 57 yX6_stayers, Cond.instanceMethod yX6_stayers, Cond.selects RX6 yX6_stayers yX6_stayers, Cond.code yX6_stayers cX6_stayers 6 (some .int), Cond.fieldLink RX6 65 "RingPages$State" "stay" "[I", Cond.methodLink RX7 221 yX3_lineUp, Cond.instanceMethod yX3_lineUp, Cond.selects RX3 yX3_lineUp yX3_lineUp, Cond.code yX3_lineUp cX3_lineUp 5 none, Cond.fieldLink RX3 15 "RingPages$Rounds" "length" "I", Cond.methodLink RX7 228 yX3_split, Cond.instanceMethod yX3_split]
def wsL_law_r29 : List Cond := [Cond.selects RX3 yX3_split yX3_split, Cond.code yX3_split cX3_split 10 none, Cond.constantLong RX3 23 (-1), Cond.fieldLink RX3 25 "RingPages$Rounds" "many" "I", Cond.fieldLink RX3 28 "RingPages$Rounds" "cuts" "I", Cond.methodLink RX3 31 yJ6_bitCount_0f7a4, Cond.methodLink RX3 37 yX3_meanPaged, Cond.instanceMethod yX3_meanPaged, Cond.selects RX3 yX3_meanPaged yX3_meanPaged, Cond.code yX3_meanPaged cX3_meanPaged 7 (some .long), Cond.methodLink RX3 41 yX3_isCutBehind, Cond.instanceMethod yX3_isCutBehind, Cond.selects RX3 yX3_isCutBehind yX3_isCutBehind, Cond.code yX3_isCutBehind cX3_isCutBehind 3 (some .boolean), Cond.methodLink RX7 178 yX3_cellsOf, Cond.instanceMethod yX3_cellsOf, Cond.selects RX3 yX3_cellsOf yX3_cellsOf, Cond.code yX3_cellsOf cX3_cellsOf 5 (some .int), Cond.methodLink RX7 182 yJ6_bitCount_0f7a4, Cond.methodLink RX7 190 yX7_holds, Cond.methodLink RL 68 yX8_page, Cond.instanceMethod yX8_page, Cond.selects RX8 yX8_page yX8_page, Cond.code yX8_page cX8_page 2 (some .int)]
def wsL_law_r30 : List Cond := [Cond.fieldLink RX8 221 "RingPagesModel" "cuts" "I", Cond.methodLink RX8 233 yX8_splits, Cond.instanceMethod yX8_splits, Cond.selects RX8 yX8_splits yX8_splits, Cond.code yX8_splits cX8_splits 8 none, Cond.fieldLink RX8 215 "RingPagesModel" "rows" "I", Cond.methodLink RX8 218 yX8_ranks, Cond.instanceMethod yX8_ranks, Cond.selects RX8 yX8_ranks yX8_ranks, Cond.code yX8_ranks cX8_ranks 4 none, Cond.methodLink RX8 173 yX8_whereIs, Cond.instanceMethod yX8_whereIs, Cond.selects RX8 yX8_whereIs yX8_whereIs, Cond.code yX8_whereIs cX8_whereIs 7 (some .int), Cond.methodLink RX8 170 yX8_allowed, Cond.instanceMethod yX8_allowed, Cond.selects RX8 yX8_allowed yX8_allowed, Cond.code yX8_allowed cX8_allowed 5 (some .int), Cond.methodLink RX8 224 yX8_paged, Cond.instanceMethod yX8_paged, Cond.selects RX8 yX8_paged yX8_paged, Cond.code yX8_paged cX8_paged 6 (some .long), Cond.methodLink RX8 227 yX8_bits, Cond.static yX8_bits]
def wsL_law_r31 : List Cond := [Cond.code yX8_bits cX8_bits 3 (some .int), Cond.methodLink RX8 230 yX8_isFirst, Cond.static yX8_isFirst, Cond.code yX8_isFirst cX8_isFirst 4 (some .boolean), Cond.methodLink RL 69 yX7_handset, Cond.instanceMethod yX7_handset, Cond.selects RX7 yX7_handset yX7_handset, Cond.code yX7_handset cX7_handset 2 (some .int), Cond.fieldLink RX7 196 "RingPages$State" "home" "I", Cond.fieldLink RX7 199 "RingPages$State" "moves" "I", Cond.fieldLink RX7 202 "RingPages$State" "ticks" "I", Cond.fieldLink RX7 205 "RingPages$State" "updates" "I", Cond.fieldLink RX7 208 "RingPages$Net" "pageCost" "I", Cond.fieldLink RX7 211 "RingPages$Net" "updateCost" "I", Cond.methodLink RL 72 yX8_handset, Cond.instanceMethod yX8_handset, Cond.selects RX8 yX8_handset yX8_handset, Cond.code yX8_handset cX8_handset 2 (some .int), Cond.methodLink RL 73 yX7_where, Cond.instanceMethod yX7_where, Cond.selects RX7 yX7_where yX7_where, Cond.code yX7_where cX7_where 1 (some .int), Cond.methodLink RL 76 yX8_where, Cond.instanceMethod yX8_where]
def wsL_law_r32 : List Cond := [Cond.selects RX8 yX8_where yX8_where, Cond.code yX8_where cX8_where 1 (some .int), Cond.methodLink RL 77 yX7_round, Cond.instanceMethod yX7_round, Cond.selects RX7 yX7_round yX7_round, Cond.code yX7_round cX7_round 2 (some .int), Cond.methodLink RL 80 yX8_round, Cond.instanceMethod yX8_round, Cond.selects RX8 yX8_round yX8_round, Cond.code yX8_round cX8_round 5 (some .int), Cond.methodLink RL 81 yX7_chance, Cond.instanceMethod yX7_chance, Cond.selects RX7 yX7_chance yX7_chance, Cond.code yX7_chance cX7_chance 3 (some .long), Cond.constantLong RX7 234 (-1), Cond.fieldLink RX7 236 "RingPages$LongRun" "below" "J", Cond.methodLink RX7 231 yX7_isPart, Cond.static yX7_isPart, Cond.code yX7_isPart cX7_isPart 1 (some .boolean), Cond.methodLink RX7 240 yX7_lowest, Cond.static yX7_lowest, Cond.code yX7_lowest cX7_lowest 7 (some .long), Cond.methodLink RX7 289 yX7_greatestShared, Cond.static yX7_greatestShared]
def wsL_law_r33 : List Cond := [Cond.code yX7_greatestShared cX7_greatestShared 7 (some .long), Cond.methodLink RL 85 yX8_chance, Cond.instanceMethod yX8_chance, Cond.selects RX8 yX8_chance yX8_chance, Cond.code yX8_chance cX8_chance 3 (some .long), Cond.constantLong RX8 184 (-1), Cond.methodLink RX8 189 yX8_below, Cond.instanceMethod yX8_below, Cond.selects RX8 yX8_below yX8_below, Cond.code yX8_below cX8_below 4 (some .long), Cond.methodLink RX8 193 yX8_term, Cond.static yX8_term, Cond.code yX8_term cX8_term 7 (some .long), Cond.methodLink RX8 180 yX8_common, Cond.static yX8_common, Cond.code yX8_common cX8_common 10 (some .long), Cond.methodLink RL 86 yX7_mean, Cond.instanceMethod yX7_mean, Cond.selects RX7 yX7_mean yX7_mean, Cond.code yX7_mean cX7_mean 3 (some .long), Cond.constantLong RX7 259 (100), Cond.methodLink RX7 244 yX0_crosses, Cond.methodLink RX7 248 yX0_movesOn, Cond.instanceMethod yX0_movesOn]
def wsL_law_r34 : List Cond := [Cond.selects RX0 yX0_movesOn yX0_movesOn, Cond.code yX0_movesOn cX0_movesOn 5 (some .long), Cond.methodLink RX7 252 yX7_rate, Cond.instanceMethod yX7_rate, Cond.selects RX7 yX7_rate yX7_rate, Cond.code yX7_rate cX7_rate 2 (some .long), Cond.constantLong RX7 261 (-4), Cond.methodLink RX7 256 yX0_expense, Cond.methodLink RL 89 yX8_mean, Cond.instanceMethod yX8_mean, Cond.selects RX8 yX8_mean yX8_mean, Cond.code yX8_mean cX8_mean 5 (some .long), Cond.constantLong RX8 207 (-4), Cond.methodLink RL 90 yX7_best, Cond.instanceMethod yX7_best, Cond.selects RX7 yX7_best yX7_best, Cond.code yX7_best cX7_best 2 (some .int), Cond.methodLink RL 93 yX8_best, Cond.instanceMethod yX8_best, Cond.selects RX8 yX8_best yX8_best, Cond.code yX8_best cX8_best 2 (some .int), Cond.methodLink RL 94 yX7_least, Cond.instanceMethod yX7_least, Cond.selects RX7 yX7_least yX7_least]
def wsL_law_r35 : List Cond := [Cond.code yX7_least cX7_least 2 (some .long), Cond.fieldLink RX7 263 "RingPages$LongRun" "leastExpense" "J", Cond.methodLink RL 98 yX8_least, Cond.instanceMethod yX8_least, Cond.selects RX8 yX8_least yX8_least, Cond.code yX8_least cX8_least 2 (some .long), Cond.methodLink RL 99 yX7_walk, Cond.instanceMethod yX7_walk, Cond.selects RX7 yX7_walk yX7_walk, Cond.code yX7_walk cX7_walk 8 (some .int), Cond.methodLink RX7 266 yX4_copyFrom, Cond.methodLink RX7 269 yX7_draw, Cond.static yX7_draw, Cond.code yX7_draw cX7_draw 4 (some .int), Cond.constantLong RX7 283 (7919), Cond.constantLong RX7 285 (6151), Cond.constantLong RX7 287 (65521), Cond.methodLink RX7 273 yX4_drawnCell, Cond.instanceMethod yX4_drawnCell, Cond.selects RX4 yX4_drawnCell yX4_drawnCell, Cond.code yX4_drawnCell cX4_drawnCell 7 (some .int), Cond.fieldLink RX4 73 "RingPages$Net" "out" "[I", Cond.fieldLink RX4 76 "RingPages$Net" "cells" "I", Cond.fieldLink RX4 79 "RingPages$Net" "weight" "[[I"]
def wsL_law_r36 : List Cond := [Cond.methodLink RL 102 yX8_walk, Cond.instanceMethod yX8_walk, Cond.selects RX8 yX8_walk yX8_walk, Cond.code yX8_walk cX8_walk 13 (some .int), Cond.constantLong RX8 236 (7919), Cond.constantLong RX8 238 (6151), Cond.constantLong RX8 240 (65521), Cond.methodLink RL 103 yX7_count, Cond.instanceMethod yX7_count, Cond.selects RX7 yX7_count yX7_count, Cond.code yX7_count cX7_count 2 (some .int), Cond.fieldLink RX7 277 "RingPages$Net" "joins" "I", Cond.fieldLink RX7 280 "RingPages$Net" "callChance" "I", Cond.methodLink RL 106 yX8_count, Cond.instanceMethod yX8_count, Cond.selects RX8 yX8_count yX8_count, Cond.code yX8_count cX8_count 2 (some .int)]
def wsL_law : List Cond := (wsL_law_r1 ++ (wsL_law_r2 ++ (wsL_law_r3 ++ (wsL_law_r4 ++ (wsL_law_r5 ++ (wsL_law_r6 ++ (wsL_law_r7 ++ (wsL_law_r8 ++ (wsL_law_r9 ++ (wsL_law_r10 ++ (wsL_law_r11 ++ (wsL_law_r12 ++ (wsL_law_r13 ++ (wsL_law_r14 ++ (wsL_law_r15 ++ (wsL_law_r16 ++ (wsL_law_r17 ++ (wsL_law_r18 ++ (wsL_law_r19 ++ (wsL_law_r20 ++ (wsL_law_r21 ++ (wsL_law_r22 ++ (wsL_law_r23 ++ (wsL_law_r24 ++ (wsL_law_r25 ++ (wsL_law_r26 ++ (wsL_law_r27 ++ (wsL_law_r28 ++ (wsL_law_r29 ++ (wsL_law_r30 ++ (wsL_law_r31 ++ (wsL_law_r32 ++ (wsL_law_r33 ++ (wsL_law_r34 ++ (wsL_law_r35 ++ wsL_law_r36))))))))))))))))))))))))))))))))))) ++ wsX70 ++ wsX80 ++ wsX50 ++ wsX20 ++ wsX00 ++ wsX60 ++ wsX30 ++ wsX40 ++ wsX10 ++ ([] : List Cond)
set_option maxRecDepth 20000 in
theorem wsL_law_in : ∀ w ∈ wsL_law, w ∈ lw_tbl := fun w h => (goodIn_p wsL_law [85, 88, 93, 114, 121, 189, 219, 229, 251, 322, 326, 332, 336, 339, 342, 347, 350, 353, 356, 360, 370, 374, 378, 382, 386, 390, 394, 398, 402, 406, 410, 414, 418, 422, 426, 430, 434, 438, 442, 446, 449, 453, 458, 461, 465, 469, 472, 479, 483, 486, 490, 771, 776, 780, 784, 526, 867, 530, 871, 534, 875, 879, 883, 887, 891, 894, 898, 902, 906, 910, 913, 917, 538, 921, 925, 542, 546, 550, 554, 933, 937, 941, 944, 563, 948, 568, 572, 576, 579, 583, 587, 592, 596, 599, 1065, 1053, 1017, 960, 1021, 1043, 1039, 956, 1057, 603, 607, 929, 611, 952, 964, 968, 616, 972, 620, 976, 980, 624, 628, 633, 637, 641, 984, 988, 992, 645, 649, 653, 658, 663, 667, 672, 676, 681, 687, 691, 695, 1091, 1073, 1077, 1004, 1008, 1081, 1084, 1087, 701, 996, 705, 1000, 709, 1069, 713, 716, 720, 723, 1012, 1025, 1028, 1031, 727, 732, 736, 1035, 743, 1049, 747, 1061, 751, 755, 762, 1095, 766, 1102] (by decide +kernel) (by decide +kernel) w h).1
theorem inlX0 : ∀ w ∈ wsX00, w ∈ wsL_law := fun _ h => List.mem_append_left _ (List.mem_append_left _ (List.mem_append_left _ (List.mem_append_left _ (List.mem_append_left _ (List.mem_append_right _ h)))))
theorem inX0 : ∀ w ∈ wsX00, w ∈ lw_tbl := fun w h => wsL_law_in w (inlX0 w h)
theorem inlX1 : ∀ w ∈ wsX10, w ∈ wsL_law := fun _ h => List.mem_append_left _ (List.mem_append_right _ h)
theorem inX1 : ∀ w ∈ wsX10, w ∈ lw_tbl := fun w h => wsL_law_in w (inlX1 w h)
theorem inlX2 : ∀ w ∈ wsX20, w ∈ wsL_law := fun _ h => List.mem_append_left _ (List.mem_append_left _ (List.mem_append_left _ (List.mem_append_left _ (List.mem_append_left _ (List.mem_append_left _ (List.mem_append_right _ h))))))
theorem inX2 : ∀ w ∈ wsX20, w ∈ lw_tbl := fun w h => wsL_law_in w (inlX2 w h)
theorem inlX3 : ∀ w ∈ wsX30, w ∈ wsL_law := fun _ h => List.mem_append_left _ (List.mem_append_left _ (List.mem_append_left _ (List.mem_append_right _ h)))
theorem inX3 : ∀ w ∈ wsX30, w ∈ lw_tbl := fun w h => wsL_law_in w (inlX3 w h)
theorem inlX4 : ∀ w ∈ wsX40, w ∈ wsL_law := fun _ h => List.mem_append_left _ (List.mem_append_left _ (List.mem_append_right _ h))
theorem inX4 : ∀ w ∈ wsX40, w ∈ lw_tbl := fun w h => wsL_law_in w (inlX4 w h)
theorem inlX5 : ∀ w ∈ wsX50, w ∈ wsL_law := fun _ h => List.mem_append_left _ (List.mem_append_left _ (List.mem_append_left _ (List.mem_append_left _ (List.mem_append_left _ (List.mem_append_left _ (List.mem_append_left _ (List.mem_append_right _ h)))))))
theorem inX5 : ∀ w ∈ wsX50, w ∈ lw_tbl := fun w h => wsL_law_in w (inlX5 w h)
theorem inlX6 : ∀ w ∈ wsX60, w ∈ wsL_law := fun _ h => List.mem_append_left _ (List.mem_append_left _ (List.mem_append_left _ (List.mem_append_left _ (List.mem_append_right _ h))))
theorem inX6 : ∀ w ∈ wsX60, w ∈ lw_tbl := fun w h => wsL_law_in w (inlX6 w h)
theorem inlX7 : ∀ w ∈ wsX70, w ∈ wsL_law := fun _ h => List.mem_append_left _ (List.mem_append_left _ (List.mem_append_left _ (List.mem_append_left _ (List.mem_append_left _ (List.mem_append_left _ (List.mem_append_left _ (List.mem_append_left _ (List.mem_append_left _ (List.mem_append_right _ h)))))))))
theorem inX7 : ∀ w ∈ wsX70, w ∈ lw_tbl := fun w h => wsL_law_in w (inlX7 w h)
theorem inlX8 : ∀ w ∈ wsX80, w ∈ wsL_law := fun _ h => List.mem_append_left _ (List.mem_append_left _ (List.mem_append_left _ (List.mem_append_left _ (List.mem_append_left _ (List.mem_append_left _ (List.mem_append_left _ (List.mem_append_left _ (List.mem_append_right _ h))))))))
theorem inX8 : ∀ w ∈ wsX80, w ∈ lw_tbl := fun w h => wsL_law_in w (inlX8 w h)
theorem inJ6 : ∀ w ∈ wsJ60, w ∈ lw_tbl := by decide +kernel
theorem inJ9 : ∀ w ∈ wsJ90, w ∈ lw_tbl := by decide +kernel
theorem inJ0 : ∀ w ∈ wsJ00, w ∈ lw_tbl := by decide +kernel
theorem inJ1 : ∀ w ∈ wsJ10, w ∈ lw_tbl := by decide +kernel
theorem inJ2 : ∀ w ∈ wsJ20, w ∈ lw_tbl := by decide +kernel
theorem inJ10 : ∀ w ∈ wsJ100, w ∈ lw_tbl := by decide +kernel
theorem inJ3 : ∀ w ∈ wsJ30, w ∈ lw_tbl := by decide +kernel
theorem dX0_init_0 : decode cX0_init 0 = .ok (.aload_n 0, 1) := by decide +kernel
theorem dX0_init_1 : decode cX0_init 1 = .ok (.invokespecial 3, 3) := by decide +kernel
theorem dX0_init_4 : decode cX0_init 4 = .ok (.aload_n 0, 1) := by decide +kernel
theorem dX0_init_5 : decode cX0_init 5 = .ok (.bipush 6, 2) := by decide +kernel
theorem dX0_init_7 : decode cX0_init 7 = .ok (.newarray .long, 2) := by decide +kernel
theorem dX0_init_9 : decode cX0_init 9 = .ok (.putfield 9, 3) := by decide +kernel
theorem dX0_init_12 : decode cX0_init 12 = .ok (.aload_n 0, 1) := by decide +kernel
theorem dX0_init_13 : decode cX0_init 13 = .ok (.bipush 6, 2) := by decide +kernel
theorem dX0_init_15 : decode cX0_init 15 = .ok (.newarray .int, 2) := by decide +kernel
theorem dX0_init_17 : decode cX0_init 17 = .ok (.putfield 15, 3) := by decide +kernel
theorem dX0_init_20 : decode cX0_init 20 = .ok (.aload_n 0, 1) := by decide +kernel
theorem dX0_init_21 : decode cX0_init 21 = .ok (.bipush 6, 2) := by decide +kernel
theorem dX0_init_23 : decode cX0_init 23 = .ok (.newarray .int, 2) := by decide +kernel
theorem dX0_init_25 : decode cX0_init 25 = .ok (.putfield 19, 3) := by decide +kernel
theorem dX0_init_28 : decode cX0_init 28 = .ok (.return_, 1) := by decide +kernel
theorem dX0_reckon_0 : decode cX0_reckon 0 = .ok (.aload_n 0, 1) := by decide +kernel
theorem dX0_reckon_1 : decode cX0_reckon 1 = .ok (.lconst 0, 1) := by decide +kernel
theorem dX0_reckon_2 : decode cX0_reckon 2 = .ok (.putfield 22, 3) := by decide +kernel
theorem dX0_reckon_5 : decode cX0_reckon 5 = .ok (.iconst 0, 1) := by decide +kernel
theorem dX0_reckon_6 : decode cX0_reckon 6 = .ok (.istore_n 3, 1) := by decide +kernel
theorem dX0_reckon_7 : decode cX0_reckon 7 = .ok (.iload_n 3, 1) := by decide +kernel
theorem dX0_reckon_8 : decode cX0_reckon 8 = .ok (.aload_n 1, 1) := by decide +kernel
theorem dX0_reckon_9 : decode cX0_reckon 9 = .ok (.getfield 26, 3) := by decide +kernel
theorem dX0_reckon_12 : decode cX0_reckon 12 = .ok (.if_icmp .ge 51, 3) := by decide +kernel
theorem dX0_reckon_15 : decode cX0_reckon 15 = .ok (.aload_n 0, 1) := by decide +kernel
theorem dX0_reckon_16 : decode cX0_reckon 16 = .ok (.getfield 9, 3) := by decide +kernel
theorem dX0_reckon_19 : decode cX0_reckon 19 = .ok (.iload_n 3, 1) := by decide +kernel
theorem dX0_reckon_20 : decode cX0_reckon 20 = .ok (.aload_n 2, 1) := by decide +kernel
theorem dX0_reckon_21 : decode cX0_reckon 21 = .ok (.getfield 32, 3) := by decide +kernel
theorem dX0_reckon_24 : decode cX0_reckon 24 = .ok (.iload_n 3, 1) := by decide +kernel
theorem dX0_reckon_25 : decode cX0_reckon 25 = .ok (.iaload, 1) := by decide +kernel
theorem dX0_reckon_26 : decode cX0_reckon 26 = .ok (.aload_n 1, 1) := by decide +kernel
theorem dX0_reckon_27 : decode cX0_reckon 27 = .ok (.getfield 37, 3) := by decide +kernel
theorem dX0_reckon_30 : decode cX0_reckon 30 = .ok (.iload_n 3, 1) := by decide +kernel
theorem dX0_reckon_31 : decode cX0_reckon 31 = .ok (.iaload, 1) := by decide +kernel
theorem dX0_reckon_32 : decode cX0_reckon 32 = .ok (.iadd, 1) := by decide +kernel
theorem dX0_reckon_33 : decode cX0_reckon 33 = .ok (.i2l, 1) := by decide +kernel
theorem dX0_reckon_34 : decode cX0_reckon 34 = .ok (.aload_n 1, 1) := by decide +kernel
theorem dX0_reckon_35 : decode cX0_reckon 35 = .ok (.getfield 40, 3) := by decide +kernel
theorem dX0_reckon_38 : decode cX0_reckon 38 = .ok (.iload_n 3, 1) := by decide +kernel
theorem dX0_reckon_39 : decode cX0_reckon 39 = .ok (.laload, 1) := by decide +kernel
theorem dX0_reckon_40 : decode cX0_reckon 40 = .ok (.lmul, 1) := by decide +kernel
theorem dX0_reckon_41 : decode cX0_reckon 41 = .ok (.lastore, 1) := by decide +kernel
theorem dX0_reckon_42 : decode cX0_reckon 42 = .ok (.aload_n 0, 1) := by decide +kernel
theorem dX0_reckon_43 : decode cX0_reckon 43 = .ok (.dup, 1) := by decide +kernel
theorem dX0_reckon_44 : decode cX0_reckon 44 = .ok (.getfield 22, 3) := by decide +kernel
theorem dX0_reckon_47 : decode cX0_reckon 47 = .ok (.aload_n 0, 1) := by decide +kernel
theorem dX0_reckon_48 : decode cX0_reckon 48 = .ok (.getfield 9, 3) := by decide +kernel
theorem dX0_reckon_51 : decode cX0_reckon 51 = .ok (.iload_n 3, 1) := by decide +kernel
theorem dX0_reckon_52 : decode cX0_reckon 52 = .ok (.laload, 1) := by decide +kernel
theorem dX0_reckon_53 : decode cX0_reckon 53 = .ok (.ladd, 1) := by decide +kernel
theorem dX0_reckon_54 : decode cX0_reckon 54 = .ok (.putfield 22, 3) := by decide +kernel
theorem dX0_reckon_57 : decode cX0_reckon 57 = .ok (.iinc 3 1, 3) := by decide +kernel
theorem dX0_reckon_60 : decode cX0_reckon 60 = .ok (.goto (-53), 3) := by decide +kernel
theorem dX0_reckon_63 : decode cX0_reckon 63 = .ok (.aload_n 0, 1) := by decide +kernel
theorem dX0_reckon_64 : decode cX0_reckon 64 = .ok (.iconst 0, 1) := by decide +kernel
theorem dX0_reckon_65 : decode cX0_reckon 65 = .ok (.putfield 43, 3) := by decide +kernel
theorem dX0_reckon_68 : decode cX0_reckon 68 = .ok (.return_, 1) := by decide +kernel
theorem dX0_crosses_0 : decode cX0_crosses 0 = .ok (.lconst 0, 1) := by decide +kernel
theorem dX0_crosses_1 : decode cX0_crosses 1 = .ok (.lstore_n 3, 1) := by decide +kernel
theorem dX0_crosses_2 : decode cX0_crosses 2 = .ok (.iconst 0, 1) := by decide +kernel
theorem dX0_crosses_3 : decode cX0_crosses 3 = .ok (.istore 5, 2) := by decide +kernel
theorem dX0_crosses_5 : decode cX0_crosses 5 = .ok (.iload 5, 2) := by decide +kernel
theorem dX0_crosses_7 : decode cX0_crosses 7 = .ok (.aload_n 1, 1) := by decide +kernel
theorem dX0_crosses_8 : decode cX0_crosses 8 = .ok (.getfield 26, 3) := by decide +kernel
theorem dX0_crosses_11 : decode cX0_crosses 11 = .ok (.if_icmp .ge 60, 3) := by decide +kernel
theorem dX0_crosses_14 : decode cX0_crosses 14 = .ok (.iconst 0, 1) := by decide +kernel
theorem dX0_crosses_15 : decode cX0_crosses 15 = .ok (.istore 6, 2) := by decide +kernel
theorem dX0_crosses_17 : decode cX0_crosses 17 = .ok (.iload 6, 2) := by decide +kernel
theorem dX0_crosses_19 : decode cX0_crosses 19 = .ok (.aload_n 1, 1) := by decide +kernel
theorem dX0_crosses_20 : decode cX0_crosses 20 = .ok (.getfield 26, 3) := by decide +kernel
theorem dX0_crosses_23 : decode cX0_crosses 23 = .ok (.if_icmp .ge 42, 3) := by decide +kernel
theorem dX0_crosses_26 : decode cX0_crosses 26 = .ok (.aload_n 2, 1) := by decide +kernel
theorem dX0_crosses_27 : decode cX0_crosses 27 = .ok (.iload 5, 2) := by decide +kernel
theorem dX0_crosses_29 : decode cX0_crosses 29 = .ok (.iaload, 1) := by decide +kernel
theorem dX0_crosses_30 : decode cX0_crosses 30 = .ok (.aload_n 2, 1) := by decide +kernel
theorem dX0_crosses_31 : decode cX0_crosses 31 = .ok (.iload 6, 2) := by decide +kernel
theorem dX0_crosses_33 : decode cX0_crosses 33 = .ok (.iaload, 1) := by decide +kernel
theorem dX0_crosses_34 : decode cX0_crosses 34 = .ok (.if_icmp .eq 25, 3) := by decide +kernel
theorem dX0_crosses_37 : decode cX0_crosses 37 = .ok (.lload_n 3, 1) := by decide +kernel
theorem dX0_crosses_38 : decode cX0_crosses 38 = .ok (.aload_n 1, 1) := by decide +kernel
theorem dX0_crosses_39 : decode cX0_crosses 39 = .ok (.getfield 40, 3) := by decide +kernel
theorem dX0_crosses_42 : decode cX0_crosses 42 = .ok (.iload 5, 2) := by decide +kernel
theorem dX0_crosses_44 : decode cX0_crosses 44 = .ok (.laload, 1) := by decide +kernel
theorem dX0_crosses_45 : decode cX0_crosses 45 = .ok (.aload_n 1, 1) := by decide +kernel
theorem dX0_crosses_46 : decode cX0_crosses 46 = .ok (.getfield 47, 3) := by decide +kernel
theorem dX0_crosses_49 : decode cX0_crosses 49 = .ok (.iload 5, 2) := by decide +kernel
theorem dX0_crosses_51 : decode cX0_crosses 51 = .ok (.aaload, 1) := by decide +kernel
theorem dX0_crosses_52 : decode cX0_crosses 52 = .ok (.iload 6, 2) := by decide +kernel
theorem dX0_crosses_54 : decode cX0_crosses 54 = .ok (.iaload, 1) := by decide +kernel
theorem dX0_crosses_55 : decode cX0_crosses 55 = .ok (.i2l, 1) := by decide +kernel
theorem dX0_crosses_56 : decode cX0_crosses 56 = .ok (.lmul, 1) := by decide +kernel
theorem dX0_crosses_57 : decode cX0_crosses 57 = .ok (.ladd, 1) := by decide +kernel
theorem dX0_crosses_58 : decode cX0_crosses 58 = .ok (.lstore_n 3, 1) := by decide +kernel
theorem dX0_crosses_59 : decode cX0_crosses 59 = .ok (.iinc 6 1, 3) := by decide +kernel
theorem dX0_crosses_62 : decode cX0_crosses 62 = .ok (.goto (-45), 3) := by decide +kernel
theorem dX0_crosses_65 : decode cX0_crosses 65 = .ok (.iinc 5 1, 3) := by decide +kernel
theorem dX0_crosses_68 : decode cX0_crosses 68 = .ok (.goto (-63), 3) := by decide +kernel
theorem dX0_crosses_71 : decode cX0_crosses 71 = .ok (.lload_n 3, 1) := by decide +kernel
theorem dX0_crosses_72 : decode cX0_crosses 72 = .ok (.lreturn, 1) := by decide +kernel
theorem dX0_movesOn_0 : decode cX0_movesOn 0 = .ok (.lconst 0, 1) := by decide +kernel
theorem dX0_movesOn_1 : decode cX0_movesOn 1 = .ok (.lstore_n 2, 1) := by decide +kernel
theorem dX0_movesOn_2 : decode cX0_movesOn 2 = .ok (.iconst 0, 1) := by decide +kernel
theorem dX0_movesOn_3 : decode cX0_movesOn 3 = .ok (.istore 4, 2) := by decide +kernel
theorem dX0_movesOn_5 : decode cX0_movesOn 5 = .ok (.iload 4, 2) := by decide +kernel
theorem dX0_movesOn_7 : decode cX0_movesOn 7 = .ok (.aload_n 1, 1) := by decide +kernel
theorem dX0_movesOn_8 : decode cX0_movesOn 8 = .ok (.getfield 26, 3) := by decide +kernel
theorem dX0_movesOn_11 : decode cX0_movesOn 11 = .ok (.if_icmp .ge 28, 3) := by decide +kernel
theorem dX0_movesOn_14 : decode cX0_movesOn 14 = .ok (.lload_n 2, 1) := by decide +kernel
theorem dX0_movesOn_15 : decode cX0_movesOn 15 = .ok (.aload_n 1, 1) := by decide +kernel
theorem dX0_movesOn_16 : decode cX0_movesOn 16 = .ok (.getfield 40, 3) := by decide +kernel
theorem dX0_movesOn_19 : decode cX0_movesOn 19 = .ok (.iload 4, 2) := by decide +kernel
theorem dX0_movesOn_21 : decode cX0_movesOn 21 = .ok (.laload, 1) := by decide +kernel
theorem dX0_movesOn_22 : decode cX0_movesOn 22 = .ok (.aload_n 1, 1) := by decide +kernel
theorem dX0_movesOn_23 : decode cX0_movesOn 23 = .ok (.getfield 37, 3) := by decide +kernel
theorem dX0_movesOn_26 : decode cX0_movesOn 26 = .ok (.iload 4, 2) := by decide +kernel
theorem dX0_movesOn_28 : decode cX0_movesOn 28 = .ok (.iaload, 1) := by decide +kernel
theorem dX0_movesOn_29 : decode cX0_movesOn 29 = .ok (.i2l, 1) := by decide +kernel
theorem dX0_movesOn_30 : decode cX0_movesOn 30 = .ok (.lmul, 1) := by decide +kernel
theorem dX0_movesOn_31 : decode cX0_movesOn 31 = .ok (.ladd, 1) := by decide +kernel
theorem dX0_movesOn_32 : decode cX0_movesOn 32 = .ok (.lstore_n 2, 1) := by decide +kernel
theorem dX0_movesOn_33 : decode cX0_movesOn 33 = .ok (.iinc 4 1, 3) := by decide +kernel
theorem dX0_movesOn_36 : decode cX0_movesOn 36 = .ok (.goto (-31), 3) := by decide +kernel
theorem dX0_movesOn_39 : decode cX0_movesOn 39 = .ok (.lload_n 2, 1) := by decide +kernel
theorem dX0_movesOn_40 : decode cX0_movesOn 40 = .ok (.lreturn, 1) := by decide +kernel
set_option maxRecDepth 20000 in
theorem ggX0_expense_X7_sameArea : GoodIn wsX0_expense wsX7_sameArea := goodIn_r _ [8] (by decide +kernel) (by decide +kernel)
set_option maxRecDepth 20000 in
theorem gX0_expense_X7_sameArea_n51 : GoodIn wsX0_expense (wsX7_sameArea) := ggX0_expense_X7_sameArea
set_option maxRecDepth 20000 in
theorem ggX0_expense_X0_crosses : GoodIn wsX0_expense wsX0_crosses := goodIn_r _ [13, 1, 14, 15, 16, 17, 18, 19, 20, 21, 22, 23, 24, 25, 26, 27] (by decide +kernel) (by decide +kernel)
set_option maxRecDepth 20000 in
theorem gX0_expense_X0_crosses : GoodIn wsX0_expense (wsV RX0 58 RX0 yX0_crosses wsX0_crosses) := goodIn_app (goodIn_of _ (by decide +kernel)) ggX0_expense_X0_crosses
theorem dX0_expense_0 : decode cX0_expense 0 = .ok (.lconst 0, 1) := by decide +kernel
theorem dX0_expense_1 : decode cX0_expense 1 = .ok (.lstore_n 3, 1) := by decide +kernel
theorem dX0_expense_2 : decode cX0_expense 2 = .ok (.iconst 0, 1) := by decide +kernel
theorem dX0_expense_3 : decode cX0_expense 3 = .ok (.istore 5, 2) := by decide +kernel
theorem dX0_expense_5 : decode cX0_expense 5 = .ok (.iload 5, 2) := by decide +kernel
theorem dX0_expense_7 : decode cX0_expense 7 = .ok (.aload_n 1, 1) := by decide +kernel
theorem dX0_expense_8 : decode cX0_expense 8 = .ok (.getfield 26, 3) := by decide +kernel
theorem dX0_expense_11 : decode cX0_expense 11 = .ok (.if_icmp .ge 31, 3) := by decide +kernel
theorem dX0_expense_14 : decode cX0_expense 14 = .ok (.lload_n 3, 1) := by decide +kernel
theorem dX0_expense_15 : decode cX0_expense 15 = .ok (.aload_n 0, 1) := by decide +kernel
theorem dX0_expense_16 : decode cX0_expense 16 = .ok (.getfield 9, 3) := by decide +kernel
theorem dX0_expense_19 : decode cX0_expense 19 = .ok (.iload 5, 2) := by decide +kernel
theorem dX0_expense_21 : decode cX0_expense 21 = .ok (.laload, 1) := by decide +kernel
theorem dX0_expense_22 : decode cX0_expense 22 = .ok (.aload_n 1, 1) := by decide +kernel
theorem dX0_expense_23 : decode cX0_expense 23 = .ok (.getfield 26, 3) := by decide +kernel
theorem dX0_expense_26 : decode cX0_expense 26 = .ok (.aload_n 2, 1) := by decide +kernel
theorem dX0_expense_27 : decode cX0_expense 27 = .ok (.iload 5, 2) := by decide +kernel
theorem dX0_expense_29 : decode cX0_expense 29 = .ok (.invokestatic 51, 3) := by decide +kernel
theorem dX0_expense_32 : decode cX0_expense 32 = .ok (.i2l, 1) := by decide +kernel
theorem dX0_expense_33 : decode cX0_expense 33 = .ok (.lmul, 1) := by decide +kernel
theorem dX0_expense_34 : decode cX0_expense 34 = .ok (.ladd, 1) := by decide +kernel
theorem dX0_expense_35 : decode cX0_expense 35 = .ok (.lstore_n 3, 1) := by decide +kernel
theorem dX0_expense_36 : decode cX0_expense 36 = .ok (.iinc 5 1, 3) := by decide +kernel
theorem dX0_expense_39 : decode cX0_expense 39 = .ok (.goto (-34), 3) := by decide +kernel
theorem dX0_expense_42 : decode cX0_expense 42 = .ok (.bipush 100, 2) := by decide +kernel
theorem dX0_expense_44 : decode cX0_expense 44 = .ok (.aload_n 1, 1) := by decide +kernel
theorem dX0_expense_45 : decode cX0_expense 45 = .ok (.getfield 55, 3) := by decide +kernel
theorem dX0_expense_48 : decode cX0_expense 48 = .ok (.imul, 1) := by decide +kernel
theorem dX0_expense_49 : decode cX0_expense 49 = .ok (.i2l, 1) := by decide +kernel
theorem dX0_expense_50 : decode cX0_expense 50 = .ok (.aload_n 0, 1) := by decide +kernel
theorem dX0_expense_51 : decode cX0_expense 51 = .ok (.aload_n 1, 1) := by decide +kernel
theorem dX0_expense_52 : decode cX0_expense 52 = .ok (.aload_n 2, 1) := by decide +kernel
theorem dX0_expense_53 : decode cX0_expense 53 = .ok (.invokevirtual 58, 3) := by decide +kernel
theorem dX0_expense_56 : decode cX0_expense 56 = .ok (.lmul, 1) := by decide +kernel
theorem dX0_expense_57 : decode cX0_expense 57 = .ok (.aload_n 1, 1) := by decide +kernel
theorem dX0_expense_58 : decode cX0_expense 58 = .ok (.getfield 62, 3) := by decide +kernel
theorem dX0_expense_61 : decode cX0_expense 61 = .ok (.aload_n 1, 1) := by decide +kernel
theorem dX0_expense_62 : decode cX0_expense 62 = .ok (.getfield 65, 3) := by decide +kernel
theorem dX0_expense_65 : decode cX0_expense 65 = .ok (.imul, 1) := by decide +kernel
theorem dX0_expense_66 : decode cX0_expense 66 = .ok (.i2l, 1) := by decide +kernel
theorem dX0_expense_67 : decode cX0_expense 67 = .ok (.lload_n 3, 1) := by decide +kernel
theorem dX0_expense_68 : decode cX0_expense 68 = .ok (.lmul, 1) := by decide +kernel
theorem dX0_expense_69 : decode cX0_expense 69 = .ok (.ladd, 1) := by decide +kernel
theorem dX0_expense_70 : decode cX0_expense 70 = .ok (.lreturn, 1) := by decide +kernel
set_option maxRecDepth 20000 in
theorem ggX0_findBest_X0_expense : GoodIn wsX0_findBest wsX0_expense := goodIn_r _ [9, 3, 10, 11, 12, 13, 14, 15, 16, 17, 18, 19, 8, 20, 21, 22, 50, 51, 52, 53, 54, 55, 56, 57, 58, 59, 60, 61, 44, 45, 46, 47, 48, 49] (by decide +kernel) (by decide +kernel)
set_option maxRecDepth 20000 in
theorem gX0_findBest_X0_expense : GoodIn wsX0_findBest (wsV RX0 68 RX0 yX0_expense wsX0_expense) := goodIn_app (goodIn_of _ (by decide +kernel)) ggX0_findBest_X0_expense
set_option maxRecDepth 20000 in
theorem ggX0_findBest_X0_takeTried : GoodIn wsX0_findBest wsX0_takeTried := goodIn_r _ [26, 4, 2, 27, 28, 29, 30, 31, 44, 45, 46, 47, 48, 49] (by decide +kernel) (by decide +kernel)
set_option maxRecDepth 20000 in
theorem gX0_findBest_X0_takeTried : GoodIn wsX0_findBest (wsV RX0 71 RX0 yX0_takeTried wsX0_takeTried) := goodIn_app (goodIn_of _ (by decide +kernel)) ggX0_findBest_X0_takeTried
set_option maxRecDepth 20000 in
theorem ggX0_findBest_X0_nextTried : GoodIn wsX0_findBest wsX0_nextTried := goodIn_r _ [35, 2, 36, 37, 38, 8, 39, 40, 41, 42, 43, 44, 45, 46, 47, 48, 49] (by decide +kernel) (by decide +kernel)
set_option maxRecDepth 20000 in
theorem gX0_findBest_X0_nextTried : GoodIn wsX0_findBest (wsV RX0 75 RX0 yX0_nextTried wsX0_nextTried) := goodIn_app (goodIn_of _ (by decide +kernel)) ggX0_findBest_X0_nextTried
theorem dX0_findBest_0 : decode cX0_findBest 0 = .ok (.aload_n 0, 1) := by decide +kernel
theorem dX0_findBest_1 : decode cX0_findBest 1 = .ok (.getfield 43, 3) := by decide +kernel
theorem dX0_findBest_4 : decode cX0_findBest 4 = .ok (.ifCond .eq 4, 3) := by decide +kernel
theorem dX0_findBest_7 : decode cX0_findBest 7 = .ok (.return_, 1) := by decide +kernel
theorem dX0_findBest_8 : decode cX0_findBest 8 = .ok (.aload_n 0, 1) := by decide +kernel
theorem dX0_findBest_9 : decode cX0_findBest 9 = .ok (.iconst 1, 1) := by decide +kernel
theorem dX0_findBest_10 : decode cX0_findBest 10 = .ok (.putfield 43, 3) := by decide +kernel
theorem dX0_findBest_13 : decode cX0_findBest 13 = .ok (.iconst 0, 1) := by decide +kernel
theorem dX0_findBest_14 : decode cX0_findBest 14 = .ok (.istore_n 2, 1) := by decide +kernel
theorem dX0_findBest_15 : decode cX0_findBest 15 = .ok (.iload_n 2, 1) := by decide +kernel
theorem dX0_findBest_16 : decode cX0_findBest 16 = .ok (.bipush 6, 2) := by decide +kernel
theorem dX0_findBest_18 : decode cX0_findBest 18 = .ok (.if_icmp .ge 16, 3) := by decide +kernel
theorem dX0_findBest_21 : decode cX0_findBest 21 = .ok (.aload_n 0, 1) := by decide +kernel
theorem dX0_findBest_22 : decode cX0_findBest 22 = .ok (.getfield 19, 3) := by decide +kernel
theorem dX0_findBest_25 : decode cX0_findBest 25 = .ok (.iload_n 2, 1) := by decide +kernel
theorem dX0_findBest_26 : decode cX0_findBest 26 = .ok (.iconst 0, 1) := by decide +kernel
theorem dX0_findBest_27 : decode cX0_findBest 27 = .ok (.iastore, 1) := by decide +kernel
theorem dX0_findBest_28 : decode cX0_findBest 28 = .ok (.iinc 2 1, 3) := by decide +kernel
theorem dX0_findBest_31 : decode cX0_findBest 31 = .ok (.goto (-16), 3) := by decide +kernel
theorem dX0_findBest_34 : decode cX0_findBest 34 = .ok (.aload_n 0, 1) := by decide +kernel
theorem dX0_findBest_35 : decode cX0_findBest 35 = .ok (.aload_n 0, 1) := by decide +kernel
theorem dX0_findBest_36 : decode cX0_findBest 36 = .ok (.aload_n 1, 1) := by decide +kernel
theorem dX0_findBest_37 : decode cX0_findBest 37 = .ok (.aload_n 0, 1) := by decide +kernel
theorem dX0_findBest_38 : decode cX0_findBest 38 = .ok (.getfield 19, 3) := by decide +kernel
theorem dX0_findBest_41 : decode cX0_findBest 41 = .ok (.invokevirtual 68, 3) := by decide +kernel
theorem dX0_findBest_44 : decode cX0_findBest 44 = .ok (.invokevirtual 71, 3) := by decide +kernel
theorem dX0_findBest_47 : decode cX0_findBest 47 = .ok (.iconst 0, 1) := by decide +kernel
theorem dX0_findBest_48 : decode cX0_findBest 48 = .ok (.istore_n 2, 1) := by decide +kernel
theorem dX0_findBest_49 : decode cX0_findBest 49 = .ok (.iload_n 2, 1) := by decide +kernel
theorem dX0_findBest_50 : decode cX0_findBest 50 = .ok (.sipush 1000, 3) := by decide +kernel
theorem dX0_findBest_53 : decode cX0_findBest 53 = .ok (.if_icmp .ge 44, 3) := by decide +kernel
theorem dX0_findBest_56 : decode cX0_findBest 56 = .ok (.aload_n 0, 1) := by decide +kernel
theorem dX0_findBest_57 : decode cX0_findBest 57 = .ok (.aload_n 1, 1) := by decide +kernel
theorem dX0_findBest_58 : decode cX0_findBest 58 = .ok (.getfield 26, 3) := by decide +kernel
theorem dX0_findBest_61 : decode cX0_findBest 61 = .ok (.invokevirtual 75, 3) := by decide +kernel
theorem dX0_findBest_64 : decode cX0_findBest 64 = .ok (.ifCond .eq 33, 3) := by decide +kernel
theorem dX0_findBest_67 : decode cX0_findBest 67 = .ok (.aload_n 0, 1) := by decide +kernel
theorem dX0_findBest_68 : decode cX0_findBest 68 = .ok (.aload_n 1, 1) := by decide +kernel
theorem dX0_findBest_69 : decode cX0_findBest 69 = .ok (.aload_n 0, 1) := by decide +kernel
theorem dX0_findBest_70 : decode cX0_findBest 70 = .ok (.getfield 19, 3) := by decide +kernel
theorem dX0_findBest_73 : decode cX0_findBest 73 = .ok (.invokevirtual 68, 3) := by decide +kernel
theorem dX0_findBest_76 : decode cX0_findBest 76 = .ok (.lstore_n 3, 1) := by decide +kernel
theorem dX0_findBest_77 : decode cX0_findBest 77 = .ok (.lload_n 3, 1) := by decide +kernel
theorem dX0_findBest_78 : decode cX0_findBest 78 = .ok (.aload_n 0, 1) := by decide +kernel
theorem dX0_findBest_79 : decode cX0_findBest 79 = .ok (.getfield 79, 3) := by decide +kernel
theorem dX0_findBest_82 : decode cX0_findBest 82 = .ok (.lcmp, 1) := by decide +kernel
theorem dX0_findBest_83 : decode cX0_findBest 83 = .ok (.ifCond .ge 8, 3) := by decide +kernel
theorem dX0_findBest_86 : decode cX0_findBest 86 = .ok (.aload_n 0, 1) := by decide +kernel
theorem dX0_findBest_87 : decode cX0_findBest 87 = .ok (.lload_n 3, 1) := by decide +kernel
theorem dX0_findBest_88 : decode cX0_findBest 88 = .ok (.invokevirtual 71, 3) := by decide +kernel
theorem dX0_findBest_91 : decode cX0_findBest 91 = .ok (.iinc 2 1, 3) := by decide +kernel
theorem dX0_findBest_94 : decode cX0_findBest 94 = .ok (.goto (-45), 3) := by decide +kernel
theorem dX0_findBest_97 : decode cX0_findBest 97 = .ok (.return_, 1) := by decide +kernel
theorem dX0_takeTried_0 : decode cX0_takeTried 0 = .ok (.aload_n 0, 1) := by decide +kernel
theorem dX0_takeTried_1 : decode cX0_takeTried 1 = .ok (.lload_n 1, 1) := by decide +kernel
theorem dX0_takeTried_2 : decode cX0_takeTried 2 = .ok (.putfield 79, 3) := by decide +kernel
theorem dX0_takeTried_5 : decode cX0_takeTried 5 = .ok (.aload_n 0, 1) := by decide +kernel
theorem dX0_takeTried_6 : decode cX0_takeTried 6 = .ok (.getfield 19, 3) := by decide +kernel
theorem dX0_takeTried_9 : decode cX0_takeTried 9 = .ok (.iconst 0, 1) := by decide +kernel
theorem dX0_takeTried_10 : decode cX0_takeTried 10 = .ok (.aload_n 0, 1) := by decide +kernel
theorem dX0_takeTried_11 : decode cX0_takeTried 11 = .ok (.getfield 15, 3) := by decide +kernel
theorem dX0_takeTried_14 : decode cX0_takeTried 14 = .ok (.iconst 0, 1) := by decide +kernel
theorem dX0_takeTried_15 : decode cX0_takeTried 15 = .ok (.bipush 6, 2) := by decide +kernel
theorem dX0_takeTried_17 : decode cX0_takeTried 17 = .ok (.invokestatic 82, 3) := by decide +kernel
theorem dX0_takeTried_20 : decode cX0_takeTried 20 = .ok (.return_, 1) := by decide +kernel
set_option maxRecDepth 20000 in
theorem ggX0_nextTried_X0_highestAhead : GoodIn wsX0_nextTried wsX0_highestAhead := goodIn_r _ [6, 1, 7, 8, 9, 10, 11, 12, 13, 14, 15, 16] (by decide +kernel) (by decide +kernel)
set_option maxRecDepth 20000 in
theorem gX0_nextTried_X0_highestAhead : GoodIn wsX0_nextTried (wsV RX0 88 RX0 yX0_highestAhead wsX0_highestAhead) := goodIn_app (goodIn_of _ (by decide +kernel)) ggX0_nextTried_X0_highestAhead
theorem dX0_nextTried_0 : decode cX0_nextTried 0 = .ok (.iload_n 1, 1) := by decide +kernel
theorem dX0_nextTried_1 : decode cX0_nextTried 1 = .ok (.iconst 1, 1) := by decide +kernel
theorem dX0_nextTried_2 : decode cX0_nextTried 2 = .ok (.isub, 1) := by decide +kernel
theorem dX0_nextTried_3 : decode cX0_nextTried 3 = .ok (.istore_n 2, 1) := by decide +kernel
theorem dX0_nextTried_4 : decode cX0_nextTried 4 = .ok (.iload_n 2, 1) := by decide +kernel
theorem dX0_nextTried_5 : decode cX0_nextTried 5 = .ok (.ifCond .le 42, 3) := by decide +kernel
theorem dX0_nextTried_8 : decode cX0_nextTried 8 = .ok (.aload_n 0, 1) := by decide +kernel
theorem dX0_nextTried_9 : decode cX0_nextTried 9 = .ok (.getfield 19, 3) := by decide +kernel
theorem dX0_nextTried_12 : decode cX0_nextTried 12 = .ok (.iload_n 2, 1) := by decide +kernel
theorem dX0_nextTried_13 : decode cX0_nextTried 13 = .ok (.iaload, 1) := by decide +kernel
theorem dX0_nextTried_14 : decode cX0_nextTried 14 = .ok (.aload_n 0, 1) := by decide +kernel
theorem dX0_nextTried_15 : decode cX0_nextTried 15 = .ok (.iload_n 2, 1) := by decide +kernel
theorem dX0_nextTried_16 : decode cX0_nextTried 16 = .ok (.invokevirtual 88, 3) := by decide +kernel
theorem dX0_nextTried_19 : decode cX0_nextTried 19 = .ok (.if_icmp .gt 15, 3) := by decide +kernel
theorem dX0_nextTried_22 : decode cX0_nextTried 22 = .ok (.aload_n 0, 1) := by decide +kernel
theorem dX0_nextTried_23 : decode cX0_nextTried 23 = .ok (.getfield 19, 3) := by decide +kernel
theorem dX0_nextTried_26 : decode cX0_nextTried 26 = .ok (.iload_n 2, 1) := by decide +kernel
theorem dX0_nextTried_27 : decode cX0_nextTried 27 = .ok (.dup2, 1) := by decide +kernel
theorem dX0_nextTried_28 : decode cX0_nextTried 28 = .ok (.iaload, 1) := by decide +kernel
theorem dX0_nextTried_29 : decode cX0_nextTried 29 = .ok (.iconst 1, 1) := by decide +kernel
theorem dX0_nextTried_30 : decode cX0_nextTried 30 = .ok (.iadd, 1) := by decide +kernel
theorem dX0_nextTried_31 : decode cX0_nextTried 31 = .ok (.iastore, 1) := by decide +kernel
theorem dX0_nextTried_32 : decode cX0_nextTried 32 = .ok (.iconst 1, 1) := by decide +kernel
theorem dX0_nextTried_33 : decode cX0_nextTried 33 = .ok (.ireturn, 1) := by decide +kernel
theorem dX0_nextTried_34 : decode cX0_nextTried 34 = .ok (.aload_n 0, 1) := by decide +kernel
theorem dX0_nextTried_35 : decode cX0_nextTried 35 = .ok (.getfield 19, 3) := by decide +kernel
theorem dX0_nextTried_38 : decode cX0_nextTried 38 = .ok (.iload_n 2, 1) := by decide +kernel
theorem dX0_nextTried_39 : decode cX0_nextTried 39 = .ok (.iconst 0, 1) := by decide +kernel
theorem dX0_nextTried_40 : decode cX0_nextTried 40 = .ok (.iastore, 1) := by decide +kernel
theorem dX0_nextTried_41 : decode cX0_nextTried 41 = .ok (.iinc 2 (-1), 3) := by decide +kernel
theorem dX0_nextTried_44 : decode cX0_nextTried 44 = .ok (.goto (-40), 3) := by decide +kernel
theorem dX0_nextTried_47 : decode cX0_nextTried 47 = .ok (.iconst 0, 1) := by decide +kernel
theorem dX0_nextTried_48 : decode cX0_nextTried 48 = .ok (.ireturn, 1) := by decide +kernel
theorem dX0_highestAhead_0 : decode cX0_highestAhead 0 = .ok (.iconst 0, 1) := by decide +kernel
theorem dX0_highestAhead_1 : decode cX0_highestAhead 1 = .ok (.istore_n 2, 1) := by decide +kernel
theorem dX0_highestAhead_2 : decode cX0_highestAhead 2 = .ok (.iconst 0, 1) := by decide +kernel
theorem dX0_highestAhead_3 : decode cX0_highestAhead 3 = .ok (.istore_n 3, 1) := by decide +kernel
theorem dX0_highestAhead_4 : decode cX0_highestAhead 4 = .ok (.iload_n 3, 1) := by decide +kernel
theorem dX0_highestAhead_5 : decode cX0_highestAhead 5 = .ok (.iload_n 1, 1) := by decide +kernel
theorem dX0_highestAhead_6 : decode cX0_highestAhead 6 = .ok (.if_icmp .ge 20, 3) := by decide +kernel
theorem dX0_highestAhead_9 : decode cX0_highestAhead 9 = .ok (.iload_n 2, 1) := by decide +kernel
theorem dX0_highestAhead_10 : decode cX0_highestAhead 10 = .ok (.aload_n 0, 1) := by decide +kernel
theorem dX0_highestAhead_11 : decode cX0_highestAhead 11 = .ok (.getfield 19, 3) := by decide +kernel
theorem dX0_highestAhead_14 : decode cX0_highestAhead 14 = .ok (.iload_n 3, 1) := by decide +kernel
theorem dX0_highestAhead_15 : decode cX0_highestAhead 15 = .ok (.iaload, 1) := by decide +kernel
theorem dX0_highestAhead_16 : decode cX0_highestAhead 16 = .ok (.invokestatic 92, 3) := by decide +kernel
theorem dX0_highestAhead_19 : decode cX0_highestAhead 19 = .ok (.istore_n 2, 1) := by decide +kernel
theorem dX0_highestAhead_20 : decode cX0_highestAhead 20 = .ok (.iinc 3 1, 3) := by decide +kernel
theorem dX0_highestAhead_23 : decode cX0_highestAhead 23 = .ok (.goto (-19), 3) := by decide +kernel
theorem dX0_highestAhead_26 : decode cX0_highestAhead 26 = .ok (.iload_n 2, 1) := by decide +kernel
theorem dX0_highestAhead_27 : decode cX0_highestAhead 27 = .ok (.ireturn, 1) := by decide +kernel
theorem dX1_init_0 : decode cX1_init 0 = .ok (.aload_n 0, 1) := by decide +kernel
theorem dX1_init_1 : decode cX1_init 1 = .ok (.invokespecial 3, 3) := by decide +kernel
theorem dX1_init_4 : decode cX1_init 4 = .ok (.aload_n 0, 1) := by decide +kernel
theorem dX1_init_5 : decode cX1_init 5 = .ok (.bipush 6, 2) := by decide +kernel
theorem dX1_init_7 : decode cX1_init 7 = .ok (.bipush 6, 2) := by decide +kernel
theorem dX1_init_9 : decode cX1_init 9 = .ok (.multianewarray 9 2, 4) := by decide +kernel
theorem dX1_init_13 : decode cX1_init 13 = .ok (.putfield 11, 3) := by decide +kernel
theorem dX1_init_16 : decode cX1_init 16 = .ok (.aload_n 0, 1) := by decide +kernel
theorem dX1_init_17 : decode cX1_init 17 = .ok (.bipush 6, 2) := by decide +kernel
theorem dX1_init_19 : decode cX1_init 19 = .ok (.bipush 6, 2) := by decide +kernel
theorem dX1_init_21 : decode cX1_init 21 = .ok (.multianewarray 9 2, 4) := by decide +kernel
theorem dX1_init_25 : decode cX1_init 25 = .ok (.putfield 16, 3) := by decide +kernel
theorem dX1_init_28 : decode cX1_init 28 = .ok (.aload_n 0, 1) := by decide +kernel
theorem dX1_init_29 : decode cX1_init 29 = .ok (.bipush 6, 2) := by decide +kernel
theorem dX1_init_31 : decode cX1_init 31 = .ok (.newarray .int, 2) := by decide +kernel
theorem dX1_init_33 : decode cX1_init 33 = .ok (.putfield 19, 3) := by decide +kernel
theorem dX1_init_36 : decode cX1_init 36 = .ok (.aload_n 0, 1) := by decide +kernel
theorem dX1_init_37 : decode cX1_init 37 = .ok (.bipush 6, 2) := by decide +kernel
theorem dX1_init_39 : decode cX1_init 39 = .ok (.newarray .int, 2) := by decide +kernel
theorem dX1_init_41 : decode cX1_init 41 = .ok (.putfield 23, 3) := by decide +kernel
theorem dX1_init_44 : decode cX1_init 44 = .ok (.aload_n 0, 1) := by decide +kernel
theorem dX1_init_45 : decode cX1_init 45 = .ok (.bipush 6, 2) := by decide +kernel
theorem dX1_init_47 : decode cX1_init 47 = .ok (.newarray .long, 2) := by decide +kernel
theorem dX1_init_49 : decode cX1_init 49 = .ok (.putfield 26, 3) := by decide +kernel
theorem dX1_init_52 : decode cX1_init 52 = .ok (.aload_n 0, 1) := by decide +kernel
theorem dX1_init_53 : decode cX1_init 53 = .ok (.bipush 64, 2) := by decide +kernel
theorem dX1_init_55 : decode cX1_init 55 = .ok (.newarray .long, 2) := by decide +kernel
theorem dX1_init_57 : decode cX1_init 57 = .ok (.putfield 30, 3) := by decide +kernel
theorem dX1_init_60 : decode cX1_init 60 = .ok (.return_, 1) := by decide +kernel
set_option maxRecDepth 20000 in
theorem ggX1_begin_X1_price : GoodIn wsX1_begin wsX1_price := goodIn_r _ [11, 12, 13, 14, 15, 16, 17, 18, 19, 20, 21, 22, 23, 24, 25, 26, 27] (by decide +kernel) (by decide +kernel)
set_option maxRecDepth 20000 in
theorem gX1_begin_X1_price : GoodIn wsX1_begin (wsV RX1 40 RX1 yX1_price wsX1_price) := goodIn_app (goodIn_of _ (by decide +kernel)) ggX1_begin_X1_price
theorem dX1_begin_0 : decode cX1_begin 0 = .ok (.aload_n 0, 1) := by decide +kernel
theorem dX1_begin_1 : decode cX1_begin 1 = .ok (.iload_n 1, 1) := by decide +kernel
theorem dX1_begin_2 : decode cX1_begin 2 = .ok (.putfield 33, 3) := by decide +kernel
theorem dX1_begin_5 : decode cX1_begin 5 = .ok (.aload_n 0, 1) := by decide +kernel
theorem dX1_begin_6 : decode cX1_begin 6 = .ok (.iconst 0, 1) := by decide +kernel
theorem dX1_begin_7 : decode cX1_begin 7 = .ok (.putfield 37, 3) := by decide +kernel
theorem dX1_begin_10 : decode cX1_begin 10 = .ok (.iconst 0, 1) := by decide +kernel
theorem dX1_begin_11 : decode cX1_begin 11 = .ok (.istore_n 2, 1) := by decide +kernel
theorem dX1_begin_12 : decode cX1_begin 12 = .ok (.iload_n 2, 1) := by decide +kernel
theorem dX1_begin_13 : decode cX1_begin 13 = .ok (.bipush 6, 2) := by decide +kernel
theorem dX1_begin_15 : decode cX1_begin 15 = .ok (.if_icmp .ge 65, 3) := by decide +kernel
theorem dX1_begin_18 : decode cX1_begin 18 = .ok (.aload_n 0, 1) := by decide +kernel
theorem dX1_begin_19 : decode cX1_begin 19 = .ok (.getfield 19, 3) := by decide +kernel
theorem dX1_begin_22 : decode cX1_begin 22 = .ok (.iload_n 2, 1) := by decide +kernel
theorem dX1_begin_23 : decode cX1_begin 23 = .ok (.iconst 0, 1) := by decide +kernel
theorem dX1_begin_24 : decode cX1_begin 24 = .ok (.iastore, 1) := by decide +kernel
theorem dX1_begin_25 : decode cX1_begin 25 = .ok (.aload_n 0, 1) := by decide +kernel
theorem dX1_begin_26 : decode cX1_begin 26 = .ok (.getfield 23, 3) := by decide +kernel
theorem dX1_begin_29 : decode cX1_begin 29 = .ok (.iload_n 2, 1) := by decide +kernel
theorem dX1_begin_30 : decode cX1_begin 30 = .ok (.iconst 0, 1) := by decide +kernel
theorem dX1_begin_31 : decode cX1_begin 31 = .ok (.iastore, 1) := by decide +kernel
theorem dX1_begin_32 : decode cX1_begin 32 = .ok (.iconst 0, 1) := by decide +kernel
theorem dX1_begin_33 : decode cX1_begin 33 = .ok (.istore_n 3, 1) := by decide +kernel
theorem dX1_begin_34 : decode cX1_begin 34 = .ok (.iload_n 3, 1) := by decide +kernel
theorem dX1_begin_35 : decode cX1_begin 35 = .ok (.bipush 6, 2) := by decide +kernel
theorem dX1_begin_37 : decode cX1_begin 37 = .ok (.if_icmp .ge 37, 3) := by decide +kernel
theorem dX1_begin_40 : decode cX1_begin 40 = .ok (.aload_n 0, 1) := by decide +kernel
theorem dX1_begin_41 : decode cX1_begin 41 = .ok (.getfield 11, 3) := by decide +kernel
theorem dX1_begin_44 : decode cX1_begin 44 = .ok (.iload_n 2, 1) := by decide +kernel
theorem dX1_begin_45 : decode cX1_begin 45 = .ok (.aaload, 1) := by decide +kernel
theorem dX1_begin_46 : decode cX1_begin 46 = .ok (.iload_n 3, 1) := by decide +kernel
theorem dX1_begin_47 : decode cX1_begin 47 = .ok (.iconst 0, 1) := by decide +kernel
theorem dX1_begin_48 : decode cX1_begin 48 = .ok (.iastore, 1) := by decide +kernel
theorem dX1_begin_49 : decode cX1_begin 49 = .ok (.aload_n 0, 1) := by decide +kernel
theorem dX1_begin_50 : decode cX1_begin 50 = .ok (.getfield 16, 3) := by decide +kernel
theorem dX1_begin_53 : decode cX1_begin 53 = .ok (.iload_n 2, 1) := by decide +kernel
theorem dX1_begin_54 : decode cX1_begin 54 = .ok (.aaload, 1) := by decide +kernel
theorem dX1_begin_55 : decode cX1_begin 55 = .ok (.iload_n 3, 1) := by decide +kernel
theorem dX1_begin_56 : decode cX1_begin 56 = .ok (.iload_n 2, 1) := by decide +kernel
theorem dX1_begin_57 : decode cX1_begin 57 = .ok (.iload_n 3, 1) := by decide +kernel
theorem dX1_begin_58 : decode cX1_begin 58 = .ok (.if_icmp .ne 7, 3) := by decide +kernel
theorem dX1_begin_61 : decode cX1_begin 61 = .ok (.iconst 0, 1) := by decide +kernel
theorem dX1_begin_62 : decode cX1_begin 62 = .ok (.goto 5, 3) := by decide +kernel
theorem dX1_begin_65 : decode cX1_begin 65 = .ok (.bipush 99, 2) := by decide +kernel
theorem dX1_begin_67 : decode cX1_begin 67 = .ok (.iastore, 1) := by decide +kernel
theorem dX1_begin_68 : decode cX1_begin 68 = .ok (.iinc 3 1, 3) := by decide +kernel
theorem dX1_begin_71 : decode cX1_begin 71 = .ok (.goto (-37), 3) := by decide +kernel
theorem dX1_begin_74 : decode cX1_begin 74 = .ok (.iinc 2 1, 3) := by decide +kernel
theorem dX1_begin_77 : decode cX1_begin 77 = .ok (.goto (-65), 3) := by decide +kernel
theorem dX1_begin_80 : decode cX1_begin 80 = .ok (.aload_n 0, 1) := by decide +kernel
theorem dX1_begin_81 : decode cX1_begin 81 = .ok (.iconst 2, 1) := by decide +kernel
theorem dX1_begin_82 : decode cX1_begin 82 = .ok (.iconst 1, 1) := by decide +kernel
theorem dX1_begin_83 : decode cX1_begin 83 = .ok (.iconst 5, 1) := by decide +kernel
theorem dX1_begin_84 : decode cX1_begin 84 = .ok (.bipush 10, 2) := by decide +kernel
theorem dX1_begin_86 : decode cX1_begin 86 = .ok (.invokevirtual 40, 3) := by decide +kernel
theorem dX1_begin_89 : decode cX1_begin 89 = .ok (.return_, 1) := by decide +kernel
theorem dX1_price_0 : decode cX1_price 0 = .ok (.aload_n 0, 1) := by decide +kernel
theorem dX1_price_1 : decode cX1_price 1 = .ok (.iload_n 1, 1) := by decide +kernel
theorem dX1_price_2 : decode cX1_price 2 = .ok (.putfield 44, 3) := by decide +kernel
theorem dX1_price_5 : decode cX1_price 5 = .ok (.aload_n 0, 1) := by decide +kernel
theorem dX1_price_6 : decode cX1_price 6 = .ok (.iload_n 2, 1) := by decide +kernel
theorem dX1_price_7 : decode cX1_price 7 = .ok (.putfield 47, 3) := by decide +kernel
theorem dX1_price_10 : decode cX1_price 10 = .ok (.aload_n 0, 1) := by decide +kernel
theorem dX1_price_11 : decode cX1_price 11 = .ok (.iload_n 3, 1) := by decide +kernel
theorem dX1_price_12 : decode cX1_price 12 = .ok (.putfield 50, 3) := by decide +kernel
theorem dX1_price_15 : decode cX1_price 15 = .ok (.aload_n 0, 1) := by decide +kernel
theorem dX1_price_16 : decode cX1_price 16 = .ok (.iload 4, 2) := by decide +kernel
theorem dX1_price_18 : decode cX1_price 18 = .ok (.putfield 53, 3) := by decide +kernel
theorem dX1_price_21 : decode cX1_price 21 = .ok (.return_, 1) := by decide +kernel
set_option maxRecDepth 20000 in
theorem ggX1_join_X1_lead : GoodIn wsX1_join wsX1_lead := goodIn_r _ [6, 7, 8, 9, 10, 11, 12, 13, 14, 15, 16, 17, 18, 19, 20, 21, 22] (by decide +kernel) (by decide +kernel)
set_option maxRecDepth 20000 in
theorem gX1_join_X1_lead : GoodIn wsX1_join (wsV RX1 56 RX1 yX1_lead wsX1_lead) := goodIn_app (goodIn_of _ (by decide +kernel)) ggX1_join_X1_lead
theorem dX1_join_0 : decode cX1_join 0 = .ok (.aload_n 0, 1) := by decide +kernel
theorem dX1_join_1 : decode cX1_join 1 = .ok (.dup, 1) := by decide +kernel
theorem dX1_join_2 : decode cX1_join 2 = .ok (.getfield 37, 3) := by decide +kernel
theorem dX1_join_5 : decode cX1_join 5 = .ok (.iconst 1, 1) := by decide +kernel
theorem dX1_join_6 : decode cX1_join 6 = .ok (.iadd, 1) := by decide +kernel
theorem dX1_join_7 : decode cX1_join 7 = .ok (.putfield 37, 3) := by decide +kernel
theorem dX1_join_10 : decode cX1_join 10 = .ok (.aload_n 0, 1) := by decide +kernel
theorem dX1_join_11 : decode cX1_join 11 = .ok (.iload_n 1, 1) := by decide +kernel
theorem dX1_join_12 : decode cX1_join 12 = .ok (.iload_n 2, 1) := by decide +kernel
theorem dX1_join_13 : decode cX1_join 13 = .ok (.iload_n 3, 1) := by decide +kernel
theorem dX1_join_14 : decode cX1_join 14 = .ok (.invokevirtual 56, 3) := by decide +kernel
theorem dX1_join_17 : decode cX1_join 17 = .ok (.aload_n 0, 1) := by decide +kernel
theorem dX1_join_18 : decode cX1_join 18 = .ok (.iload_n 2, 1) := by decide +kernel
theorem dX1_join_19 : decode cX1_join 19 = .ok (.iload_n 1, 1) := by decide +kernel
theorem dX1_join_20 : decode cX1_join 20 = .ok (.iload 4, 2) := by decide +kernel
theorem dX1_join_22 : decode cX1_join 22 = .ok (.invokevirtual 56, 3) := by decide +kernel
theorem dX1_join_25 : decode cX1_join 25 = .ok (.return_, 1) := by decide +kernel
theorem dX1_lead_0 : decode cX1_lead 0 = .ok (.aload_n 0, 1) := by decide +kernel
theorem dX1_lead_1 : decode cX1_lead 1 = .ok (.getfield 11, 3) := by decide +kernel
theorem dX1_lead_4 : decode cX1_lead 4 = .ok (.iload_n 1, 1) := by decide +kernel
theorem dX1_lead_5 : decode cX1_lead 5 = .ok (.aaload, 1) := by decide +kernel
theorem dX1_lead_6 : decode cX1_lead 6 = .ok (.iload_n 2, 1) := by decide +kernel
theorem dX1_lead_7 : decode cX1_lead 7 = .ok (.iload_n 3, 1) := by decide +kernel
theorem dX1_lead_8 : decode cX1_lead 8 = .ok (.iastore, 1) := by decide +kernel
theorem dX1_lead_9 : decode cX1_lead 9 = .ok (.aload_n 0, 1) := by decide +kernel
theorem dX1_lead_10 : decode cX1_lead 10 = .ok (.getfield 16, 3) := by decide +kernel
theorem dX1_lead_13 : decode cX1_lead 13 = .ok (.iload_n 1, 1) := by decide +kernel
theorem dX1_lead_14 : decode cX1_lead 14 = .ok (.aaload, 1) := by decide +kernel
theorem dX1_lead_15 : decode cX1_lead 15 = .ok (.iload_n 2, 1) := by decide +kernel
theorem dX1_lead_16 : decode cX1_lead 16 = .ok (.iconst 1, 1) := by decide +kernel
theorem dX1_lead_17 : decode cX1_lead 17 = .ok (.iastore, 1) := by decide +kernel
theorem dX1_lead_18 : decode cX1_lead 18 = .ok (.aload_n 0, 1) := by decide +kernel
theorem dX1_lead_19 : decode cX1_lead 19 = .ok (.getfield 19, 3) := by decide +kernel
theorem dX1_lead_22 : decode cX1_lead 22 = .ok (.iload_n 1, 1) := by decide +kernel
theorem dX1_lead_23 : decode cX1_lead 23 = .ok (.dup2, 1) := by decide +kernel
theorem dX1_lead_24 : decode cX1_lead 24 = .ok (.iaload, 1) := by decide +kernel
theorem dX1_lead_25 : decode cX1_lead 25 = .ok (.iconst 1, 1) := by decide +kernel
theorem dX1_lead_26 : decode cX1_lead 26 = .ok (.iload_n 2, 1) := by decide +kernel
theorem dX1_lead_27 : decode cX1_lead 27 = .ok (.ishl, 1) := by decide +kernel
theorem dX1_lead_28 : decode cX1_lead 28 = .ok (.ior, 1) := by decide +kernel
theorem dX1_lead_29 : decode cX1_lead 29 = .ok (.iastore, 1) := by decide +kernel
theorem dX1_lead_30 : decode cX1_lead 30 = .ok (.aload_n 0, 1) := by decide +kernel
theorem dX1_lead_31 : decode cX1_lead 31 = .ok (.getfield 23, 3) := by decide +kernel
theorem dX1_lead_34 : decode cX1_lead 34 = .ok (.iload_n 1, 1) := by decide +kernel
theorem dX1_lead_35 : decode cX1_lead 35 = .ok (.dup2, 1) := by decide +kernel
theorem dX1_lead_36 : decode cX1_lead 36 = .ok (.iaload, 1) := by decide +kernel
theorem dX1_lead_37 : decode cX1_lead 37 = .ok (.iload_n 3, 1) := by decide +kernel
theorem dX1_lead_38 : decode cX1_lead 38 = .ok (.iadd, 1) := by decide +kernel
theorem dX1_lead_39 : decode cX1_lead 39 = .ok (.iastore, 1) := by decide +kernel
theorem dX1_lead_40 : decode cX1_lead 40 = .ok (.return_, 1) := by decide +kernel
theorem dX1_isWhole_0 : decode cX1_isWhole 0 = .ok (.iconst 0, 1) := by decide +kernel
theorem dX1_isWhole_1 : decode cX1_isWhole 1 = .ok (.istore_n 1, 1) := by decide +kernel
theorem dX1_isWhole_2 : decode cX1_isWhole 2 = .ok (.iload_n 1, 1) := by decide +kernel
theorem dX1_isWhole_3 : decode cX1_isWhole 3 = .ok (.aload_n 0, 1) := by decide +kernel
theorem dX1_isWhole_4 : decode cX1_isWhole 4 = .ok (.getfield 33, 3) := by decide +kernel
theorem dX1_isWhole_7 : decode cX1_isWhole 7 = .ok (.if_icmp .ge 77, 3) := by decide +kernel
theorem dX1_isWhole_10 : decode cX1_isWhole 10 = .ok (.iconst 0, 1) := by decide +kernel
theorem dX1_isWhole_11 : decode cX1_isWhole 11 = .ok (.istore_n 2, 1) := by decide +kernel
theorem dX1_isWhole_12 : decode cX1_isWhole 12 = .ok (.iload_n 2, 1) := by decide +kernel
theorem dX1_isWhole_13 : decode cX1_isWhole 13 = .ok (.aload_n 0, 1) := by decide +kernel
theorem dX1_isWhole_14 : decode cX1_isWhole 14 = .ok (.getfield 33, 3) := by decide +kernel
theorem dX1_isWhole_17 : decode cX1_isWhole 17 = .ok (.if_icmp .ge 61, 3) := by decide +kernel
theorem dX1_isWhole_20 : decode cX1_isWhole 20 = .ok (.iconst 0, 1) := by decide +kernel
theorem dX1_isWhole_21 : decode cX1_isWhole 21 = .ok (.istore_n 3, 1) := by decide +kernel
theorem dX1_isWhole_22 : decode cX1_isWhole 22 = .ok (.iload_n 3, 1) := by decide +kernel
theorem dX1_isWhole_23 : decode cX1_isWhole 23 = .ok (.aload_n 0, 1) := by decide +kernel
theorem dX1_isWhole_24 : decode cX1_isWhole 24 = .ok (.getfield 33, 3) := by decide +kernel
theorem dX1_isWhole_27 : decode cX1_isWhole 27 = .ok (.if_icmp .ge 45, 3) := by decide +kernel
theorem dX1_isWhole_30 : decode cX1_isWhole 30 = .ok (.aload_n 0, 1) := by decide +kernel
theorem dX1_isWhole_31 : decode cX1_isWhole 31 = .ok (.getfield 16, 3) := by decide +kernel
theorem dX1_isWhole_34 : decode cX1_isWhole 34 = .ok (.iload_n 2, 1) := by decide +kernel
theorem dX1_isWhole_35 : decode cX1_isWhole 35 = .ok (.aaload, 1) := by decide +kernel
theorem dX1_isWhole_36 : decode cX1_isWhole 36 = .ok (.iload_n 3, 1) := by decide +kernel
theorem dX1_isWhole_37 : decode cX1_isWhole 37 = .ok (.aload_n 0, 1) := by decide +kernel
theorem dX1_isWhole_38 : decode cX1_isWhole 38 = .ok (.getfield 16, 3) := by decide +kernel
theorem dX1_isWhole_41 : decode cX1_isWhole 41 = .ok (.iload_n 2, 1) := by decide +kernel
theorem dX1_isWhole_42 : decode cX1_isWhole 42 = .ok (.aaload, 1) := by decide +kernel
theorem dX1_isWhole_43 : decode cX1_isWhole 43 = .ok (.iload_n 3, 1) := by decide +kernel
theorem dX1_isWhole_44 : decode cX1_isWhole 44 = .ok (.iaload, 1) := by decide +kernel
theorem dX1_isWhole_45 : decode cX1_isWhole 45 = .ok (.aload_n 0, 1) := by decide +kernel
theorem dX1_isWhole_46 : decode cX1_isWhole 46 = .ok (.getfield 16, 3) := by decide +kernel
theorem dX1_isWhole_49 : decode cX1_isWhole 49 = .ok (.iload_n 2, 1) := by decide +kernel
theorem dX1_isWhole_50 : decode cX1_isWhole 50 = .ok (.aaload, 1) := by decide +kernel
theorem dX1_isWhole_51 : decode cX1_isWhole 51 = .ok (.iload_n 1, 1) := by decide +kernel
theorem dX1_isWhole_52 : decode cX1_isWhole 52 = .ok (.iaload, 1) := by decide +kernel
theorem dX1_isWhole_53 : decode cX1_isWhole 53 = .ok (.aload_n 0, 1) := by decide +kernel
theorem dX1_isWhole_54 : decode cX1_isWhole 54 = .ok (.getfield 16, 3) := by decide +kernel
theorem dX1_isWhole_57 : decode cX1_isWhole 57 = .ok (.iload_n 1, 1) := by decide +kernel
theorem dX1_isWhole_58 : decode cX1_isWhole 58 = .ok (.aaload, 1) := by decide +kernel
theorem dX1_isWhole_59 : decode cX1_isWhole 59 = .ok (.iload_n 3, 1) := by decide +kernel
theorem dX1_isWhole_60 : decode cX1_isWhole 60 = .ok (.iaload, 1) := by decide +kernel
theorem dX1_isWhole_61 : decode cX1_isWhole 61 = .ok (.iadd, 1) := by decide +kernel
theorem dX1_isWhole_62 : decode cX1_isWhole 62 = .ok (.invokestatic 60, 3) := by decide +kernel
theorem dX1_isWhole_65 : decode cX1_isWhole 65 = .ok (.iastore, 1) := by decide +kernel
theorem dX1_isWhole_66 : decode cX1_isWhole 66 = .ok (.iinc 3 1, 3) := by decide +kernel
theorem dX1_isWhole_69 : decode cX1_isWhole 69 = .ok (.goto (-47), 3) := by decide +kernel
theorem dX1_isWhole_72 : decode cX1_isWhole 72 = .ok (.iinc 2 1, 3) := by decide +kernel
theorem dX1_isWhole_75 : decode cX1_isWhole 75 = .ok (.goto (-63), 3) := by decide +kernel
theorem dX1_isWhole_78 : decode cX1_isWhole 78 = .ok (.iinc 1 1, 3) := by decide +kernel
theorem dX1_isWhole_81 : decode cX1_isWhole 81 = .ok (.goto (-79), 3) := by decide +kernel
theorem dX1_isWhole_84 : decode cX1_isWhole 84 = .ok (.iconst 1, 1) := by decide +kernel
theorem dX1_isWhole_85 : decode cX1_isWhole 85 = .ok (.istore_n 1, 1) := by decide +kernel
theorem dX1_isWhole_86 : decode cX1_isWhole 86 = .ok (.iload_n 1, 1) := by decide +kernel
theorem dX1_isWhole_87 : decode cX1_isWhole 87 = .ok (.aload_n 0, 1) := by decide +kernel
theorem dX1_isWhole_88 : decode cX1_isWhole 88 = .ok (.getfield 33, 3) := by decide +kernel
theorem dX1_isWhole_91 : decode cX1_isWhole 91 = .ok (.if_icmp .ge 24, 3) := by decide +kernel
theorem dX1_isWhole_94 : decode cX1_isWhole 94 = .ok (.aload_n 0, 1) := by decide +kernel
theorem dX1_isWhole_95 : decode cX1_isWhole 95 = .ok (.getfield 16, 3) := by decide +kernel
theorem dX1_isWhole_98 : decode cX1_isWhole 98 = .ok (.iconst 0, 1) := by decide +kernel
theorem dX1_isWhole_99 : decode cX1_isWhole 99 = .ok (.aaload, 1) := by decide +kernel
theorem dX1_isWhole_100 : decode cX1_isWhole 100 = .ok (.iload_n 1, 1) := by decide +kernel
theorem dX1_isWhole_101 : decode cX1_isWhole 101 = .ok (.iaload, 1) := by decide +kernel
theorem dX1_isWhole_102 : decode cX1_isWhole 102 = .ok (.bipush 99, 2) := by decide +kernel
theorem dX1_isWhole_104 : decode cX1_isWhole 104 = .ok (.if_icmp .lt 5, 3) := by decide +kernel
theorem dX1_isWhole_107 : decode cX1_isWhole 107 = .ok (.iconst 0, 1) := by decide +kernel
theorem dX1_isWhole_108 : decode cX1_isWhole 108 = .ok (.ireturn, 1) := by decide +kernel
theorem dX1_isWhole_109 : decode cX1_isWhole 109 = .ok (.iinc 1 1, 3) := by decide +kernel
theorem dX1_isWhole_112 : decode cX1_isWhole 112 = .ok (.goto (-26), 3) := by decide +kernel
theorem dX1_isWhole_115 : decode cX1_isWhole 115 = .ok (.aload_n 0, 1) := by decide +kernel
theorem dX1_isWhole_116 : decode cX1_isWhole 116 = .ok (.getfield 33, 3) := by decide +kernel
theorem dX1_isWhole_119 : decode cX1_isWhole 119 = .ok (.iconst 2, 1) := by decide +kernel
theorem dX1_isWhole_120 : decode cX1_isWhole 120 = .ok (.if_icmp .lt 7, 3) := by decide +kernel
theorem dX1_isWhole_123 : decode cX1_isWhole 123 = .ok (.iconst 1, 1) := by decide +kernel
theorem dX1_isWhole_124 : decode cX1_isWhole 124 = .ok (.goto 4, 3) := by decide +kernel
theorem dX1_isWhole_127 : decode cX1_isWhole 127 = .ok (.iconst 0, 1) := by decide +kernel
theorem dX1_isWhole_128 : decode cX1_isWhole 128 = .ok (.ireturn, 1) := by decide +kernel
set_option maxRecDepth 20000 in
theorem ggX1_growTrees_X1_treesTo : GoodIn wsX1_growTrees wsX1_treesTo := goodIn_r _ [7, 1, 8, 9, 10, 11, 12, 13, 14, 15, 16, 17, 18, 6, 19, 20, 21, 22, 23, 24, 25, 26, 27, 28, 29, 30, 31, 32, 33, 34, 35, 36, 37, 38, 39, 40] (by decide +kernel) (by decide +kernel)
set_option maxRecDepth 20000 in
theorem gX1_growTrees_X1_treesTo : GoodIn wsX1_growTrees (wsV RX1 66 RX1 yX1_treesTo wsX1_treesTo) := goodIn_app (goodIn_of _ (by decide +kernel)) ggX1_growTrees_X1_treesTo
theorem dX1_growTrees_0 : decode cX1_growTrees 0 = .ok (.iconst 0, 1) := by decide +kernel
theorem dX1_growTrees_1 : decode cX1_growTrees 1 = .ok (.istore_n 1, 1) := by decide +kernel
theorem dX1_growTrees_2 : decode cX1_growTrees 2 = .ok (.iload_n 1, 1) := by decide +kernel
theorem dX1_growTrees_3 : decode cX1_growTrees 3 = .ok (.aload_n 0, 1) := by decide +kernel
theorem dX1_growTrees_4 : decode cX1_growTrees 4 = .ok (.getfield 33, 3) := by decide +kernel
theorem dX1_growTrees_7 : decode cX1_growTrees 7 = .ok (.if_icmp .ge 20, 3) := by decide +kernel
theorem dX1_growTrees_10 : decode cX1_growTrees 10 = .ok (.aload_n 0, 1) := by decide +kernel
theorem dX1_growTrees_11 : decode cX1_growTrees 11 = .ok (.getfield 26, 3) := by decide +kernel
theorem dX1_growTrees_14 : decode cX1_growTrees 14 = .ok (.iload_n 1, 1) := by decide +kernel
theorem dX1_growTrees_15 : decode cX1_growTrees 15 = .ok (.aload_n 0, 1) := by decide +kernel
theorem dX1_growTrees_16 : decode cX1_growTrees 16 = .ok (.iload_n 1, 1) := by decide +kernel
theorem dX1_growTrees_17 : decode cX1_growTrees 17 = .ok (.invokevirtual 66, 3) := by decide +kernel
theorem dX1_growTrees_20 : decode cX1_growTrees 20 = .ok (.lastore, 1) := by decide +kernel
theorem dX1_growTrees_21 : decode cX1_growTrees 21 = .ok (.iinc 1 1, 3) := by decide +kernel
theorem dX1_growTrees_24 : decode cX1_growTrees 24 = .ok (.goto (-22), 3) := by decide +kernel
theorem dX1_growTrees_27 : decode cX1_growTrees 27 = .ok (.return_, 1) := by decide +kernel
set_option maxRecDepth 20000 in
theorem ggX1_treesTo_J6_bitCount_0f7a4 : GoodIn wsX1_treesTo wsJ6_bitCount_0f7a4 := goodIn_r _ [6, 7, 8, 9] (by decide +kernel) (by decide +kernel)
set_option maxRecDepth 20000 in
theorem gX1_treesTo_J6_bitCount_0f7a4 : GoodIn wsX1_treesTo (va_wsS RX1 70 yJ6_bitCount_0f7a4 wsJ6_bitCount_0f7a4) := goodIn_app (goodIn_of _ (by decide +kernel)) ggX1_treesTo_J6_bitCount_0f7a4
set_option maxRecDepth 20000 in
theorem ggX1_treesTo_X1_rowOf : GoodIn wsX1_treesTo wsX1_rowOf := goodIn_r _ [14] (by decide +kernel) (by decide +kernel)
set_option maxRecDepth 20000 in
theorem gX1_treesTo_X1_rowOf : GoodIn wsX1_treesTo (wsV RX1 76 RX1 yX1_rowOf wsX1_rowOf) := goodIn_app (goodIn_of _ (by decide +kernel)) ggX1_treesTo_X1_rowOf
set_option maxRecDepth 20000 in
theorem ggX1_treesTo_X1_minorOf : GoodIn wsX1_treesTo wsX1_minorOf := goodIn_r _ [18, 1, 19, 20, 2, 21, 22, 23, 3, 4, 5, 6, 7, 8, 9, 24, 25, 26, 27, 28, 29, 30, 31, 32, 33, 34, 35] (by decide +kernel) (by decide +kernel)
set_option maxRecDepth 20000 in
theorem gX1_treesTo_X1_minorOf : GoodIn wsX1_treesTo (wsV RX1 79 RX1 yX1_minorOf wsX1_minorOf) := goodIn_app (goodIn_of _ (by decide +kernel)) ggX1_treesTo_X1_minorOf
theorem dX1_treesTo_0 : decode cX1_treesTo 0 = .ok (.iconst 1, 1) := by decide +kernel
theorem dX1_treesTo_1 : decode cX1_treesTo 1 = .ok (.aload_n 0, 1) := by decide +kernel
theorem dX1_treesTo_2 : decode cX1_treesTo 2 = .ok (.getfield 33, 3) := by decide +kernel
theorem dX1_treesTo_5 : decode cX1_treesTo 5 = .ok (.ishl, 1) := by decide +kernel
theorem dX1_treesTo_6 : decode cX1_treesTo 6 = .ok (.iconst 1, 1) := by decide +kernel
theorem dX1_treesTo_7 : decode cX1_treesTo 7 = .ok (.isub, 1) := by decide +kernel
theorem dX1_treesTo_8 : decode cX1_treesTo 8 = .ok (.iconst 1, 1) := by decide +kernel
theorem dX1_treesTo_9 : decode cX1_treesTo 9 = .ok (.iload_n 1, 1) := by decide +kernel
theorem dX1_treesTo_10 : decode cX1_treesTo 10 = .ok (.ishl, 1) := by decide +kernel
theorem dX1_treesTo_11 : decode cX1_treesTo 11 = .ok (.iconst (-1), 1) := by decide +kernel
theorem dX1_treesTo_12 : decode cX1_treesTo 12 = .ok (.ixor, 1) := by decide +kernel
theorem dX1_treesTo_13 : decode cX1_treesTo 13 = .ok (.iand, 1) := by decide +kernel
theorem dX1_treesTo_14 : decode cX1_treesTo 14 = .ok (.istore_n 2, 1) := by decide +kernel
theorem dX1_treesTo_15 : decode cX1_treesTo 15 = .ok (.aload_n 0, 1) := by decide +kernel
theorem dX1_treesTo_16 : decode cX1_treesTo 16 = .ok (.getfield 30, 3) := by decide +kernel
theorem dX1_treesTo_19 : decode cX1_treesTo 19 = .ok (.iconst 0, 1) := by decide +kernel
theorem dX1_treesTo_20 : decode cX1_treesTo 20 = .ok (.lconst 1, 1) := by decide +kernel
theorem dX1_treesTo_21 : decode cX1_treesTo 21 = .ok (.lastore, 1) := by decide +kernel
theorem dX1_treesTo_22 : decode cX1_treesTo 22 = .ok (.iconst 1, 1) := by decide +kernel
theorem dX1_treesTo_23 : decode cX1_treesTo 23 = .ok (.istore_n 3, 1) := by decide +kernel
theorem dX1_treesTo_24 : decode cX1_treesTo 24 = .ok (.iload_n 3, 1) := by decide +kernel
theorem dX1_treesTo_25 : decode cX1_treesTo 25 = .ok (.iload_n 2, 1) := by decide +kernel
theorem dX1_treesTo_26 : decode cX1_treesTo 26 = .ok (.if_icmp .gt 39, 3) := by decide +kernel
theorem dX1_treesTo_29 : decode cX1_treesTo 29 = .ok (.iload_n 3, 1) := by decide +kernel
theorem dX1_treesTo_30 : decode cX1_treesTo 30 = .ok (.iload_n 2, 1) := by decide +kernel
theorem dX1_treesTo_31 : decode cX1_treesTo 31 = .ok (.iconst (-1), 1) := by decide +kernel
theorem dX1_treesTo_32 : decode cX1_treesTo 32 = .ok (.ixor, 1) := by decide +kernel
theorem dX1_treesTo_33 : decode cX1_treesTo 33 = .ok (.iand, 1) := by decide +kernel
theorem dX1_treesTo_34 : decode cX1_treesTo 34 = .ok (.ifCond .ne 25, 3) := by decide +kernel
theorem dX1_treesTo_37 : decode cX1_treesTo 37 = .ok (.aload_n 0, 1) := by decide +kernel
theorem dX1_treesTo_38 : decode cX1_treesTo 38 = .ok (.getfield 30, 3) := by decide +kernel
theorem dX1_treesTo_41 : decode cX1_treesTo 41 = .ok (.iload_n 3, 1) := by decide +kernel
theorem dX1_treesTo_42 : decode cX1_treesTo 42 = .ok (.aload_n 0, 1) := by decide +kernel
theorem dX1_treesTo_43 : decode cX1_treesTo 43 = .ok (.iload_n 3, 1) := by decide +kernel
theorem dX1_treesTo_44 : decode cX1_treesTo 44 = .ok (.aload_n 0, 1) := by decide +kernel
theorem dX1_treesTo_45 : decode cX1_treesTo 45 = .ok (.iload_n 3, 1) := by decide +kernel
theorem dX1_treesTo_46 : decode cX1_treesTo 46 = .ok (.invokestatic 70, 3) := by decide +kernel
theorem dX1_treesTo_49 : decode cX1_treesTo 49 = .ok (.iconst 1, 1) := by decide +kernel
theorem dX1_treesTo_50 : decode cX1_treesTo 50 = .ok (.isub, 1) := by decide +kernel
theorem dX1_treesTo_51 : decode cX1_treesTo 51 = .ok (.iload_n 1, 1) := by decide +kernel
theorem dX1_treesTo_52 : decode cX1_treesTo 52 = .ok (.invokevirtual 76, 3) := by decide +kernel
theorem dX1_treesTo_55 : decode cX1_treesTo 55 = .ok (.invokevirtual 79, 3) := by decide +kernel
theorem dX1_treesTo_58 : decode cX1_treesTo 58 = .ok (.lastore, 1) := by decide +kernel
theorem dX1_treesTo_59 : decode cX1_treesTo 59 = .ok (.iinc 3 1, 3) := by decide +kernel
theorem dX1_treesTo_62 : decode cX1_treesTo 62 = .ok (.goto (-38), 3) := by decide +kernel
theorem dX1_treesTo_65 : decode cX1_treesTo 65 = .ok (.aload_n 0, 1) := by decide +kernel
theorem dX1_treesTo_66 : decode cX1_treesTo 66 = .ok (.getfield 30, 3) := by decide +kernel
theorem dX1_treesTo_69 : decode cX1_treesTo 69 = .ok (.iload_n 2, 1) := by decide +kernel
theorem dX1_treesTo_70 : decode cX1_treesTo 70 = .ok (.laload, 1) := by decide +kernel
theorem dX1_treesTo_71 : decode cX1_treesTo 71 = .ok (.lreturn, 1) := by decide +kernel
theorem dX1_rowOf_0 : decode cX1_rowOf 0 = .ok (.iload_n 1, 1) := by decide +kernel
theorem dX1_rowOf_1 : decode cX1_rowOf 1 = .ok (.iload_n 2, 1) := by decide +kernel
theorem dX1_rowOf_2 : decode cX1_rowOf 2 = .ok (.if_icmp .ge 7, 3) := by decide +kernel
theorem dX1_rowOf_5 : decode cX1_rowOf 5 = .ok (.iload_n 1, 1) := by decide +kernel
theorem dX1_rowOf_6 : decode cX1_rowOf 6 = .ok (.goto 6, 3) := by decide +kernel
theorem dX1_rowOf_9 : decode cX1_rowOf 9 = .ok (.iload_n 1, 1) := by decide +kernel
theorem dX1_rowOf_10 : decode cX1_rowOf 10 = .ok (.iconst 1, 1) := by decide +kernel
theorem dX1_rowOf_11 : decode cX1_rowOf 11 = .ok (.iadd, 1) := by decide +kernel
theorem dX1_rowOf_12 : decode cX1_rowOf 12 = .ok (.ireturn, 1) := by decide +kernel
set_option maxRecDepth 20000 in
theorem ggX1_minorOf_X7_holds : GoodIn wsX1_minorOf wsX7_holds := goodIn_r _ [7] (by decide +kernel) (by decide +kernel)
set_option maxRecDepth 20000 in
theorem gX1_minorOf_X7_holds_n83 : GoodIn wsX1_minorOf (wsX7_holds) := ggX1_minorOf_X7_holds
set_option maxRecDepth 20000 in
theorem ggX1_minorOf_J6_bitCount_0f7a4 : GoodIn wsX1_minorOf wsJ6_bitCount_0f7a4 := goodIn_r _ [11, 12, 13, 14] (by decide +kernel) (by decide +kernel)
set_option maxRecDepth 20000 in
theorem gX1_minorOf_J6_bitCount_0f7a4 : GoodIn wsX1_minorOf (va_wsS RX1 70 yJ6_bitCount_0f7a4 wsJ6_bitCount_0f7a4) := goodIn_app (goodIn_of _ (by decide +kernel)) ggX1_minorOf_J6_bitCount_0f7a4
theorem dX1_minorOf_0 : decode cX1_minorOf 0 = .ok (.lconst 0, 1) := by decide +kernel
theorem dX1_minorOf_1 : decode cX1_minorOf 1 = .ok (.lstore_n 3, 1) := by decide +kernel
theorem dX1_minorOf_2 : decode cX1_minorOf 2 = .ok (.iconst 0, 1) := by decide +kernel
theorem dX1_minorOf_3 : decode cX1_minorOf 3 = .ok (.istore 5, 2) := by decide +kernel
theorem dX1_minorOf_5 : decode cX1_minorOf 5 = .ok (.iload 5, 2) := by decide +kernel
theorem dX1_minorOf_7 : decode cX1_minorOf 7 = .ok (.aload_n 0, 1) := by decide +kernel
theorem dX1_minorOf_8 : decode cX1_minorOf 8 = .ok (.getfield 33, 3) := by decide +kernel
theorem dX1_minorOf_11 : decode cX1_minorOf 11 = .ok (.if_icmp .ge 99, 3) := by decide +kernel
theorem dX1_minorOf_14 : decode cX1_minorOf 14 = .ok (.iload_n 1, 1) := by decide +kernel
theorem dX1_minorOf_15 : decode cX1_minorOf 15 = .ok (.iload 5, 2) := by decide +kernel
theorem dX1_minorOf_17 : decode cX1_minorOf 17 = .ok (.invokestatic 83, 3) := by decide +kernel
theorem dX1_minorOf_20 : decode cX1_minorOf 20 = .ok (.ifCond .eq 84, 3) := by decide +kernel
theorem dX1_minorOf_23 : decode cX1_minorOf 23 = .ok (.iload_n 2, 1) := by decide +kernel
theorem dX1_minorOf_24 : decode cX1_minorOf 24 = .ok (.iload 5, 2) := by decide +kernel
theorem dX1_minorOf_26 : decode cX1_minorOf 26 = .ok (.if_icmp .ne 13, 3) := by decide +kernel
theorem dX1_minorOf_29 : decode cX1_minorOf 29 = .ok (.aload_n 0, 1) := by decide +kernel
theorem dX1_minorOf_30 : decode cX1_minorOf 30 = .ok (.getfield 23, 3) := by decide +kernel
theorem dX1_minorOf_33 : decode cX1_minorOf 33 = .ok (.iload_n 2, 1) := by decide +kernel
theorem dX1_minorOf_34 : decode cX1_minorOf 34 = .ok (.iaload, 1) := by decide +kernel
theorem dX1_minorOf_35 : decode cX1_minorOf 35 = .ok (.i2l, 1) := by decide +kernel
theorem dX1_minorOf_36 : decode cX1_minorOf 36 = .ok (.goto 14, 3) := by decide +kernel
theorem dX1_minorOf_39 : decode cX1_minorOf 39 = .ok (.aload_n 0, 1) := by decide +kernel
theorem dX1_minorOf_40 : decode cX1_minorOf 40 = .ok (.getfield 11, 3) := by decide +kernel
theorem dX1_minorOf_43 : decode cX1_minorOf 43 = .ok (.iload_n 2, 1) := by decide +kernel
theorem dX1_minorOf_44 : decode cX1_minorOf 44 = .ok (.aaload, 1) := by decide +kernel
theorem dX1_minorOf_45 : decode cX1_minorOf 45 = .ok (.iload 5, 2) := by decide +kernel
theorem dX1_minorOf_47 : decode cX1_minorOf 47 = .ok (.iaload, 1) := by decide +kernel
theorem dX1_minorOf_48 : decode cX1_minorOf 48 = .ok (.ineg, 1) := by decide +kernel
theorem dX1_minorOf_49 : decode cX1_minorOf 49 = .ok (.i2l, 1) := by decide +kernel
theorem dX1_minorOf_50 : decode cX1_minorOf 50 = .ok (.lstore 6, 2) := by decide +kernel
theorem dX1_minorOf_52 : decode cX1_minorOf 52 = .ok (.iload_n 1, 1) := by decide +kernel
theorem dX1_minorOf_53 : decode cX1_minorOf 53 = .ok (.iload 5, 2) := by decide +kernel
theorem dX1_minorOf_55 : decode cX1_minorOf 55 = .ok (.iconst 1, 1) := by decide +kernel
theorem dX1_minorOf_56 : decode cX1_minorOf 56 = .ok (.iadd, 1) := by decide +kernel
theorem dX1_minorOf_57 : decode cX1_minorOf 57 = .ok (.ishr, 1) := by decide +kernel
theorem dX1_minorOf_58 : decode cX1_minorOf 58 = .ok (.invokestatic 70, 3) := by decide +kernel
theorem dX1_minorOf_61 : decode cX1_minorOf 61 = .ok (.iconst 1, 1) := by decide +kernel
theorem dX1_minorOf_62 : decode cX1_minorOf 62 = .ok (.iand, 1) := by decide +kernel
theorem dX1_minorOf_63 : decode cX1_minorOf 63 = .ok (.iconst 1, 1) := by decide +kernel
theorem dX1_minorOf_64 : decode cX1_minorOf 64 = .ok (.if_icmp .ne 7, 3) := by decide +kernel
theorem dX1_minorOf_67 : decode cX1_minorOf 67 = .ok (.iconst 1, 1) := by decide +kernel
theorem dX1_minorOf_68 : decode cX1_minorOf 68 = .ok (.goto 4, 3) := by decide +kernel
theorem dX1_minorOf_71 : decode cX1_minorOf 71 = .ok (.iconst 0, 1) := by decide +kernel
theorem dX1_minorOf_72 : decode cX1_minorOf 72 = .ok (.istore 8, 2) := by decide +kernel
theorem dX1_minorOf_74 : decode cX1_minorOf 74 = .ok (.lload_n 3, 1) := by decide +kernel
theorem dX1_minorOf_75 : decode cX1_minorOf 75 = .ok (.iload 8, 2) := by decide +kernel
theorem dX1_minorOf_77 : decode cX1_minorOf 77 = .ok (.ifCond .eq 9, 3) := by decide +kernel
theorem dX1_minorOf_80 : decode cX1_minorOf 80 = .ok (.lload 6, 2) := by decide +kernel
theorem dX1_minorOf_82 : decode cX1_minorOf 82 = .ok (.lneg, 1) := by decide +kernel
theorem dX1_minorOf_83 : decode cX1_minorOf 83 = .ok (.goto 5, 3) := by decide +kernel
theorem dX1_minorOf_86 : decode cX1_minorOf 86 = .ok (.lload 6, 2) := by decide +kernel
theorem dX1_minorOf_88 : decode cX1_minorOf 88 = .ok (.aload_n 0, 1) := by decide +kernel
theorem dX1_minorOf_89 : decode cX1_minorOf 89 = .ok (.getfield 30, 3) := by decide +kernel
theorem dX1_minorOf_92 : decode cX1_minorOf 92 = .ok (.iload_n 1, 1) := by decide +kernel
theorem dX1_minorOf_93 : decode cX1_minorOf 93 = .ok (.iconst 1, 1) := by decide +kernel
theorem dX1_minorOf_94 : decode cX1_minorOf 94 = .ok (.iload 5, 2) := by decide +kernel
theorem dX1_minorOf_96 : decode cX1_minorOf 96 = .ok (.ishl, 1) := by decide +kernel
theorem dX1_minorOf_97 : decode cX1_minorOf 97 = .ok (.iconst (-1), 1) := by decide +kernel
theorem dX1_minorOf_98 : decode cX1_minorOf 98 = .ok (.ixor, 1) := by decide +kernel
theorem dX1_minorOf_99 : decode cX1_minorOf 99 = .ok (.iand, 1) := by decide +kernel
theorem dX1_minorOf_100 : decode cX1_minorOf 100 = .ok (.laload, 1) := by decide +kernel
theorem dX1_minorOf_101 : decode cX1_minorOf 101 = .ok (.lmul, 1) := by decide +kernel
theorem dX1_minorOf_102 : decode cX1_minorOf 102 = .ok (.ladd, 1) := by decide +kernel
theorem dX1_minorOf_103 : decode cX1_minorOf 103 = .ok (.lstore_n 3, 1) := by decide +kernel
theorem dX1_minorOf_104 : decode cX1_minorOf 104 = .ok (.iinc 5 1, 3) := by decide +kernel
theorem dX1_minorOf_107 : decode cX1_minorOf 107 = .ok (.goto (-102), 3) := by decide +kernel
theorem dX1_minorOf_110 : decode cX1_minorOf 110 = .ok (.lload_n 3, 1) := by decide +kernel
theorem dX1_minorOf_111 : decode cX1_minorOf 111 = .ok (.lreturn, 1) := by decide +kernel
set_option maxRecDepth 20000 in
theorem ggX2_init_X4_init : GoodIn wsX2_init wsX4_init := goodIn_r _ [9, 10, 2, 3, 11, 12, 13, 17, 18, 19, 20, 21, 22, 23, 24, 25, 26] (by decide +kernel) (by decide +kernel)
set_option maxRecDepth 20000 in
theorem gX2_init_X4_init_n17 : GoodIn wsX2_init (wsX4_init) := ggX2_init_X4_init
theorem dX2_init_0 : decode cX2_init 0 = .ok (.aload_n 0, 1) := by decide +kernel
theorem dX2_init_1 : decode cX2_init 1 = .ok (.invokespecial 3, 3) := by decide +kernel
theorem dX2_init_4 : decode cX2_init 4 = .ok (.aload_n 0, 1) := by decide +kernel
theorem dX2_init_5 : decode cX2_init 5 = .ok (.bipush 6, 2) := by decide +kernel
theorem dX2_init_7 : decode cX2_init 7 = .ok (.anewarray 9, 3) := by decide +kernel
theorem dX2_init_10 : decode cX2_init 10 = .ok (.putfield 11, 3) := by decide +kernel
theorem dX2_init_13 : decode cX2_init 13 = .ok (.iconst 0, 1) := by decide +kernel
theorem dX2_init_14 : decode cX2_init 14 = .ok (.istore_n 1, 1) := by decide +kernel
theorem dX2_init_15 : decode cX2_init 15 = .ok (.iload_n 1, 1) := by decide +kernel
theorem dX2_init_16 : decode cX2_init 16 = .ok (.bipush 6, 2) := by decide +kernel
theorem dX2_init_18 : decode cX2_init 18 = .ok (.if_icmp .ge 22, 3) := by decide +kernel
theorem dX2_init_21 : decode cX2_init 21 = .ok (.aload_n 0, 1) := by decide +kernel
theorem dX2_init_22 : decode cX2_init 22 = .ok (.getfield 11, 3) := by decide +kernel
theorem dX2_init_25 : decode cX2_init 25 = .ok (.iload_n 1, 1) := by decide +kernel
theorem dX2_init_26 : decode cX2_init 26 = .ok (.new 9, 3) := by decide +kernel
theorem dX2_init_29 : decode cX2_init 29 = .ok (.dup, 1) := by decide +kernel
theorem dX2_init_30 : decode cX2_init 30 = .ok (.invokespecial 17, 3) := by decide +kernel
theorem dX2_init_33 : decode cX2_init 33 = .ok (.aastore, 1) := by decide +kernel
theorem dX2_init_34 : decode cX2_init 34 = .ok (.iinc 1 1, 3) := by decide +kernel
theorem dX2_init_37 : decode cX2_init 37 = .ok (.goto (-22), 3) := by decide +kernel
theorem dX2_init_40 : decode cX2_init 40 = .ok (.return_, 1) := by decide +kernel
set_option maxRecDepth 20000 in
theorem ggX2_keep_X4_copyFrom : GoodIn wsX2_keep wsX4_copyFrom := goodIn_r _ [12, 13, 14, 15, 16, 17, 18, 19, 20, 21, 22, 23, 24, 25, 26, 30, 31, 32, 33, 34, 35, 36, 37, 38, 39] (by decide +kernel) (by decide +kernel)
set_option maxRecDepth 20000 in
theorem gX2_keep_X4_copyFrom : GoodIn wsX2_keep (wsV RX2 22 RX4 yX4_copyFrom wsX4_copyFrom) := goodIn_app (goodIn_of _ (by decide +kernel)) ggX2_keep_X4_copyFrom
theorem dX2_keep_0 : decode cX2_keep 0 = .ok (.aload_n 0, 1) := by decide +kernel
theorem dX2_keep_1 : decode cX2_keep 1 = .ok (.getfield 11, 3) := by decide +kernel
theorem dX2_keep_4 : decode cX2_keep 4 = .ok (.aload_n 0, 1) := by decide +kernel
theorem dX2_keep_5 : decode cX2_keep 5 = .ok (.getfield 18, 3) := by decide +kernel
theorem dX2_keep_8 : decode cX2_keep 8 = .ok (.aaload, 1) := by decide +kernel
theorem dX2_keep_9 : decode cX2_keep 9 = .ok (.aload_n 1, 1) := by decide +kernel
theorem dX2_keep_10 : decode cX2_keep 10 = .ok (.invokevirtual 22, 3) := by decide +kernel
theorem dX2_keep_13 : decode cX2_keep 13 = .ok (.aload_n 0, 1) := by decide +kernel
theorem dX2_keep_14 : decode cX2_keep 14 = .ok (.aload_n 0, 1) := by decide +kernel
theorem dX2_keep_15 : decode cX2_keep 15 = .ok (.getfield 18, 3) := by decide +kernel
theorem dX2_keep_18 : decode cX2_keep 18 = .ok (.iconst 1, 1) := by decide +kernel
theorem dX2_keep_19 : decode cX2_keep 19 = .ok (.iadd, 1) := by decide +kernel
theorem dX2_keep_20 : decode cX2_keep 20 = .ok (.bipush 6, 2) := by decide +kernel
theorem dX2_keep_22 : decode cX2_keep 22 = .ok (.if_icmp .ge 12, 3) := by decide +kernel
theorem dX2_keep_25 : decode cX2_keep 25 = .ok (.aload_n 0, 1) := by decide +kernel
theorem dX2_keep_26 : decode cX2_keep 26 = .ok (.getfield 18, 3) := by decide +kernel
theorem dX2_keep_29 : decode cX2_keep 29 = .ok (.iconst 1, 1) := by decide +kernel
theorem dX2_keep_30 : decode cX2_keep 30 = .ok (.iadd, 1) := by decide +kernel
theorem dX2_keep_31 : decode cX2_keep 31 = .ok (.goto 4, 3) := by decide +kernel
theorem dX2_keep_34 : decode cX2_keep 34 = .ok (.iconst 0, 1) := by decide +kernel
theorem dX2_keep_35 : decode cX2_keep 35 = .ok (.putfield 18, 3) := by decide +kernel
theorem dX2_keep_38 : decode cX2_keep 38 = .ok (.aload_n 0, 1) := by decide +kernel
theorem dX2_keep_39 : decode cX2_keep 39 = .ok (.aload_n 0, 1) := by decide +kernel
theorem dX2_keep_40 : decode cX2_keep 40 = .ok (.getfield 26, 3) := by decide +kernel
theorem dX2_keep_43 : decode cX2_keep 43 = .ok (.iconst 1, 1) := by decide +kernel
theorem dX2_keep_44 : decode cX2_keep 44 = .ok (.iadd, 1) := by decide +kernel
theorem dX2_keep_45 : decode cX2_keep 45 = .ok (.bipush 6, 2) := by decide +kernel
theorem dX2_keep_47 : decode cX2_keep 47 = .ok (.invokestatic 29, 3) := by decide +kernel
theorem dX2_keep_50 : decode cX2_keep 50 = .ok (.putfield 26, 3) := by decide +kernel
theorem dX2_keep_53 : decode cX2_keep 53 = .ok (.return_, 1) := by decide +kernel
set_option maxRecDepth 20000 in
theorem ggX2_bringBack_X4_copyFrom : GoodIn wsX2_bringBack wsX4_copyFrom := goodIn_r _ [8, 9, 10, 11, 12, 13, 14, 15, 16, 17, 18, 19, 20, 21, 22, 26, 27, 28, 29, 30, 31, 32, 33, 34, 35] (by decide +kernel) (by decide +kernel)
set_option maxRecDepth 20000 in
theorem gX2_bringBack_X4_copyFrom : GoodIn wsX2_bringBack (wsV RX2 22 RX4 yX4_copyFrom wsX4_copyFrom) := goodIn_app (goodIn_of _ (by decide +kernel)) ggX2_bringBack_X4_copyFrom
theorem dX2_bringBack_0 : decode cX2_bringBack 0 = .ok (.aload_n 0, 1) := by decide +kernel
theorem dX2_bringBack_1 : decode cX2_bringBack 1 = .ok (.getfield 26, 3) := by decide +kernel
theorem dX2_bringBack_4 : decode cX2_bringBack 4 = .ok (.ifCond .ne 5, 3) := by decide +kernel
theorem dX2_bringBack_7 : decode cX2_bringBack 7 = .ok (.iconst 0, 1) := by decide +kernel
theorem dX2_bringBack_8 : decode cX2_bringBack 8 = .ok (.ireturn, 1) := by decide +kernel
theorem dX2_bringBack_9 : decode cX2_bringBack 9 = .ok (.aload_n 0, 1) := by decide +kernel
theorem dX2_bringBack_10 : decode cX2_bringBack 10 = .ok (.aload_n 0, 1) := by decide +kernel
theorem dX2_bringBack_11 : decode cX2_bringBack 11 = .ok (.getfield 18, 3) := by decide +kernel
theorem dX2_bringBack_14 : decode cX2_bringBack 14 = .ok (.ifCond .le 12, 3) := by decide +kernel
theorem dX2_bringBack_17 : decode cX2_bringBack 17 = .ok (.aload_n 0, 1) := by decide +kernel
theorem dX2_bringBack_18 : decode cX2_bringBack 18 = .ok (.getfield 18, 3) := by decide +kernel
theorem dX2_bringBack_21 : decode cX2_bringBack 21 = .ok (.iconst 1, 1) := by decide +kernel
theorem dX2_bringBack_22 : decode cX2_bringBack 22 = .ok (.isub, 1) := by decide +kernel
theorem dX2_bringBack_23 : decode cX2_bringBack 23 = .ok (.goto 4, 3) := by decide +kernel
theorem dX2_bringBack_26 : decode cX2_bringBack 26 = .ok (.iconst 5, 1) := by decide +kernel
theorem dX2_bringBack_27 : decode cX2_bringBack 27 = .ok (.putfield 18, 3) := by decide +kernel
theorem dX2_bringBack_30 : decode cX2_bringBack 30 = .ok (.aload_n 0, 1) := by decide +kernel
theorem dX2_bringBack_31 : decode cX2_bringBack 31 = .ok (.dup, 1) := by decide +kernel
theorem dX2_bringBack_32 : decode cX2_bringBack 32 = .ok (.getfield 26, 3) := by decide +kernel
theorem dX2_bringBack_35 : decode cX2_bringBack 35 = .ok (.iconst 1, 1) := by decide +kernel
theorem dX2_bringBack_36 : decode cX2_bringBack 36 = .ok (.isub, 1) := by decide +kernel
theorem dX2_bringBack_37 : decode cX2_bringBack 37 = .ok (.putfield 26, 3) := by decide +kernel
theorem dX2_bringBack_40 : decode cX2_bringBack 40 = .ok (.aload_n 1, 1) := by decide +kernel
theorem dX2_bringBack_41 : decode cX2_bringBack 41 = .ok (.aload_n 0, 1) := by decide +kernel
theorem dX2_bringBack_42 : decode cX2_bringBack 42 = .ok (.getfield 11, 3) := by decide +kernel
theorem dX2_bringBack_45 : decode cX2_bringBack 45 = .ok (.aload_n 0, 1) := by decide +kernel
theorem dX2_bringBack_46 : decode cX2_bringBack 46 = .ok (.getfield 18, 3) := by decide +kernel
theorem dX2_bringBack_49 : decode cX2_bringBack 49 = .ok (.aaload, 1) := by decide +kernel
theorem dX2_bringBack_50 : decode cX2_bringBack 50 = .ok (.invokevirtual 22, 3) := by decide +kernel
theorem dX2_bringBack_53 : decode cX2_bringBack 53 = .ok (.iconst 1, 1) := by decide +kernel
theorem dX2_bringBack_54 : decode cX2_bringBack 54 = .ok (.ireturn, 1) := by decide +kernel
theorem dX3_init_0 : decode cX3_init 0 = .ok (.aload_n 0, 1) := by decide +kernel
theorem dX3_init_1 : decode cX3_init 1 = .ok (.invokespecial 3, 3) := by decide +kernel
theorem dX3_init_4 : decode cX3_init 4 = .ok (.aload_n 0, 1) := by decide +kernel
theorem dX3_init_5 : decode cX3_init 5 = .ok (.bipush 6, 2) := by decide +kernel
theorem dX3_init_7 : decode cX3_init 7 = .ok (.newarray .int, 2) := by decide +kernel
theorem dX3_init_9 : decode cX3_init 9 = .ok (.putfield 9, 3) := by decide +kernel
theorem dX3_init_12 : decode cX3_init 12 = .ok (.return_, 1) := by decide +kernel
set_option maxRecDepth 20000 in
theorem ggX3_lineUp_X7_holds : GoodIn wsX3_lineUp wsX7_holds := goodIn_r _ [5] (by decide +kernel) (by decide +kernel)
set_option maxRecDepth 20000 in
theorem gX3_lineUp_X7_holds_n19 : GoodIn wsX3_lineUp (wsX7_holds) := ggX3_lineUp_X7_holds
theorem dX3_lineUp_0 : decode cX3_lineUp 0 = .ok (.aload_n 0, 1) := by decide +kernel
theorem dX3_lineUp_1 : decode cX3_lineUp 1 = .ok (.iconst 0, 1) := by decide +kernel
theorem dX3_lineUp_2 : decode cX3_lineUp 2 = .ok (.putfield 15, 3) := by decide +kernel
theorem dX3_lineUp_5 : decode cX3_lineUp 5 = .ok (.iconst 0, 1) := by decide +kernel
theorem dX3_lineUp_6 : decode cX3_lineUp 6 = .ok (.istore_n 3, 1) := by decide +kernel
theorem dX3_lineUp_7 : decode cX3_lineUp 7 = .ok (.iload_n 3, 1) := by decide +kernel
theorem dX3_lineUp_8 : decode cX3_lineUp 8 = .ok (.bipush 6, 2) := by decide +kernel
theorem dX3_lineUp_10 : decode cX3_lineUp 10 = .ok (.if_icmp .ge 86, 3) := by decide +kernel
theorem dX3_lineUp_13 : decode cX3_lineUp 13 = .ok (.iload_n 1, 1) := by decide +kernel
theorem dX3_lineUp_14 : decode cX3_lineUp 14 = .ok (.iload_n 3, 1) := by decide +kernel
theorem dX3_lineUp_15 : decode cX3_lineUp 15 = .ok (.invokestatic 19, 3) := by decide +kernel
theorem dX3_lineUp_18 : decode cX3_lineUp 18 = .ok (.ifCond .eq 72, 3) := by decide +kernel
theorem dX3_lineUp_21 : decode cX3_lineUp 21 = .ok (.aload_n 0, 1) := by decide +kernel
theorem dX3_lineUp_22 : decode cX3_lineUp 22 = .ok (.getfield 15, 3) := by decide +kernel
theorem dX3_lineUp_25 : decode cX3_lineUp 25 = .ok (.istore 4, 2) := by decide +kernel
theorem dX3_lineUp_27 : decode cX3_lineUp 27 = .ok (.iload 4, 2) := by decide +kernel
theorem dX3_lineUp_29 : decode cX3_lineUp 29 = .ok (.ifCond .le 43, 3) := by decide +kernel
theorem dX3_lineUp_32 : decode cX3_lineUp 32 = .ok (.aload_n 2, 1) := by decide +kernel
theorem dX3_lineUp_33 : decode cX3_lineUp 33 = .ok (.aload_n 0, 1) := by decide +kernel
theorem dX3_lineUp_34 : decode cX3_lineUp 34 = .ok (.getfield 9, 3) := by decide +kernel
theorem dX3_lineUp_37 : decode cX3_lineUp 37 = .ok (.iload 4, 2) := by decide +kernel
theorem dX3_lineUp_39 : decode cX3_lineUp 39 = .ok (.iconst 1, 1) := by decide +kernel
theorem dX3_lineUp_40 : decode cX3_lineUp 40 = .ok (.isub, 1) := by decide +kernel
theorem dX3_lineUp_41 : decode cX3_lineUp 41 = .ok (.iaload, 1) := by decide +kernel
theorem dX3_lineUp_42 : decode cX3_lineUp 42 = .ok (.laload, 1) := by decide +kernel
theorem dX3_lineUp_43 : decode cX3_lineUp 43 = .ok (.aload_n 2, 1) := by decide +kernel
theorem dX3_lineUp_44 : decode cX3_lineUp 44 = .ok (.iload_n 3, 1) := by decide +kernel
theorem dX3_lineUp_45 : decode cX3_lineUp 45 = .ok (.laload, 1) := by decide +kernel
theorem dX3_lineUp_46 : decode cX3_lineUp 46 = .ok (.lcmp, 1) := by decide +kernel
theorem dX3_lineUp_47 : decode cX3_lineUp 47 = .ok (.ifCond .ge 25, 3) := by decide +kernel
theorem dX3_lineUp_50 : decode cX3_lineUp 50 = .ok (.aload_n 0, 1) := by decide +kernel
theorem dX3_lineUp_51 : decode cX3_lineUp 51 = .ok (.getfield 9, 3) := by decide +kernel
theorem dX3_lineUp_54 : decode cX3_lineUp 54 = .ok (.iload 4, 2) := by decide +kernel
theorem dX3_lineUp_56 : decode cX3_lineUp 56 = .ok (.aload_n 0, 1) := by decide +kernel
theorem dX3_lineUp_57 : decode cX3_lineUp 57 = .ok (.getfield 9, 3) := by decide +kernel
theorem dX3_lineUp_60 : decode cX3_lineUp 60 = .ok (.iload 4, 2) := by decide +kernel
theorem dX3_lineUp_62 : decode cX3_lineUp 62 = .ok (.iconst 1, 1) := by decide +kernel
theorem dX3_lineUp_63 : decode cX3_lineUp 63 = .ok (.isub, 1) := by decide +kernel
theorem dX3_lineUp_64 : decode cX3_lineUp 64 = .ok (.iaload, 1) := by decide +kernel
theorem dX3_lineUp_65 : decode cX3_lineUp 65 = .ok (.iastore, 1) := by decide +kernel
theorem dX3_lineUp_66 : decode cX3_lineUp 66 = .ok (.iinc 4 (-1), 3) := by decide +kernel
theorem dX3_lineUp_69 : decode cX3_lineUp 69 = .ok (.goto (-42), 3) := by decide +kernel
theorem dX3_lineUp_72 : decode cX3_lineUp 72 = .ok (.aload_n 0, 1) := by decide +kernel
theorem dX3_lineUp_73 : decode cX3_lineUp 73 = .ok (.getfield 9, 3) := by decide +kernel
theorem dX3_lineUp_76 : decode cX3_lineUp 76 = .ok (.iload 4, 2) := by decide +kernel
theorem dX3_lineUp_78 : decode cX3_lineUp 78 = .ok (.iload_n 3, 1) := by decide +kernel
theorem dX3_lineUp_79 : decode cX3_lineUp 79 = .ok (.iastore, 1) := by decide +kernel
theorem dX3_lineUp_80 : decode cX3_lineUp 80 = .ok (.aload_n 0, 1) := by decide +kernel
theorem dX3_lineUp_81 : decode cX3_lineUp 81 = .ok (.dup, 1) := by decide +kernel
theorem dX3_lineUp_82 : decode cX3_lineUp 82 = .ok (.getfield 15, 3) := by decide +kernel
theorem dX3_lineUp_85 : decode cX3_lineUp 85 = .ok (.iconst 1, 1) := by decide +kernel
theorem dX3_lineUp_86 : decode cX3_lineUp 86 = .ok (.iadd, 1) := by decide +kernel
theorem dX3_lineUp_87 : decode cX3_lineUp 87 = .ok (.putfield 15, 3) := by decide +kernel
theorem dX3_lineUp_90 : decode cX3_lineUp 90 = .ok (.iinc 3 1, 3) := by decide +kernel
theorem dX3_lineUp_93 : decode cX3_lineUp 93 = .ok (.goto (-86), 3) := by decide +kernel
theorem dX3_lineUp_96 : decode cX3_lineUp 96 = .ok (.return_, 1) := by decide +kernel
set_option maxRecDepth 20000 in
theorem ggX3_split_J6_bitCount_0f7a4 : GoodIn wsX3_split wsJ6_bitCount_0f7a4 := goodIn_r _ [8, 9, 10, 11] (by decide +kernel) (by decide +kernel)
set_option maxRecDepth 20000 in
theorem gX3_split_J6_bitCount_0f7a4 : GoodIn wsX3_split (va_wsS RX3 31 yJ6_bitCount_0f7a4 wsJ6_bitCount_0f7a4) := goodIn_app (goodIn_of _ (by decide +kernel)) ggX3_split_J6_bitCount_0f7a4
set_option maxRecDepth 20000 in
theorem ggX3_split_X3_meanPaged : GoodIn wsX3_split wsX3_meanPaged := goodIn_r _ [16, 4, 17, 18, 19, 20, 15, 21, 22, 23, 24, 25, 26, 27, 28] (by decide +kernel) (by decide +kernel)
set_option maxRecDepth 20000 in
theorem gX3_split_X3_meanPaged : GoodIn wsX3_split (wsV RX3 37 RX3 yX3_meanPaged wsX3_meanPaged) := goodIn_app (goodIn_of _ (by decide +kernel)) ggX3_split_X3_meanPaged
theorem dX3_split_0 : decode cX3_split 0 = .ok (.ldc2_w 23, 3) := by decide +kernel
theorem dX3_split_3 : decode cX3_split 3 = .ok (.lstore_n 3, 1) := by decide +kernel
theorem dX3_split_4 : decode cX3_split 4 = .ok (.aload_n 0, 1) := by decide +kernel
theorem dX3_split_5 : decode cX3_split 5 = .ok (.iconst 0, 1) := by decide +kernel
theorem dX3_split_6 : decode cX3_split 6 = .ok (.putfield 25, 3) := by decide +kernel
theorem dX3_split_9 : decode cX3_split 9 = .ok (.aload_n 0, 1) := by decide +kernel
theorem dX3_split_10 : decode cX3_split 10 = .ok (.iconst 0, 1) := by decide +kernel
theorem dX3_split_11 : decode cX3_split 11 = .ok (.putfield 28, 3) := by decide +kernel
theorem dX3_split_14 : decode cX3_split 14 = .ok (.aload_n 0, 1) := by decide +kernel
theorem dX3_split_15 : decode cX3_split 15 = .ok (.getfield 15, 3) := by decide +kernel
theorem dX3_split_18 : decode cX3_split 18 = .ok (.ifCond .le 16, 3) := by decide +kernel
theorem dX3_split_21 : decode cX3_split 21 = .ok (.iconst 1, 1) := by decide +kernel
theorem dX3_split_22 : decode cX3_split 22 = .ok (.aload_n 0, 1) := by decide +kernel
theorem dX3_split_23 : decode cX3_split 23 = .ok (.getfield 15, 3) := by decide +kernel
theorem dX3_split_26 : decode cX3_split 26 = .ok (.iconst 1, 1) := by decide +kernel
theorem dX3_split_27 : decode cX3_split 27 = .ok (.isub, 1) := by decide +kernel
theorem dX3_split_28 : decode cX3_split 28 = .ok (.ishl, 1) := by decide +kernel
theorem dX3_split_29 : decode cX3_split 29 = .ok (.iconst 1, 1) := by decide +kernel
theorem dX3_split_30 : decode cX3_split 30 = .ok (.isub, 1) := by decide +kernel
theorem dX3_split_31 : decode cX3_split 31 = .ok (.goto 4, 3) := by decide +kernel
theorem dX3_split_34 : decode cX3_split 34 = .ok (.iconst (-1), 1) := by decide +kernel
theorem dX3_split_35 : decode cX3_split 35 = .ok (.istore 5, 2) := by decide +kernel
theorem dX3_split_37 : decode cX3_split 37 = .ok (.iload 5, 2) := by decide +kernel
theorem dX3_split_39 : decode cX3_split 39 = .ok (.istore 6, 2) := by decide +kernel
theorem dX3_split_41 : decode cX3_split 41 = .ok (.iload 6, 2) := by decide +kernel
theorem dX3_split_43 : decode cX3_split 43 = .ok (.ifCond .lt 90, 3) := by decide +kernel
theorem dX3_split_46 : decode cX3_split 46 = .ok (.iload 6, 2) := by decide +kernel
theorem dX3_split_48 : decode cX3_split 48 = .ok (.invokestatic 31, 3) := by decide +kernel
theorem dX3_split_51 : decode cX3_split 51 = .ok (.iconst 1, 1) := by decide +kernel
theorem dX3_split_52 : decode cX3_split 52 = .ok (.iadd, 1) := by decide +kernel
theorem dX3_split_53 : decode cX3_split 53 = .ok (.istore 7, 2) := by decide +kernel
theorem dX3_split_55 : decode cX3_split 55 = .ok (.iload 7, 2) := by decide +kernel
theorem dX3_split_57 : decode cX3_split 57 = .ok (.iload_n 1, 1) := by decide +kernel
theorem dX3_split_58 : decode cX3_split 58 = .ok (.if_icmp .gt 13, 3) := by decide +kernel
theorem dX3_split_61 : decode cX3_split 61 = .ok (.aload_n 0, 1) := by decide +kernel
theorem dX3_split_62 : decode cX3_split 62 = .ok (.iload 6, 2) := by decide +kernel
theorem dX3_split_64 : decode cX3_split 64 = .ok (.aload_n 2, 1) := by decide +kernel
theorem dX3_split_65 : decode cX3_split 65 = .ok (.invokevirtual 37, 3) := by decide +kernel
theorem dX3_split_68 : decode cX3_split 68 = .ok (.goto 6, 3) := by decide +kernel
theorem dX3_split_71 : decode cX3_split 71 = .ok (.ldc2_w 23, 3) := by decide +kernel
theorem dX3_split_74 : decode cX3_split 74 = .ok (.lstore 8, 2) := by decide +kernel
theorem dX3_split_76 : decode cX3_split 76 = .ok (.lload 8, 2) := by decide +kernel
theorem dX3_split_78 : decode cX3_split 78 = .ok (.lconst 0, 1) := by decide +kernel
theorem dX3_split_79 : decode cX3_split 79 = .ok (.lcmp, 1) := by decide +kernel
theorem dX3_split_80 : decode cX3_split 80 = .ok (.ifCond .lt 47, 3) := by decide +kernel
theorem dX3_split_83 : decode cX3_split 83 = .ok (.lload_n 3, 1) := by decide +kernel
theorem dX3_split_84 : decode cX3_split 84 = .ok (.lconst 0, 1) := by decide +kernel
theorem dX3_split_85 : decode cX3_split 85 = .ok (.lcmp, 1) := by decide +kernel
theorem dX3_split_86 : decode cX3_split 86 = .ok (.ifCond .lt 26, 3) := by decide +kernel
theorem dX3_split_89 : decode cX3_split 89 = .ok (.lload 8, 2) := by decide +kernel
theorem dX3_split_91 : decode cX3_split 91 = .ok (.lload_n 3, 1) := by decide +kernel
theorem dX3_split_92 : decode cX3_split 92 = .ok (.lcmp, 1) := by decide +kernel
theorem dX3_split_93 : decode cX3_split 93 = .ok (.ifCond .lt 19, 3) := by decide +kernel
theorem dX3_split_96 : decode cX3_split 96 = .ok (.lload 8, 2) := by decide +kernel
theorem dX3_split_98 : decode cX3_split 98 = .ok (.lload_n 3, 1) := by decide +kernel
theorem dX3_split_99 : decode cX3_split 99 = .ok (.lcmp, 1) := by decide +kernel
theorem dX3_split_100 : decode cX3_split 100 = .ok (.ifCond .ne 27, 3) := by decide +kernel
theorem dX3_split_103 : decode cX3_split 103 = .ok (.iload 7, 2) := by decide +kernel
theorem dX3_split_105 : decode cX3_split 105 = .ok (.aload_n 0, 1) := by decide +kernel
theorem dX3_split_106 : decode cX3_split 106 = .ok (.getfield 25, 3) := by decide +kernel
theorem dX3_split_109 : decode cX3_split 109 = .ok (.if_icmp .ge 18, 3) := by decide +kernel
theorem dX3_split_112 : decode cX3_split 112 = .ok (.lload 8, 2) := by decide +kernel
theorem dX3_split_114 : decode cX3_split 114 = .ok (.lstore_n 3, 1) := by decide +kernel
theorem dX3_split_115 : decode cX3_split 115 = .ok (.aload_n 0, 1) := by decide +kernel
theorem dX3_split_116 : decode cX3_split 116 = .ok (.iload 6, 2) := by decide +kernel
theorem dX3_split_118 : decode cX3_split 118 = .ok (.putfield 28, 3) := by decide +kernel
theorem dX3_split_121 : decode cX3_split 121 = .ok (.aload_n 0, 1) := by decide +kernel
theorem dX3_split_122 : decode cX3_split 122 = .ok (.iload 7, 2) := by decide +kernel
theorem dX3_split_124 : decode cX3_split 124 = .ok (.putfield 25, 3) := by decide +kernel
theorem dX3_split_127 : decode cX3_split 127 = .ok (.iinc 6 (-1), 3) := by decide +kernel
theorem dX3_split_130 : decode cX3_split 130 = .ok (.goto (-89), 3) := by decide +kernel
theorem dX3_split_133 : decode cX3_split 133 = .ok (.return_, 1) := by decide +kernel
set_option maxRecDepth 20000 in
theorem ggX3_isCutBehind_X7_holds : GoodIn wsX3_isCutBehind wsX7_holds := goodIn_r _ [4] (by decide +kernel) (by decide +kernel)
set_option maxRecDepth 20000 in
theorem gX3_isCutBehind_X7_holds_n19 : GoodIn wsX3_isCutBehind (wsX7_holds) := ggX3_isCutBehind_X7_holds
theorem dX3_isCutBehind_0 : decode cX3_isCutBehind 0 = .ok (.iload_n 2, 1) := by decide +kernel
theorem dX3_isCutBehind_1 : decode cX3_isCutBehind 1 = .ok (.aload_n 0, 1) := by decide +kernel
theorem dX3_isCutBehind_2 : decode cX3_isCutBehind 2 = .ok (.getfield 15, 3) := by decide +kernel
theorem dX3_isCutBehind_5 : decode cX3_isCutBehind 5 = .ok (.iconst 1, 1) := by decide +kernel
theorem dX3_isCutBehind_6 : decode cX3_isCutBehind 6 = .ok (.isub, 1) := by decide +kernel
theorem dX3_isCutBehind_7 : decode cX3_isCutBehind 7 = .ok (.if_icmp .ge 22, 3) := by decide +kernel
theorem dX3_isCutBehind_10 : decode cX3_isCutBehind 10 = .ok (.iload_n 1, 1) := by decide +kernel
theorem dX3_isCutBehind_11 : decode cX3_isCutBehind 11 = .ok (.aload_n 0, 1) := by decide +kernel
theorem dX3_isCutBehind_12 : decode cX3_isCutBehind 12 = .ok (.getfield 15, 3) := by decide +kernel
theorem dX3_isCutBehind_15 : decode cX3_isCutBehind 15 = .ok (.iconst 2, 1) := by decide +kernel
theorem dX3_isCutBehind_16 : decode cX3_isCutBehind 16 = .ok (.isub, 1) := by decide +kernel
theorem dX3_isCutBehind_17 : decode cX3_isCutBehind 17 = .ok (.iload_n 2, 1) := by decide +kernel
theorem dX3_isCutBehind_18 : decode cX3_isCutBehind 18 = .ok (.isub, 1) := by decide +kernel
theorem dX3_isCutBehind_19 : decode cX3_isCutBehind 19 = .ok (.invokestatic 19, 3) := by decide +kernel
theorem dX3_isCutBehind_22 : decode cX3_isCutBehind 22 = .ok (.ifCond .eq 7, 3) := by decide +kernel
theorem dX3_isCutBehind_25 : decode cX3_isCutBehind 25 = .ok (.iconst 1, 1) := by decide +kernel
theorem dX3_isCutBehind_26 : decode cX3_isCutBehind 26 = .ok (.goto 4, 3) := by decide +kernel
theorem dX3_isCutBehind_29 : decode cX3_isCutBehind 29 = .ok (.iconst 0, 1) := by decide +kernel
theorem dX3_isCutBehind_30 : decode cX3_isCutBehind 30 = .ok (.ireturn, 1) := by decide +kernel
set_option maxRecDepth 20000 in
theorem ggX3_meanPaged_X3_isCutBehind : GoodIn wsX3_meanPaged wsX3_isCutBehind := goodIn_r _ [7, 1, 8, 9, 10, 11, 12, 13, 14] (by decide +kernel) (by decide +kernel)
set_option maxRecDepth 20000 in
theorem gX3_meanPaged_X3_isCutBehind : GoodIn wsX3_meanPaged (wsV RX3 41 RX3 yX3_isCutBehind wsX3_isCutBehind) := goodIn_app (goodIn_of _ (by decide +kernel)) ggX3_meanPaged_X3_isCutBehind
theorem dX3_meanPaged_0 : decode cX3_meanPaged 0 = .ok (.lconst 0, 1) := by decide +kernel
theorem dX3_meanPaged_1 : decode cX3_meanPaged 1 = .ok (.lstore_n 3, 1) := by decide +kernel
theorem dX3_meanPaged_2 : decode cX3_meanPaged 2 = .ok (.aload_n 0, 1) := by decide +kernel
theorem dX3_meanPaged_3 : decode cX3_meanPaged 3 = .ok (.getfield 15, 3) := by decide +kernel
theorem dX3_meanPaged_6 : decode cX3_meanPaged 6 = .ok (.istore 5, 2) := by decide +kernel
theorem dX3_meanPaged_8 : decode cX3_meanPaged 8 = .ok (.aload_n 0, 1) := by decide +kernel
theorem dX3_meanPaged_9 : decode cX3_meanPaged 9 = .ok (.getfield 15, 3) := by decide +kernel
theorem dX3_meanPaged_12 : decode cX3_meanPaged 12 = .ok (.iconst 1, 1) := by decide +kernel
theorem dX3_meanPaged_13 : decode cX3_meanPaged 13 = .ok (.isub, 1) := by decide +kernel
theorem dX3_meanPaged_14 : decode cX3_meanPaged 14 = .ok (.istore 6, 2) := by decide +kernel
theorem dX3_meanPaged_16 : decode cX3_meanPaged 16 = .ok (.iload 6, 2) := by decide +kernel
theorem dX3_meanPaged_18 : decode cX3_meanPaged 18 = .ok (.ifCond .lt 41, 3) := by decide +kernel
theorem dX3_meanPaged_21 : decode cX3_meanPaged 21 = .ok (.aload_n 0, 1) := by decide +kernel
theorem dX3_meanPaged_22 : decode cX3_meanPaged 22 = .ok (.iload_n 1, 1) := by decide +kernel
theorem dX3_meanPaged_23 : decode cX3_meanPaged 23 = .ok (.iload 6, 2) := by decide +kernel
theorem dX3_meanPaged_25 : decode cX3_meanPaged 25 = .ok (.invokevirtual 41, 3) := by decide +kernel
theorem dX3_meanPaged_28 : decode cX3_meanPaged 28 = .ok (.ifCond .eq 9, 3) := by decide +kernel
theorem dX3_meanPaged_31 : decode cX3_meanPaged 31 = .ok (.iload 6, 2) := by decide +kernel
theorem dX3_meanPaged_33 : decode cX3_meanPaged 33 = .ok (.iconst 1, 1) := by decide +kernel
theorem dX3_meanPaged_34 : decode cX3_meanPaged 34 = .ok (.iadd, 1) := by decide +kernel
theorem dX3_meanPaged_35 : decode cX3_meanPaged 35 = .ok (.istore 5, 2) := by decide +kernel
theorem dX3_meanPaged_37 : decode cX3_meanPaged 37 = .ok (.lload_n 3, 1) := by decide +kernel
theorem dX3_meanPaged_38 : decode cX3_meanPaged 38 = .ok (.iload 5, 2) := by decide +kernel
theorem dX3_meanPaged_40 : decode cX3_meanPaged 40 = .ok (.i2l, 1) := by decide +kernel
end
section
theorem dX3_meanPaged_41 : decode cX3_meanPaged 41 = .ok (.aload_n 2, 1) := by decide +kernel
theorem dX3_meanPaged_42 : decode cX3_meanPaged 42 = .ok (.aload_n 0, 1) := by decide +kernel
theorem dX3_meanPaged_43 : decode cX3_meanPaged 43 = .ok (.getfield 9, 3) := by decide +kernel
theorem dX3_meanPaged_46 : decode cX3_meanPaged 46 = .ok (.iload 6, 2) := by decide +kernel
theorem dX3_meanPaged_48 : decode cX3_meanPaged 48 = .ok (.iaload, 1) := by decide +kernel
theorem dX3_meanPaged_49 : decode cX3_meanPaged 49 = .ok (.laload, 1) := by decide +kernel
theorem dX3_meanPaged_50 : decode cX3_meanPaged 50 = .ok (.lmul, 1) := by decide +kernel
theorem dX3_meanPaged_51 : decode cX3_meanPaged 51 = .ok (.ladd, 1) := by decide +kernel
theorem dX3_meanPaged_52 : decode cX3_meanPaged 52 = .ok (.lstore_n 3, 1) := by decide +kernel
theorem dX3_meanPaged_53 : decode cX3_meanPaged 53 = .ok (.iinc 6 (-1), 3) := by decide +kernel
theorem dX3_meanPaged_56 : decode cX3_meanPaged 56 = .ok (.goto (-40), 3) := by decide +kernel
theorem dX3_meanPaged_59 : decode cX3_meanPaged 59 = .ok (.lload_n 3, 1) := by decide +kernel
theorem dX3_meanPaged_60 : decode cX3_meanPaged 60 = .ok (.lreturn, 1) := by decide +kernel
set_option maxRecDepth 20000 in
theorem ggX3_cellsOf_X3_isCutBehind : GoodIn wsX3_cellsOf wsX3_isCutBehind := goodIn_r _ [8, 1, 9, 10, 11, 12, 13, 14, 15] (by decide +kernel) (by decide +kernel)
set_option maxRecDepth 20000 in
theorem gX3_cellsOf_X3_isCutBehind : GoodIn wsX3_cellsOf (wsV RX3 41 RX3 yX3_isCutBehind wsX3_isCutBehind) := goodIn_app (goodIn_of _ (by decide +kernel)) ggX3_cellsOf_X3_isCutBehind
theorem dX3_cellsOf_0 : decode cX3_cellsOf 0 = .ok (.iconst 0, 1) := by decide +kernel
theorem dX3_cellsOf_1 : decode cX3_cellsOf 1 = .ok (.istore_n 2, 1) := by decide +kernel
theorem dX3_cellsOf_2 : decode cX3_cellsOf 2 = .ok (.iconst 0, 1) := by decide +kernel
theorem dX3_cellsOf_3 : decode cX3_cellsOf 3 = .ok (.istore_n 3, 1) := by decide +kernel
theorem dX3_cellsOf_4 : decode cX3_cellsOf 4 = .ok (.iconst 0, 1) := by decide +kernel
theorem dX3_cellsOf_5 : decode cX3_cellsOf 5 = .ok (.istore 4, 2) := by decide +kernel
theorem dX3_cellsOf_7 : decode cX3_cellsOf 7 = .ok (.iload 4, 2) := by decide +kernel
theorem dX3_cellsOf_9 : decode cX3_cellsOf 9 = .ok (.aload_n 0, 1) := by decide +kernel
theorem dX3_cellsOf_10 : decode cX3_cellsOf 10 = .ok (.getfield 15, 3) := by decide +kernel
theorem dX3_cellsOf_13 : decode cX3_cellsOf 13 = .ok (.if_icmp .ge 42, 3) := by decide +kernel
theorem dX3_cellsOf_16 : decode cX3_cellsOf 16 = .ok (.iload_n 3, 1) := by decide +kernel
theorem dX3_cellsOf_17 : decode cX3_cellsOf 17 = .ok (.iload_n 1, 1) := by decide +kernel
theorem dX3_cellsOf_18 : decode cX3_cellsOf 18 = .ok (.if_icmp .ne 15, 3) := by decide +kernel
theorem dX3_cellsOf_21 : decode cX3_cellsOf 21 = .ok (.iload_n 2, 1) := by decide +kernel
theorem dX3_cellsOf_22 : decode cX3_cellsOf 22 = .ok (.iconst 1, 1) := by decide +kernel
theorem dX3_cellsOf_23 : decode cX3_cellsOf 23 = .ok (.aload_n 0, 1) := by decide +kernel
theorem dX3_cellsOf_24 : decode cX3_cellsOf 24 = .ok (.getfield 9, 3) := by decide +kernel
theorem dX3_cellsOf_27 : decode cX3_cellsOf 27 = .ok (.iload 4, 2) := by decide +kernel
theorem dX3_cellsOf_29 : decode cX3_cellsOf 29 = .ok (.iaload, 1) := by decide +kernel
theorem dX3_cellsOf_30 : decode cX3_cellsOf 30 = .ok (.ishl, 1) := by decide +kernel
theorem dX3_cellsOf_31 : decode cX3_cellsOf 31 = .ok (.ior, 1) := by decide +kernel
theorem dX3_cellsOf_32 : decode cX3_cellsOf 32 = .ok (.istore_n 2, 1) := by decide +kernel
theorem dX3_cellsOf_33 : decode cX3_cellsOf 33 = .ok (.aload_n 0, 1) := by decide +kernel
theorem dX3_cellsOf_34 : decode cX3_cellsOf 34 = .ok (.aload_n 0, 1) := by decide +kernel
theorem dX3_cellsOf_35 : decode cX3_cellsOf 35 = .ok (.getfield 28, 3) := by decide +kernel
theorem dX3_cellsOf_38 : decode cX3_cellsOf 38 = .ok (.iload 4, 2) := by decide +kernel
theorem dX3_cellsOf_40 : decode cX3_cellsOf 40 = .ok (.invokevirtual 41, 3) := by decide +kernel
theorem dX3_cellsOf_43 : decode cX3_cellsOf 43 = .ok (.ifCond .eq 6, 3) := by decide +kernel
theorem dX3_cellsOf_46 : decode cX3_cellsOf 46 = .ok (.iinc 3 1, 3) := by decide +kernel
theorem dX3_cellsOf_49 : decode cX3_cellsOf 49 = .ok (.iinc 4 1, 3) := by decide +kernel
theorem dX3_cellsOf_52 : decode cX3_cellsOf 52 = .ok (.goto (-45), 3) := by decide +kernel
theorem dX3_cellsOf_55 : decode cX3_cellsOf 55 = .ok (.iload_n 2, 1) := by decide +kernel
theorem dX3_cellsOf_56 : decode cX3_cellsOf 56 = .ok (.ireturn, 1) := by decide +kernel
theorem dX4_init_0 : decode cX4_init 0 = .ok (.aload_n 0, 1) := by decide +kernel
theorem dX4_init_1 : decode cX4_init 1 = .ok (.invokespecial 3, 3) := by decide +kernel
theorem dX4_init_4 : decode cX4_init 4 = .ok (.aload_n 0, 1) := by decide +kernel
theorem dX4_init_5 : decode cX4_init 5 = .ok (.bipush 6, 2) := by decide +kernel
theorem dX4_init_7 : decode cX4_init 7 = .ok (.newarray .int, 2) := by decide +kernel
theorem dX4_init_9 : decode cX4_init 9 = .ok (.putfield 9, 3) := by decide +kernel
theorem dX4_init_12 : decode cX4_init 12 = .ok (.aload_n 0, 1) := by decide +kernel
theorem dX4_init_13 : decode cX4_init 13 = .ok (.bipush 6, 2) := by decide +kernel
theorem dX4_init_15 : decode cX4_init 15 = .ok (.newarray .int, 2) := by decide +kernel
theorem dX4_init_17 : decode cX4_init 17 = .ok (.putfield 15, 3) := by decide +kernel
theorem dX4_init_20 : decode cX4_init 20 = .ok (.return_, 1) := by decide +kernel
set_option maxRecDepth 20000 in
theorem ggX4_begin_X4_register : GoodIn wsX4_begin wsX4_register := goodIn_r _ [12, 5, 13, 14, 15, 16, 17, 18, 19, 20, 21, 22, 23, 24, 25] (by decide +kernel) (by decide +kernel)
set_option maxRecDepth 20000 in
theorem gX4_begin_X4_register : GoodIn wsX4_begin (wsV RX4 34 RX4 yX4_register wsX4_register) := goodIn_app (goodIn_of _ (by decide +kernel)) ggX4_begin_X4_register
theorem dX4_begin_0 : decode cX4_begin 0 = .ok (.iconst 0, 1) := by decide +kernel
theorem dX4_begin_1 : decode cX4_begin 1 = .ok (.istore_n 1, 1) := by decide +kernel
theorem dX4_begin_2 : decode cX4_begin 2 = .ok (.iload_n 1, 1) := by decide +kernel
theorem dX4_begin_3 : decode cX4_begin 3 = .ok (.bipush 6, 2) := by decide +kernel
theorem dX4_begin_5 : decode cX4_begin 5 = .ok (.if_icmp .ge 23, 3) := by decide +kernel
theorem dX4_begin_8 : decode cX4_begin 8 = .ok (.aload_n 0, 1) := by decide +kernel
theorem dX4_begin_9 : decode cX4_begin 9 = .ok (.getfield 9, 3) := by decide +kernel
theorem dX4_begin_12 : decode cX4_begin 12 = .ok (.iload_n 1, 1) := by decide +kernel
theorem dX4_begin_13 : decode cX4_begin 13 = .ok (.iconst 1, 1) := by decide +kernel
theorem dX4_begin_14 : decode cX4_begin 14 = .ok (.iastore, 1) := by decide +kernel
theorem dX4_begin_15 : decode cX4_begin 15 = .ok (.aload_n 0, 1) := by decide +kernel
theorem dX4_begin_16 : decode cX4_begin 16 = .ok (.getfield 15, 3) := by decide +kernel
theorem dX4_begin_19 : decode cX4_begin 19 = .ok (.iload_n 1, 1) := by decide +kernel
theorem dX4_begin_20 : decode cX4_begin 20 = .ok (.iconst 0, 1) := by decide +kernel
theorem dX4_begin_21 : decode cX4_begin 21 = .ok (.iastore, 1) := by decide +kernel
theorem dX4_begin_22 : decode cX4_begin 22 = .ok (.iinc 1 1, 3) := by decide +kernel
theorem dX4_begin_25 : decode cX4_begin 25 = .ok (.goto (-23), 3) := by decide +kernel
theorem dX4_begin_28 : decode cX4_begin 28 = .ok (.aload_n 0, 1) := by decide +kernel
theorem dX4_begin_29 : decode cX4_begin 29 = .ok (.iconst 0, 1) := by decide +kernel
theorem dX4_begin_30 : decode cX4_begin 30 = .ok (.putfield 18, 3) := by decide +kernel
theorem dX4_begin_33 : decode cX4_begin 33 = .ok (.aload_n 0, 1) := by decide +kernel
theorem dX4_begin_34 : decode cX4_begin 34 = .ok (.iconst 0, 1) := by decide +kernel
theorem dX4_begin_35 : decode cX4_begin 35 = .ok (.putfield 22, 3) := by decide +kernel
theorem dX4_begin_38 : decode cX4_begin 38 = .ok (.aload_n 0, 1) := by decide +kernel
theorem dX4_begin_39 : decode cX4_begin 39 = .ok (.iconst 0, 1) := by decide +kernel
theorem dX4_begin_40 : decode cX4_begin 40 = .ok (.putfield 25, 3) := by decide +kernel
theorem dX4_begin_43 : decode cX4_begin 43 = .ok (.aload_n 0, 1) := by decide +kernel
theorem dX4_begin_44 : decode cX4_begin 44 = .ok (.iconst 0, 1) := by decide +kernel
theorem dX4_begin_45 : decode cX4_begin 45 = .ok (.putfield 28, 3) := by decide +kernel
theorem dX4_begin_48 : decode cX4_begin 48 = .ok (.aload_n 0, 1) := by decide +kernel
theorem dX4_begin_49 : decode cX4_begin 49 = .ok (.iconst 0, 1) := by decide +kernel
theorem dX4_begin_50 : decode cX4_begin 50 = .ok (.putfield 31, 3) := by decide +kernel
theorem dX4_begin_53 : decode cX4_begin 53 = .ok (.aload_n 0, 1) := by decide +kernel
theorem dX4_begin_54 : decode cX4_begin 54 = .ok (.invokevirtual 34, 3) := by decide +kernel
theorem dX4_begin_57 : decode cX4_begin 57 = .ok (.return_, 1) := by decide +kernel
theorem dX4_copyFrom_0 : decode cX4_copyFrom 0 = .ok (.aload_n 1, 1) := by decide +kernel
theorem dX4_copyFrom_1 : decode cX4_copyFrom 1 = .ok (.getfield 9, 3) := by decide +kernel
theorem dX4_copyFrom_4 : decode cX4_copyFrom 4 = .ok (.iconst 0, 1) := by decide +kernel
theorem dX4_copyFrom_5 : decode cX4_copyFrom 5 = .ok (.aload_n 0, 1) := by decide +kernel
theorem dX4_copyFrom_6 : decode cX4_copyFrom 6 = .ok (.getfield 9, 3) := by decide +kernel
theorem dX4_copyFrom_9 : decode cX4_copyFrom 9 = .ok (.iconst 0, 1) := by decide +kernel
theorem dX4_copyFrom_10 : decode cX4_copyFrom 10 = .ok (.bipush 6, 2) := by decide +kernel
theorem dX4_copyFrom_12 : decode cX4_copyFrom 12 = .ok (.invokestatic 37, 3) := by decide +kernel
theorem dX4_copyFrom_15 : decode cX4_copyFrom 15 = .ok (.aload_n 1, 1) := by decide +kernel
theorem dX4_copyFrom_16 : decode cX4_copyFrom 16 = .ok (.getfield 15, 3) := by decide +kernel
theorem dX4_copyFrom_19 : decode cX4_copyFrom 19 = .ok (.iconst 0, 1) := by decide +kernel
theorem dX4_copyFrom_20 : decode cX4_copyFrom 20 = .ok (.aload_n 0, 1) := by decide +kernel
theorem dX4_copyFrom_21 : decode cX4_copyFrom 21 = .ok (.getfield 15, 3) := by decide +kernel
theorem dX4_copyFrom_24 : decode cX4_copyFrom 24 = .ok (.iconst 0, 1) := by decide +kernel
theorem dX4_copyFrom_25 : decode cX4_copyFrom 25 = .ok (.bipush 6, 2) := by decide +kernel
theorem dX4_copyFrom_27 : decode cX4_copyFrom 27 = .ok (.invokestatic 37, 3) := by decide +kernel
theorem dX4_copyFrom_30 : decode cX4_copyFrom 30 = .ok (.aload_n 0, 1) := by decide +kernel
theorem dX4_copyFrom_31 : decode cX4_copyFrom 31 = .ok (.aload_n 1, 1) := by decide +kernel
theorem dX4_copyFrom_32 : decode cX4_copyFrom 32 = .ok (.getfield 18, 3) := by decide +kernel
theorem dX4_copyFrom_35 : decode cX4_copyFrom 35 = .ok (.putfield 18, 3) := by decide +kernel
theorem dX4_copyFrom_38 : decode cX4_copyFrom 38 = .ok (.aload_n 0, 1) := by decide +kernel
theorem dX4_copyFrom_39 : decode cX4_copyFrom 39 = .ok (.aload_n 1, 1) := by decide +kernel
theorem dX4_copyFrom_40 : decode cX4_copyFrom 40 = .ok (.getfield 22, 3) := by decide +kernel
theorem dX4_copyFrom_43 : decode cX4_copyFrom 43 = .ok (.putfield 22, 3) := by decide +kernel
theorem dX4_copyFrom_46 : decode cX4_copyFrom 46 = .ok (.aload_n 0, 1) := by decide +kernel
theorem dX4_copyFrom_47 : decode cX4_copyFrom 47 = .ok (.aload_n 1, 1) := by decide +kernel
theorem dX4_copyFrom_48 : decode cX4_copyFrom 48 = .ok (.getfield 25, 3) := by decide +kernel
theorem dX4_copyFrom_51 : decode cX4_copyFrom 51 = .ok (.putfield 25, 3) := by decide +kernel
theorem dX4_copyFrom_54 : decode cX4_copyFrom 54 = .ok (.aload_n 0, 1) := by decide +kernel
theorem dX4_copyFrom_55 : decode cX4_copyFrom 55 = .ok (.aload_n 1, 1) := by decide +kernel
theorem dX4_copyFrom_56 : decode cX4_copyFrom 56 = .ok (.getfield 43, 3) := by decide +kernel
theorem dX4_copyFrom_59 : decode cX4_copyFrom 59 = .ok (.putfield 43, 3) := by decide +kernel
theorem dX4_copyFrom_62 : decode cX4_copyFrom 62 = .ok (.aload_n 0, 1) := by decide +kernel
theorem dX4_copyFrom_63 : decode cX4_copyFrom 63 = .ok (.aload_n 1, 1) := by decide +kernel
theorem dX4_copyFrom_64 : decode cX4_copyFrom 64 = .ok (.getfield 46, 3) := by decide +kernel
theorem dX4_copyFrom_67 : decode cX4_copyFrom 67 = .ok (.putfield 46, 3) := by decide +kernel
theorem dX4_copyFrom_70 : decode cX4_copyFrom 70 = .ok (.aload_n 0, 1) := by decide +kernel
theorem dX4_copyFrom_71 : decode cX4_copyFrom 71 = .ok (.aload_n 1, 1) := by decide +kernel
theorem dX4_copyFrom_72 : decode cX4_copyFrom 72 = .ok (.getfield 49, 3) := by decide +kernel
theorem dX4_copyFrom_75 : decode cX4_copyFrom 75 = .ok (.putfield 49, 3) := by decide +kernel
theorem dX4_copyFrom_78 : decode cX4_copyFrom 78 = .ok (.aload_n 0, 1) := by decide +kernel
theorem dX4_copyFrom_79 : decode cX4_copyFrom 79 = .ok (.aload_n 1, 1) := by decide +kernel
theorem dX4_copyFrom_80 : decode cX4_copyFrom 80 = .ok (.getfield 28, 3) := by decide +kernel
theorem dX4_copyFrom_83 : decode cX4_copyFrom 83 = .ok (.putfield 28, 3) := by decide +kernel
theorem dX4_copyFrom_86 : decode cX4_copyFrom 86 = .ok (.aload_n 0, 1) := by decide +kernel
theorem dX4_copyFrom_87 : decode cX4_copyFrom 87 = .ok (.aload_n 1, 1) := by decide +kernel
theorem dX4_copyFrom_88 : decode cX4_copyFrom 88 = .ok (.getfield 31, 3) := by decide +kernel
theorem dX4_copyFrom_91 : decode cX4_copyFrom 91 = .ok (.putfield 31, 3) := by decide +kernel
theorem dX4_copyFrom_94 : decode cX4_copyFrom 94 = .ok (.return_, 1) := by decide +kernel
theorem dX4_register_0 : decode cX4_register 0 = .ok (.aload_n 0, 1) := by decide +kernel
theorem dX4_register_1 : decode cX4_register 1 = .ok (.aload_n 0, 1) := by decide +kernel
theorem dX4_register_2 : decode cX4_register 2 = .ok (.getfield 25, 3) := by decide +kernel
theorem dX4_register_5 : decode cX4_register 5 = .ok (.putfield 43, 3) := by decide +kernel
theorem dX4_register_8 : decode cX4_register 8 = .ok (.aload_n 0, 1) := by decide +kernel
theorem dX4_register_9 : decode cX4_register 9 = .ok (.iconst 0, 1) := by decide +kernel
theorem dX4_register_10 : decode cX4_register 10 = .ok (.putfield 46, 3) := by decide +kernel
theorem dX4_register_13 : decode cX4_register 13 = .ok (.aload_n 0, 1) := by decide +kernel
theorem dX4_register_14 : decode cX4_register 14 = .ok (.iconst 0, 1) := by decide +kernel
theorem dX4_register_15 : decode cX4_register 15 = .ok (.putfield 49, 3) := by decide +kernel
theorem dX4_register_18 : decode cX4_register 18 = .ok (.return_, 1) := by decide +kernel
set_option maxRecDepth 20000 in
theorem ggX4_canGo_X7_holds : GoodIn wsX4_canGo wsX7_holds := goodIn_r _ [6] (by decide +kernel) (by decide +kernel)
set_option maxRecDepth 20000 in
theorem gX4_canGo_X7_holds_n57 : GoodIn wsX4_canGo (wsX7_holds) := ggX4_canGo_X7_holds
theorem dX4_canGo_0 : decode cX4_canGo 0 = .ok (.iload_n 2, 1) := by decide +kernel
theorem dX4_canGo_1 : decode cX4_canGo 1 = .ok (.aload_n 0, 1) := by decide +kernel
theorem dX4_canGo_2 : decode cX4_canGo 2 = .ok (.getfield 25, 3) := by decide +kernel
theorem dX4_canGo_5 : decode cX4_canGo 5 = .ok (.if_icmp .ne 20, 3) := by decide +kernel
theorem dX4_canGo_8 : decode cX4_canGo 8 = .ok (.aload_n 0, 1) := by decide +kernel
theorem dX4_canGo_9 : decode cX4_canGo 9 = .ok (.getfield 9, 3) := by decide +kernel
theorem dX4_canGo_12 : decode cX4_canGo 12 = .ok (.iload_n 2, 1) := by decide +kernel
theorem dX4_canGo_13 : decode cX4_canGo 13 = .ok (.iaload, 1) := by decide +kernel
theorem dX4_canGo_14 : decode cX4_canGo 14 = .ok (.ifCond .le 7, 3) := by decide +kernel
theorem dX4_canGo_17 : decode cX4_canGo 17 = .ok (.iconst 1, 1) := by decide +kernel
theorem dX4_canGo_18 : decode cX4_canGo 18 = .ok (.goto 20, 3) := by decide +kernel
theorem dX4_canGo_21 : decode cX4_canGo 21 = .ok (.iconst 0, 1) := by decide +kernel
theorem dX4_canGo_22 : decode cX4_canGo 22 = .ok (.goto 16, 3) := by decide +kernel
theorem dX4_canGo_25 : decode cX4_canGo 25 = .ok (.aload_n 1, 1) := by decide +kernel
theorem dX4_canGo_26 : decode cX4_canGo 26 = .ok (.getfield 52, 3) := by decide +kernel
theorem dX4_canGo_29 : decode cX4_canGo 29 = .ok (.aload_n 0, 1) := by decide +kernel
theorem dX4_canGo_30 : decode cX4_canGo 30 = .ok (.getfield 25, 3) := by decide +kernel
theorem dX4_canGo_33 : decode cX4_canGo 33 = .ok (.iaload, 1) := by decide +kernel
theorem dX4_canGo_34 : decode cX4_canGo 34 = .ok (.iload_n 2, 1) := by decide +kernel
theorem dX4_canGo_35 : decode cX4_canGo 35 = .ok (.invokestatic 57, 3) := by decide +kernel
theorem dX4_canGo_38 : decode cX4_canGo 38 = .ok (.ireturn, 1) := by decide +kernel
set_option maxRecDepth 20000 in
theorem ggX4_go_X4_isDue : GoodIn wsX4_go wsX4_isDue := goodIn_r _ [9, 10, 2, 11, 3, 1, 12, 13, 14, 8, 15, 16, 17, 18, 23, 24, 25, 26, 27, 28, 29, 30, 31, 32, 33, 34, 35, 36, 37, 38, 39, 40, 41, 42, 43, 44] (by decide +kernel) (by decide +kernel)
set_option maxRecDepth 20000 in
theorem gX4_go_X4_isDue : GoodIn wsX4_go (wsV RX4 61 RX4 yX4_isDue wsX4_isDue) := goodIn_app (goodIn_of _ (by decide +kernel)) ggX4_go_X4_isDue
set_option maxRecDepth 20000 in
theorem ggX4_go_X4_register : GoodIn wsX4_go wsX4_register := goodIn_r _ [22, 1, 17, 2, 3, 23, 24, 25, 26, 27, 28, 29, 30, 31, 32] (by decide +kernel) (by decide +kernel)
set_option maxRecDepth 20000 in
theorem gX4_go_X4_register : GoodIn wsX4_go (wsV RX4 34 RX4 yX4_register wsX4_register) := goodIn_app (goodIn_of _ (by decide +kernel)) ggX4_go_X4_register
theorem dX4_go_0 : decode cX4_go 0 = .ok (.iload_n 2, 1) := by decide +kernel
theorem dX4_go_1 : decode cX4_go 1 = .ok (.aload_n 0, 1) := by decide +kernel
theorem dX4_go_2 : decode cX4_go 2 = .ok (.getfield 25, 3) := by decide +kernel
theorem dX4_go_5 : decode cX4_go 5 = .ok (.if_icmp .eq 13, 3) := by decide +kernel
theorem dX4_go_8 : decode cX4_go 8 = .ok (.aload_n 0, 1) := by decide +kernel
theorem dX4_go_9 : decode cX4_go 9 = .ok (.dup, 1) := by decide +kernel
theorem dX4_go_10 : decode cX4_go 10 = .ok (.getfield 46, 3) := by decide +kernel
theorem dX4_go_13 : decode cX4_go 13 = .ok (.iconst 1, 1) := by decide +kernel
theorem dX4_go_14 : decode cX4_go 14 = .ok (.iadd, 1) := by decide +kernel
theorem dX4_go_15 : decode cX4_go 15 = .ok (.putfield 46, 3) := by decide +kernel
theorem dX4_go_18 : decode cX4_go 18 = .ok (.aload_n 0, 1) := by decide +kernel
theorem dX4_go_19 : decode cX4_go 19 = .ok (.dup, 1) := by decide +kernel
theorem dX4_go_20 : decode cX4_go 20 = .ok (.getfield 49, 3) := by decide +kernel
theorem dX4_go_23 : decode cX4_go 23 = .ok (.iconst 1, 1) := by decide +kernel
theorem dX4_go_24 : decode cX4_go 24 = .ok (.iadd, 1) := by decide +kernel
theorem dX4_go_25 : decode cX4_go 25 = .ok (.putfield 49, 3) := by decide +kernel
theorem dX4_go_28 : decode cX4_go 28 = .ok (.aload_n 0, 1) := by decide +kernel
theorem dX4_go_29 : decode cX4_go 29 = .ok (.iload_n 2, 1) := by decide +kernel
theorem dX4_go_30 : decode cX4_go 30 = .ok (.putfield 25, 3) := by decide +kernel
theorem dX4_go_33 : decode cX4_go 33 = .ok (.aload_n 0, 1) := by decide +kernel
theorem dX4_go_34 : decode cX4_go 34 = .ok (.aload_n 1, 1) := by decide +kernel
theorem dX4_go_35 : decode cX4_go 35 = .ok (.invokevirtual 61, 3) := by decide +kernel
theorem dX4_go_38 : decode cX4_go 38 = .ok (.ifCond .ne 5, 3) := by decide +kernel
theorem dX4_go_41 : decode cX4_go 41 = .ok (.iconst 0, 1) := by decide +kernel
theorem dX4_go_42 : decode cX4_go 42 = .ok (.ireturn, 1) := by decide +kernel
theorem dX4_go_43 : decode cX4_go 43 = .ok (.aload_n 0, 1) := by decide +kernel
theorem dX4_go_44 : decode cX4_go 44 = .ok (.invokevirtual 34, 3) := by decide +kernel
theorem dX4_go_47 : decode cX4_go 47 = .ok (.aload_n 0, 1) := by decide +kernel
theorem dX4_go_48 : decode cX4_go 48 = .ok (.dup, 1) := by decide +kernel
theorem dX4_go_49 : decode cX4_go 49 = .ok (.getfield 28, 3) := by decide +kernel
theorem dX4_go_52 : decode cX4_go 52 = .ok (.iconst 1, 1) := by decide +kernel
theorem dX4_go_53 : decode cX4_go 53 = .ok (.iadd, 1) := by decide +kernel
theorem dX4_go_54 : decode cX4_go 54 = .ok (.putfield 28, 3) := by decide +kernel
theorem dX4_go_57 : decode cX4_go 57 = .ok (.iconst 1, 1) := by decide +kernel
theorem dX4_go_58 : decode cX4_go 58 = .ok (.ireturn, 1) := by decide +kernel
set_option maxRecDepth 20000 in
theorem ggX4_isDue_X4_isOutside : GoodIn wsX4_isDue wsX4_isOutside := goodIn_r _ [10, 1, 11, 12, 13, 3, 14, 15, 16, 17, 18, 19, 20, 21, 22, 23, 24, 25, 26, 27, 28, 29, 30, 31, 32, 33, 34, 35] (by decide +kernel) (by decide +kernel)
set_option maxRecDepth 20000 in
theorem gX4_isDue_X4_isOutside : GoodIn wsX4_isDue (wsV RX4 65 RX4 yX4_isOutside wsX4_isOutside) := goodIn_app (goodIn_of _ (by decide +kernel)) ggX4_isDue_X4_isOutside
theorem dX4_isDue_0 : decode cX4_isDue 0 = .ok (.aload_n 0, 1) := by decide +kernel
theorem dX4_isDue_1 : decode cX4_isDue 1 = .ok (.getfield 18, 3) := by decide +kernel
theorem dX4_isDue_4 : decode cX4_isDue 4 = .ok (.lookupswitch 62 #[(1, 28), (2, 45)], 28) := by decide +kernel
theorem dX4_isDue_32 : decode cX4_isDue 32 = .ok (.aload_n 0, 1) := by decide +kernel
theorem dX4_isDue_33 : decode cX4_isDue 33 = .ok (.getfield 46, 3) := by decide +kernel
theorem dX4_isDue_36 : decode cX4_isDue 36 = .ok (.aload_n 0, 1) := by decide +kernel
theorem dX4_isDue_37 : decode cX4_isDue 37 = .ok (.getfield 22, 3) := by decide +kernel
theorem dX4_isDue_40 : decode cX4_isDue 40 = .ok (.if_icmp .lt 7, 3) := by decide +kernel
theorem dX4_isDue_43 : decode cX4_isDue 43 = .ok (.iconst 1, 1) := by decide +kernel
theorem dX4_isDue_44 : decode cX4_isDue 44 = .ok (.goto 4, 3) := by decide +kernel
theorem dX4_isDue_47 : decode cX4_isDue 47 = .ok (.iconst 0, 1) := by decide +kernel
theorem dX4_isDue_48 : decode cX4_isDue 48 = .ok (.ireturn, 1) := by decide +kernel
theorem dX4_isDue_49 : decode cX4_isDue 49 = .ok (.aload_n 0, 1) := by decide +kernel
theorem dX4_isDue_50 : decode cX4_isDue 50 = .ok (.getfield 49, 3) := by decide +kernel
theorem dX4_isDue_53 : decode cX4_isDue 53 = .ok (.aload_n 0, 1) := by decide +kernel
theorem dX4_isDue_54 : decode cX4_isDue 54 = .ok (.getfield 22, 3) := by decide +kernel
theorem dX4_isDue_57 : decode cX4_isDue 57 = .ok (.if_icmp .lt 7, 3) := by decide +kernel
theorem dX4_isDue_60 : decode cX4_isDue 60 = .ok (.iconst 1, 1) := by decide +kernel
theorem dX4_isDue_61 : decode cX4_isDue 61 = .ok (.goto 4, 3) := by decide +kernel
theorem dX4_isDue_64 : decode cX4_isDue 64 = .ok (.iconst 0, 1) := by decide +kernel
theorem dX4_isDue_65 : decode cX4_isDue 65 = .ok (.ireturn, 1) := by decide +kernel
theorem dX4_isDue_66 : decode cX4_isDue 66 = .ok (.aload_n 0, 1) := by decide +kernel
theorem dX4_isDue_67 : decode cX4_isDue 67 = .ok (.aload_n 1, 1) := by decide +kernel
theorem dX4_isDue_68 : decode cX4_isDue 68 = .ok (.aload_n 0, 1) := by decide +kernel
theorem dX4_isDue_69 : decode cX4_isDue 69 = .ok (.getfield 25, 3) := by decide +kernel
theorem dX4_isDue_72 : decode cX4_isDue 72 = .ok (.invokevirtual 65, 3) := by decide +kernel
theorem dX4_isDue_75 : decode cX4_isDue 75 = .ok (.ireturn, 1) := by decide +kernel
theorem dX4_isOutside_0 : decode cX4_isOutside 0 = .ok (.aload_n 0, 1) := by decide +kernel
theorem dX4_isOutside_1 : decode cX4_isOutside 1 = .ok (.getfield 18, 3) := by decide +kernel
theorem dX4_isOutside_4 : decode cX4_isOutside 4 = .ok (.lookupswitch 76 #[(0, 28), (3, 52)], 28) := by decide +kernel
theorem dX4_isOutside_32 : decode cX4_isOutside 32 = .ok (.aload_n 0, 1) := by decide +kernel
theorem dX4_isOutside_33 : decode cX4_isOutside 33 = .ok (.getfield 15, 3) := by decide +kernel
theorem dX4_isOutside_36 : decode cX4_isOutside 36 = .ok (.iload_n 2, 1) := by decide +kernel
theorem dX4_isOutside_37 : decode cX4_isOutside 37 = .ok (.iaload, 1) := by decide +kernel
theorem dX4_isOutside_38 : decode cX4_isOutside 38 = .ok (.aload_n 0, 1) := by decide +kernel
theorem dX4_isOutside_39 : decode cX4_isOutside 39 = .ok (.getfield 15, 3) := by decide +kernel
theorem dX4_isOutside_42 : decode cX4_isOutside 42 = .ok (.aload_n 0, 1) := by decide +kernel
theorem dX4_isOutside_43 : decode cX4_isOutside 43 = .ok (.getfield 43, 3) := by decide +kernel
theorem dX4_isOutside_46 : decode cX4_isOutside 46 = .ok (.iaload, 1) := by decide +kernel
theorem dX4_isOutside_47 : decode cX4_isOutside 47 = .ok (.if_icmp .eq 7, 3) := by decide +kernel
theorem dX4_isOutside_50 : decode cX4_isOutside 50 = .ok (.iconst 1, 1) := by decide +kernel
theorem dX4_isOutside_51 : decode cX4_isOutside 51 = .ok (.goto 4, 3) := by decide +kernel
theorem dX4_isOutside_54 : decode cX4_isOutside 54 = .ok (.iconst 0, 1) := by decide +kernel
theorem dX4_isOutside_55 : decode cX4_isOutside 55 = .ok (.ireturn, 1) := by decide +kernel
theorem dX4_isOutside_56 : decode cX4_isOutside 56 = .ok (.aload_n 1, 1) := by decide +kernel
theorem dX4_isOutside_57 : decode cX4_isOutside 57 = .ok (.getfield 69, 3) := by decide +kernel
theorem dX4_isOutside_60 : decode cX4_isOutside 60 = .ok (.aload_n 0, 1) := by decide +kernel
theorem dX4_isOutside_61 : decode cX4_isOutside 61 = .ok (.getfield 43, 3) := by decide +kernel
theorem dX4_isOutside_64 : decode cX4_isOutside 64 = .ok (.aaload, 1) := by decide +kernel
theorem dX4_isOutside_65 : decode cX4_isOutside 65 = .ok (.iload_n 2, 1) := by decide +kernel
theorem dX4_isOutside_66 : decode cX4_isOutside 66 = .ok (.iaload, 1) := by decide +kernel
theorem dX4_isOutside_67 : decode cX4_isOutside 67 = .ok (.aload_n 0, 1) := by decide +kernel
theorem dX4_isOutside_68 : decode cX4_isOutside 68 = .ok (.getfield 22, 3) := by decide +kernel
theorem dX4_isOutside_71 : decode cX4_isOutside 71 = .ok (.if_icmp .lt 7, 3) := by decide +kernel
theorem dX4_isOutside_74 : decode cX4_isOutside 74 = .ok (.iconst 1, 1) := by decide +kernel
theorem dX4_isOutside_75 : decode cX4_isOutside 75 = .ok (.goto 4, 3) := by decide +kernel
theorem dX4_isOutside_78 : decode cX4_isOutside 78 = .ok (.iconst 0, 1) := by decide +kernel
theorem dX4_isOutside_79 : decode cX4_isOutside 79 = .ok (.ireturn, 1) := by decide +kernel
theorem dX4_isOutside_80 : decode cX4_isOutside 80 = .ok (.iconst 0, 1) := by decide +kernel
theorem dX4_isOutside_81 : decode cX4_isOutside 81 = .ok (.ireturn, 1) := by decide +kernel
theorem dX4_drawnCell_0 : decode cX4_drawnCell 0 = .ok (.aload_n 0, 1) := by decide +kernel
theorem dX4_drawnCell_1 : decode cX4_drawnCell 1 = .ok (.getfield 9, 3) := by decide +kernel
theorem dX4_drawnCell_4 : decode cX4_drawnCell 4 = .ok (.aload_n 0, 1) := by decide +kernel
theorem dX4_drawnCell_5 : decode cX4_drawnCell 5 = .ok (.getfield 25, 3) := by decide +kernel
theorem dX4_drawnCell_8 : decode cX4_drawnCell 8 = .ok (.iaload, 1) := by decide +kernel
theorem dX4_drawnCell_9 : decode cX4_drawnCell 9 = .ok (.aload_n 1, 1) := by decide +kernel
theorem dX4_drawnCell_10 : decode cX4_drawnCell 10 = .ok (.getfield 73, 3) := by decide +kernel
theorem dX4_drawnCell_13 : decode cX4_drawnCell 13 = .ok (.aload_n 0, 1) := by decide +kernel
theorem dX4_drawnCell_14 : decode cX4_drawnCell 14 = .ok (.getfield 25, 3) := by decide +kernel
theorem dX4_drawnCell_17 : decode cX4_drawnCell 17 = .ok (.iaload, 1) := by decide +kernel
theorem dX4_drawnCell_18 : decode cX4_drawnCell 18 = .ok (.iadd, 1) := by decide +kernel
theorem dX4_drawnCell_19 : decode cX4_drawnCell 19 = .ok (.istore_n 3, 1) := by decide +kernel
theorem dX4_drawnCell_20 : decode cX4_drawnCell 20 = .ok (.iload_n 3, 1) := by decide +kernel
theorem dX4_drawnCell_21 : decode cX4_drawnCell 21 = .ok (.ifCond .le 9, 3) := by decide +kernel
theorem dX4_drawnCell_24 : decode cX4_drawnCell 24 = .ok (.iload_n 2, 1) := by decide +kernel
theorem dX4_drawnCell_25 : decode cX4_drawnCell 25 = .ok (.iload_n 3, 1) := by decide +kernel
theorem dX4_drawnCell_26 : decode cX4_drawnCell 26 = .ok (.irem, 1) := by decide +kernel
theorem dX4_drawnCell_27 : decode cX4_drawnCell 27 = .ok (.goto 4, 3) := by decide +kernel
theorem dX4_drawnCell_30 : decode cX4_drawnCell 30 = .ok (.iconst 0, 1) := by decide +kernel
theorem dX4_drawnCell_31 : decode cX4_drawnCell 31 = .ok (.istore 4, 2) := by decide +kernel
theorem dX4_drawnCell_33 : decode cX4_drawnCell 33 = .ok (.aload_n 0, 1) := by decide +kernel
theorem dX4_drawnCell_34 : decode cX4_drawnCell 34 = .ok (.getfield 9, 3) := by decide +kernel
theorem dX4_drawnCell_37 : decode cX4_drawnCell 37 = .ok (.aload_n 0, 1) := by decide +kernel
theorem dX4_drawnCell_38 : decode cX4_drawnCell 38 = .ok (.getfield 25, 3) := by decide +kernel
theorem dX4_drawnCell_41 : decode cX4_drawnCell 41 = .ok (.iaload, 1) := by decide +kernel
theorem dX4_drawnCell_42 : decode cX4_drawnCell 42 = .ok (.istore 5, 2) := by decide +kernel
theorem dX4_drawnCell_44 : decode cX4_drawnCell 44 = .ok (.iload 4, 2) := by decide +kernel
theorem dX4_drawnCell_46 : decode cX4_drawnCell 46 = .ok (.iload 5, 2) := by decide +kernel
theorem dX4_drawnCell_48 : decode cX4_drawnCell 48 = .ok (.if_icmp .ge 8, 3) := by decide +kernel
theorem dX4_drawnCell_51 : decode cX4_drawnCell 51 = .ok (.aload_n 0, 1) := by decide +kernel
theorem dX4_drawnCell_52 : decode cX4_drawnCell 52 = .ok (.getfield 25, 3) := by decide +kernel
theorem dX4_drawnCell_55 : decode cX4_drawnCell 55 = .ok (.ireturn, 1) := by decide +kernel
theorem dX4_drawnCell_56 : decode cX4_drawnCell 56 = .ok (.iconst 0, 1) := by decide +kernel
theorem dX4_drawnCell_57 : decode cX4_drawnCell 57 = .ok (.istore 6, 2) := by decide +kernel
theorem dX4_drawnCell_59 : decode cX4_drawnCell 59 = .ok (.iload 6, 2) := by decide +kernel
theorem dX4_drawnCell_61 : decode cX4_drawnCell 61 = .ok (.aload_n 1, 1) := by decide +kernel
theorem dX4_drawnCell_62 : decode cX4_drawnCell 62 = .ok (.getfield 76, 3) := by decide +kernel
theorem dX4_drawnCell_65 : decode cX4_drawnCell 65 = .ok (.if_icmp .ge 36, 3) := by decide +kernel
theorem dX4_drawnCell_68 : decode cX4_drawnCell 68 = .ok (.iload 5, 2) := by decide +kernel
theorem dX4_drawnCell_70 : decode cX4_drawnCell 70 = .ok (.aload_n 1, 1) := by decide +kernel
theorem dX4_drawnCell_71 : decode cX4_drawnCell 71 = .ok (.getfield 79, 3) := by decide +kernel
theorem dX4_drawnCell_74 : decode cX4_drawnCell 74 = .ok (.aload_n 0, 1) := by decide +kernel
theorem dX4_drawnCell_75 : decode cX4_drawnCell 75 = .ok (.getfield 25, 3) := by decide +kernel
theorem dX4_drawnCell_78 : decode cX4_drawnCell 78 = .ok (.aaload, 1) := by decide +kernel
theorem dX4_drawnCell_79 : decode cX4_drawnCell 79 = .ok (.iload 6, 2) := by decide +kernel
theorem dX4_drawnCell_81 : decode cX4_drawnCell 81 = .ok (.iaload, 1) := by decide +kernel
theorem dX4_drawnCell_82 : decode cX4_drawnCell 82 = .ok (.iadd, 1) := by decide +kernel
theorem dX4_drawnCell_83 : decode cX4_drawnCell 83 = .ok (.istore 5, 2) := by decide +kernel
theorem dX4_drawnCell_85 : decode cX4_drawnCell 85 = .ok (.iload 4, 2) := by decide +kernel
theorem dX4_drawnCell_87 : decode cX4_drawnCell 87 = .ok (.iload 5, 2) := by decide +kernel
theorem dX4_drawnCell_89 : decode cX4_drawnCell 89 = .ok (.if_icmp .ge 6, 3) := by decide +kernel
theorem dX4_drawnCell_92 : decode cX4_drawnCell 92 = .ok (.iload 6, 2) := by decide +kernel
theorem dX4_drawnCell_94 : decode cX4_drawnCell 94 = .ok (.ireturn, 1) := by decide +kernel
theorem dX4_drawnCell_95 : decode cX4_drawnCell 95 = .ok (.iinc 6 1, 3) := by decide +kernel
theorem dX4_drawnCell_98 : decode cX4_drawnCell 98 = .ok (.goto (-39), 3) := by decide +kernel
theorem dX4_drawnCell_101 : decode cX4_drawnCell 101 = .ok (.aload_n 0, 1) := by decide +kernel
theorem dX4_drawnCell_102 : decode cX4_drawnCell 102 = .ok (.getfield 25, 3) := by decide +kernel
theorem dX4_drawnCell_105 : decode cX4_drawnCell 105 = .ok (.ireturn, 1) := by decide +kernel
theorem dX5_init_0 : decode cX5_init 0 = .ok (.aload_n 0, 1) := by decide +kernel
theorem dX5_init_1 : decode cX5_init 1 = .ok (.invokespecial 3, 3) := by decide +kernel
theorem dX5_init_4 : decode cX5_init 4 = .ok (.aload_n 0, 1) := by decide +kernel
theorem dX5_init_5 : decode cX5_init 5 = .ok (.sipush 200, 3) := by decide +kernel
theorem dX5_init_8 : decode cX5_init 8 = .ok (.newarray .int, 2) := by decide +kernel
theorem dX5_init_10 : decode cX5_init 10 = .ok (.putfield 9, 3) := by decide +kernel
theorem dX5_init_13 : decode cX5_init 13 = .ok (.aload_n 0, 1) := by decide +kernel
theorem dX5_init_14 : decode cX5_init 14 = .ok (.iconst 4, 1) := by decide +kernel
theorem dX5_init_15 : decode cX5_init 15 = .ok (.newarray .int, 2) := by decide +kernel
theorem dX5_init_17 : decode cX5_init 17 = .ok (.putfield 15, 3) := by decide +kernel
theorem dX5_init_20 : decode cX5_init 20 = .ok (.return_, 1) := by decide +kernel
theorem dX5_append_0 : decode cX5_append 0 = .ok (.aload_n 0, 1) := by decide +kernel
theorem dX5_append_1 : decode cX5_append 1 = .ok (.getfield 18, 3) := by decide +kernel
theorem dX5_append_4 : decode cX5_append 4 = .ok (.sipush 200, 3) := by decide +kernel
theorem dX5_append_7 : decode cX5_append 7 = .ok (.if_icmp .lt 5, 3) := by decide +kernel
theorem dX5_append_10 : decode cX5_append 10 = .ok (.iconst 0, 1) := by decide +kernel
theorem dX5_append_11 : decode cX5_append 11 = .ok (.ireturn, 1) := by decide +kernel
theorem dX5_append_12 : decode cX5_append 12 = .ok (.aload_n 0, 1) := by decide +kernel
theorem dX5_append_13 : decode cX5_append 13 = .ok (.getfield 9, 3) := by decide +kernel
theorem dX5_append_16 : decode cX5_append 16 = .ok (.aload_n 0, 1) := by decide +kernel
theorem dX5_append_17 : decode cX5_append 17 = .ok (.getfield 18, 3) := by decide +kernel
theorem dX5_append_20 : decode cX5_append 20 = .ok (.iload_n 1, 1) := by decide +kernel
theorem dX5_append_21 : decode cX5_append 21 = .ok (.iastore, 1) := by decide +kernel
theorem dX5_append_22 : decode cX5_append 22 = .ok (.aload_n 0, 1) := by decide +kernel
theorem dX5_append_23 : decode cX5_append 23 = .ok (.dup, 1) := by decide +kernel
theorem dX5_append_24 : decode cX5_append 24 = .ok (.getfield 18, 3) := by decide +kernel
theorem dX5_append_27 : decode cX5_append 27 = .ok (.iconst 1, 1) := by decide +kernel
theorem dX5_append_28 : decode cX5_append 28 = .ok (.iadd, 1) := by decide +kernel
theorem dX5_append_29 : decode cX5_append 29 = .ok (.putfield 18, 3) := by decide +kernel
theorem dX5_append_32 : decode cX5_append 32 = .ok (.iconst 1, 1) := by decide +kernel
theorem dX5_append_33 : decode cX5_append 33 = .ok (.ireturn, 1) := by decide +kernel
set_option maxRecDepth 20000 in
theorem ggX5_readInto_X1_begin : GoodIn wsX5_readInto wsX1_begin := goodIn_r _ [7, 8, 9, 10, 11, 12, 13, 14, 15, 16, 6, 17, 18, 19, 20, 21, 114, 115, 116, 117, 118, 119, 120, 121, 122, 123, 124, 125] (by decide +kernel) (by decide +kernel)
set_option maxRecDepth 20000 in
theorem gX5_readInto_X1_begin : GoodIn wsX5_readInto (wsV RX5 22 RX1 yX1_begin wsX1_begin) := goodIn_app (goodIn_of _ (by decide +kernel)) ggX5_readInto_X1_begin
set_option maxRecDepth 20000 in
theorem ggX5_readInto_X4_begin : GoodIn wsX5_readInto wsX4_begin := goodIn_r _ [26, 27, 28, 29, 30, 31, 32, 33, 34, 35, 36, 25, 37, 38, 39, 40, 126, 127, 128, 129, 130, 131, 132, 133, 134, 135] (by decide +kernel) (by decide +kernel)
set_option maxRecDepth 20000 in
theorem gX5_readInto_X4_begin : GoodIn wsX5_readInto (wsV RX5 28 RX4 yX4_begin wsX4_begin) := goodIn_app (goodIn_of _ (by decide +kernel)) ggX5_readInto_X4_begin
set_option maxRecDepth 20000 in
theorem ggX5_readInto_X5_readItem : GoodIn wsX5_readInto wsX5_readItem := goodIn_r _ [45, 1, 46, 47, 48, 49, 50, 51, 44, 52, 2, 53, 54, 55, 56, 57, 58, 59, 60, 61, 62, 63, 64, 65, 66, 67, 68, 69, 70, 71, 72, 73, 74, 3, 4, 5, 6, 7, 8, 9, 10, 11, 12, 13, 14, 15, 16, 17, 18, 19, 20, 21, 75, 76, 77, 78, 79, 80, 81, 82, 83, 84, 85, 86, 87, 88, 89, 90, 91, 92, 93, 94, 95, 96, 97, 98, 99, 100, 101, 102, 103, 104, 105, 106, 107, 108, 109, 110, 111, 112, 113, 114, 115, 116, 117, 118, 119, 120, 121, 122, 123, 124, 125, 126, 127, 128, 129, 130, 131, 132, 133, 134, 135] (by decide +kernel) (by decide +kernel)
set_option maxRecDepth 20000 in
theorem gX5_readInto_X5_readItem : GoodIn wsX5_readInto (wsV RX5 35 RX5 yX5_readItem wsX5_readItem) := goodIn_app (goodIn_of _ (by decide +kernel)) ggX5_readInto_X5_readItem
theorem dX5_readInto_0 : decode cX5_readInto 0 = .ok (.aload_n 1, 1) := by decide +kernel
theorem dX5_readInto_1 : decode cX5_readInto 1 = .ok (.iconst 0, 1) := by decide +kernel
theorem dX5_readInto_2 : decode cX5_readInto 2 = .ok (.invokevirtual 22, 3) := by decide +kernel
theorem dX5_readInto_5 : decode cX5_readInto 5 = .ok (.aload_n 2, 1) := by decide +kernel
theorem dX5_readInto_6 : decode cX5_readInto 6 = .ok (.invokevirtual 28, 3) := by decide +kernel
theorem dX5_readInto_9 : decode cX5_readInto 9 = .ok (.aload_n 0, 1) := by decide +kernel
theorem dX5_readInto_10 : decode cX5_readInto 10 = .ok (.iconst 0, 1) := by decide +kernel
theorem dX5_readInto_11 : decode cX5_readInto 11 = .ok (.putfield 32, 3) := by decide +kernel
theorem dX5_readInto_14 : decode cX5_readInto 14 = .ok (.iconst 0, 1) := by decide +kernel
theorem dX5_readInto_15 : decode cX5_readInto 15 = .ok (.istore_n 3, 1) := by decide +kernel
theorem dX5_readInto_16 : decode cX5_readInto 16 = .ok (.iload_n 3, 1) := by decide +kernel
theorem dX5_readInto_17 : decode cX5_readInto 17 = .ok (.sipush 200, 3) := by decide +kernel
theorem dX5_readInto_20 : decode cX5_readInto 20 = .ok (.if_icmp .ge 38, 3) := by decide +kernel
theorem dX5_readInto_23 : decode cX5_readInto 23 = .ok (.aload_n 0, 1) := by decide +kernel
theorem dX5_readInto_24 : decode cX5_readInto 24 = .ok (.getfield 32, 3) := by decide +kernel
theorem dX5_readInto_27 : decode cX5_readInto 27 = .ok (.aload_n 0, 1) := by decide +kernel
theorem dX5_readInto_28 : decode cX5_readInto 28 = .ok (.getfield 18, 3) := by decide +kernel
theorem dX5_readInto_31 : decode cX5_readInto 31 = .ok (.if_icmp .ge 27, 3) := by decide +kernel
theorem dX5_readInto_34 : decode cX5_readInto 34 = .ok (.aload_n 0, 1) := by decide +kernel
theorem dX5_readInto_35 : decode cX5_readInto 35 = .ok (.getfield 32, 3) := by decide +kernel
theorem dX5_readInto_38 : decode cX5_readInto 38 = .ok (.istore 4, 2) := by decide +kernel
theorem dX5_readInto_40 : decode cX5_readInto 40 = .ok (.aload_n 0, 1) := by decide +kernel
theorem dX5_readInto_41 : decode cX5_readInto 41 = .ok (.aload_n 1, 1) := by decide +kernel
theorem dX5_readInto_42 : decode cX5_readInto 42 = .ok (.aload_n 2, 1) := by decide +kernel
theorem dX5_readInto_43 : decode cX5_readInto 43 = .ok (.invokevirtual 35, 3) := by decide +kernel
theorem dX5_readInto_46 : decode cX5_readInto 46 = .ok (.ifCond .ne 6, 3) := by decide +kernel
theorem dX5_readInto_49 : decode cX5_readInto 49 = .ok (.iload 4, 2) := by decide +kernel
theorem dX5_readInto_51 : decode cX5_readInto 51 = .ok (.ireturn, 1) := by decide +kernel
theorem dX5_readInto_52 : decode cX5_readInto 52 = .ok (.iinc 3 1, 3) := by decide +kernel
theorem dX5_readInto_55 : decode cX5_readInto 55 = .ok (.goto (-39), 3) := by decide +kernel
theorem dX5_readInto_58 : decode cX5_readInto 58 = .ok (.bipush (-4), 2) := by decide +kernel
theorem dX5_readInto_60 : decode cX5_readInto 60 = .ok (.ireturn, 1) := by decide +kernel
set_option maxRecDepth 20000 in
theorem ggX5_readItem_X5_letterHere : GoodIn wsX5_readItem wsX5_letterHere := goodIn_r _ [9, 1, 10, 11, 87, 88, 89, 90] (by decide +kernel) (by decide +kernel)
set_option maxRecDepth 20000 in
theorem gX5_readItem_X5_letterHere : GoodIn wsX5_readItem (wsV RX5 39 RX5 yX5_letterHere wsX5_letterHere) := goodIn_app (goodIn_of _ (by decide +kernel)) ggX5_readItem_X5_letterHere
set_option maxRecDepth 20000 in
theorem ggX5_readItem_X5_numbersBehind : GoodIn wsX5_readItem wsX5_numbersBehind := goodIn_r _ [15] (by decide +kernel) (by decide +kernel)
set_option maxRecDepth 20000 in
theorem gX5_readItem_X5_numbersBehind : GoodIn wsX5_readItem (wsV RX5 46 RX5 yX5_numbersBehind wsX5_numbersBehind) := goodIn_app (goodIn_of _ (by decide +kernel)) ggX5_readItem_X5_numbersBehind
set_option maxRecDepth 20000 in
theorem ggX5_readItem_X5_readNumbers : GoodIn wsX5_readItem wsX5_readNumbers := goodIn_r _ [19, 20, 1, 21, 22, 23, 8, 24, 25, 26, 27, 28, 10, 11, 5, 6, 7, 9, 87, 88, 89, 90] (by decide +kernel) (by decide +kernel)
set_option maxRecDepth 20000 in
theorem gX5_readItem_X5_readNumbers : GoodIn wsX5_readItem (wsV RX5 50 RX5 yX5_readNumbers wsX5_readNumbers) := goodIn_app (goodIn_of _ (by decide +kernel)) ggX5_readItem_X5_readNumbers
set_option maxRecDepth 20000 in
theorem ggX5_readItem_X5_takeCells : GoodIn wsX5_readItem wsX5_takeCells := goodIn_r _ [32, 20, 33, 34, 35, 36, 37, 38, 39, 40, 41, 42, 43, 44, 45, 46, 47, 48, 49, 50, 51, 87, 88, 89, 90, 91, 92, 93, 94, 95, 96, 97, 98, 99, 100, 101, 102] (by decide +kernel) (by decide +kernel)
set_option maxRecDepth 20000 in
theorem gX5_readItem_X5_takeCells : GoodIn wsX5_readItem (wsV RX5 54 RX5 yX5_takeCells wsX5_takeCells) := goodIn_app (goodIn_of _ (by decide +kernel)) ggX5_readItem_X5_takeCells
set_option maxRecDepth 20000 in
theorem ggX5_readItem_X5_takeJoin : GoodIn wsX5_readItem wsX5_takeJoin := goodIn_r _ [55, 20, 2, 56, 57, 58, 59, 8, 60, 61, 62, 63, 36, 64, 39, 65, 66, 67, 68, 42, 43, 40, 41, 87, 88, 89, 90, 91, 92, 93, 94, 95, 96, 97, 98, 99, 100, 101, 102] (by decide +kernel) (by decide +kernel)
set_option maxRecDepth 20000 in
theorem gX5_readItem_X5_takeJoin : GoodIn wsX5_readItem (wsV RX5 58 RX5 yX5_takeJoin wsX5_takeJoin) := goodIn_app (goodIn_of _ (by decide +kernel)) ggX5_readItem_X5_takeJoin
set_option maxRecDepth 20000 in
theorem ggX5_readItem_X5_takeCellNumber : GoodIn wsX5_readItem wsX5_takeCellNumber := goodIn_r _ [72, 20, 2, 87, 88, 89, 90, 91, 92, 93, 94, 95, 96, 97, 98, 99, 100, 101, 102] (by decide +kernel) (by decide +kernel)
set_option maxRecDepth 20000 in
theorem gX5_readItem_X5_takeCellNumber : GoodIn wsX5_readItem (wsV RX5 64 RX5 yX5_takeCellNumber wsX5_takeCellNumber) := goodIn_app (goodIn_of _ (by decide +kernel)) ggX5_readItem_X5_takeCellNumber
set_option maxRecDepth 20000 in
theorem ggX5_readItem_X5_takeLaw : GoodIn wsX5_readItem wsX5_takeLaw := goodIn_r _ [76, 20, 77, 78, 79, 80, 81, 87, 88, 89, 90, 103, 104, 105, 106, 107, 108, 109, 110, 111, 112] (by decide +kernel) (by decide +kernel)
set_option maxRecDepth 20000 in
theorem gX5_readItem_X5_takeLaw : GoodIn wsX5_readItem (wsV RX5 71 RX5 yX5_takeLaw wsX5_takeLaw) := goodIn_app (goodIn_of _ (by decide +kernel)) ggX5_readItem_X5_takeLaw
set_option maxRecDepth 20000 in
theorem ggX5_readItem_X5_takePrices : GoodIn wsX5_readItem wsX5_takePrices := goodIn_r _ [85, 20, 86, 45, 46, 36, 47, 48, 49, 50, 51, 87, 88, 89, 90, 91, 92, 93, 94, 95, 96, 97, 98, 99, 100, 101, 102] (by decide +kernel) (by decide +kernel)
set_option maxRecDepth 20000 in
theorem gX5_readItem_X5_takePrices : GoodIn wsX5_readItem (wsV RX5 75 RX5 yX5_takePrices wsX5_takePrices) := goodIn_app (goodIn_of _ (by decide +kernel)) ggX5_readItem_X5_takePrices
theorem dX5_readItem_0 : decode cX5_readItem 0 = .ok (.aload_n 0, 1) := by decide +kernel
theorem dX5_readItem_1 : decode cX5_readItem 1 = .ok (.invokevirtual 39, 3) := by decide +kernel
theorem dX5_readItem_4 : decode cX5_readItem 4 = .ok (.istore_n 3, 1) := by decide +kernel
theorem dX5_readItem_5 : decode cX5_readItem 5 = .ok (.aload_n 0, 1) := by decide +kernel
theorem dX5_readItem_6 : decode cX5_readItem 6 = .ok (.dup, 1) := by decide +kernel
theorem dX5_readItem_7 : decode cX5_readItem 7 = .ok (.getfield 32, 3) := by decide +kernel
theorem dX5_readItem_10 : decode cX5_readItem 10 = .ok (.iconst 1, 1) := by decide +kernel
theorem dX5_readItem_11 : decode cX5_readItem 11 = .ok (.iadd, 1) := by decide +kernel
theorem dX5_readItem_12 : decode cX5_readItem 12 = .ok (.putfield 32, 3) := by decide +kernel
theorem dX5_readItem_15 : decode cX5_readItem 15 = .ok (.aload_n 1, 1) := by decide +kernel
theorem dX5_readItem_16 : decode cX5_readItem 16 = .ok (.getfield 43, 3) := by decide +kernel
theorem dX5_readItem_19 : decode cX5_readItem 19 = .ok (.ifCond .ne 7, 3) := by decide +kernel
theorem dX5_readItem_22 : decode cX5_readItem 22 = .ok (.iconst 1, 1) := by decide +kernel
theorem dX5_readItem_23 : decode cX5_readItem 23 = .ok (.goto 4, 3) := by decide +kernel
theorem dX5_readItem_26 : decode cX5_readItem 26 = .ok (.iconst 0, 1) := by decide +kernel
theorem dX5_readItem_27 : decode cX5_readItem 27 = .ok (.istore 4, 2) := by decide +kernel
theorem dX5_readItem_29 : decode cX5_readItem 29 = .ok (.iload 4, 2) := by decide +kernel
theorem dX5_readItem_31 : decode cX5_readItem 31 = .ok (.iload_n 3, 1) := by decide +kernel
theorem dX5_readItem_32 : decode cX5_readItem 32 = .ok (.bipush 110, 2) := by decide +kernel
theorem dX5_readItem_34 : decode cX5_readItem 34 = .ok (.if_icmp .ne 7, 3) := by decide +kernel
theorem dX5_readItem_37 : decode cX5_readItem 37 = .ok (.iconst 1, 1) := by decide +kernel
theorem dX5_readItem_38 : decode cX5_readItem 38 = .ok (.goto 4, 3) := by decide +kernel
theorem dX5_readItem_41 : decode cX5_readItem 41 = .ok (.iconst 0, 1) := by decide +kernel
theorem dX5_readItem_42 : decode cX5_readItem 42 = .ok (.if_icmp .ne 15, 3) := by decide +kernel
theorem dX5_readItem_45 : decode cX5_readItem 45 = .ok (.aload_n 0, 1) := by decide +kernel
theorem dX5_readItem_46 : decode cX5_readItem 46 = .ok (.aload_n 0, 1) := by decide +kernel
theorem dX5_readItem_47 : decode cX5_readItem 47 = .ok (.iload_n 3, 1) := by decide +kernel
theorem dX5_readItem_48 : decode cX5_readItem 48 = .ok (.invokevirtual 46, 3) := by decide +kernel
theorem dX5_readItem_51 : decode cX5_readItem 51 = .ok (.invokevirtual 50, 3) := by decide +kernel
theorem dX5_readItem_54 : decode cX5_readItem 54 = .ok (.ifCond .ne 5, 3) := by decide +kernel
theorem dX5_readItem_57 : decode cX5_readItem 57 = .ok (.iconst 0, 1) := by decide +kernel
theorem dX5_readItem_58 : decode cX5_readItem 58 = .ok (.ireturn, 1) := by decide +kernel
theorem dX5_readItem_59 : decode cX5_readItem 59 = .ok (.iload_n 3, 1) := by decide +kernel
theorem dX5_readItem_60 : decode cX5_readItem 60 = .ok (.tableswitch 139 97 115 #[116, 139, 139, 139, 139, 139, 139, 139, 139, 98, 139, 127, 139, 92, 139, 133, 139, 139, 104], 92) := by decide +kernel
theorem dX5_readItem_152 : decode cX5_readItem 152 = .ok (.aload_n 0, 1) := by decide +kernel
theorem dX5_readItem_153 : decode cX5_readItem 153 = .ok (.aload_n 1, 1) := by decide +kernel
theorem dX5_readItem_154 : decode cX5_readItem 154 = .ok (.invokevirtual 54, 3) := by decide +kernel
theorem dX5_readItem_157 : decode cX5_readItem 157 = .ok (.ireturn, 1) := by decide +kernel
theorem dX5_readItem_158 : decode cX5_readItem 158 = .ok (.aload_n 0, 1) := by decide +kernel
theorem dX5_readItem_159 : decode cX5_readItem 159 = .ok (.aload_n 1, 1) := by decide +kernel
theorem dX5_readItem_160 : decode cX5_readItem 160 = .ok (.invokevirtual 58, 3) := by decide +kernel
theorem dX5_readItem_163 : decode cX5_readItem 163 = .ok (.ireturn, 1) := by decide +kernel
theorem dX5_readItem_164 : decode cX5_readItem 164 = .ok (.aload_n 0, 1) := by decide +kernel
theorem dX5_readItem_165 : decode cX5_readItem 165 = .ok (.aload_n 1, 1) := by decide +kernel
theorem dX5_readItem_166 : decode cX5_readItem 166 = .ok (.aload_n 2, 1) := by decide +kernel
theorem dX5_readItem_167 : decode cX5_readItem 167 = .ok (.getfield 61, 3) := by decide +kernel
theorem dX5_readItem_170 : decode cX5_readItem 170 = .ok (.bipush 9, 2) := by decide +kernel
theorem dX5_readItem_172 : decode cX5_readItem 172 = .ok (.invokevirtual 64, 3) := by decide +kernel
theorem dX5_readItem_175 : decode cX5_readItem 175 = .ok (.ireturn, 1) := by decide +kernel
theorem dX5_readItem_176 : decode cX5_readItem 176 = .ok (.aload_n 0, 1) := by decide +kernel
theorem dX5_readItem_177 : decode cX5_readItem 177 = .ok (.aload_n 1, 1) := by decide +kernel
theorem dX5_readItem_178 : decode cX5_readItem 178 = .ok (.aload_n 2, 1) := by decide +kernel
theorem dX5_readItem_179 : decode cX5_readItem 179 = .ok (.getfield 68, 3) := by decide +kernel
theorem dX5_readItem_182 : decode cX5_readItem 182 = .ok (.iconst 5, 1) := by decide +kernel
theorem dX5_readItem_183 : decode cX5_readItem 183 = .ok (.invokevirtual 64, 3) := by decide +kernel
theorem dX5_readItem_186 : decode cX5_readItem 186 = .ok (.ireturn, 1) := by decide +kernel
theorem dX5_readItem_187 : decode cX5_readItem 187 = .ok (.aload_n 0, 1) := by decide +kernel
theorem dX5_readItem_188 : decode cX5_readItem 188 = .ok (.aload_n 2, 1) := by decide +kernel
theorem dX5_readItem_189 : decode cX5_readItem 189 = .ok (.invokevirtual 71, 3) := by decide +kernel
theorem dX5_readItem_192 : decode cX5_readItem 192 = .ok (.ireturn, 1) := by decide +kernel
theorem dX5_readItem_193 : decode cX5_readItem 193 = .ok (.aload_n 0, 1) := by decide +kernel
theorem dX5_readItem_194 : decode cX5_readItem 194 = .ok (.aload_n 1, 1) := by decide +kernel
theorem dX5_readItem_195 : decode cX5_readItem 195 = .ok (.invokevirtual 75, 3) := by decide +kernel
theorem dX5_readItem_198 : decode cX5_readItem 198 = .ok (.ireturn, 1) := by decide +kernel
theorem dX5_readItem_199 : decode cX5_readItem 199 = .ok (.iconst 0, 1) := by decide +kernel
theorem dX5_readItem_200 : decode cX5_readItem 200 = .ok (.ireturn, 1) := by decide +kernel
theorem dX5_numbersBehind_0 : decode cX5_numbersBehind 0 = .ok (.iload_n 1, 1) := by decide +kernel
theorem dX5_numbersBehind_1 : decode cX5_numbersBehind 1 = .ok (.tableswitch 97 97 115 #[93, 97, 97, 97, 97, 97, 97, 97, 97, 95, 97, 93, 97, 91, 97, 95, 97, 97, 93], 91) := by decide +kernel
theorem dX5_numbersBehind_92 : decode cX5_numbersBehind 92 = .ok (.iconst 1, 1) := by decide +kernel
theorem dX5_numbersBehind_93 : decode cX5_numbersBehind 93 = .ok (.ireturn, 1) := by decide +kernel
theorem dX5_numbersBehind_94 : decode cX5_numbersBehind 94 = .ok (.iconst 2, 1) := by decide +kernel
theorem dX5_numbersBehind_95 : decode cX5_numbersBehind 95 = .ok (.ireturn, 1) := by decide +kernel
theorem dX5_numbersBehind_96 : decode cX5_numbersBehind 96 = .ok (.iconst 4, 1) := by decide +kernel
theorem dX5_numbersBehind_97 : decode cX5_numbersBehind 97 = .ok (.ireturn, 1) := by decide +kernel
theorem dX5_numbersBehind_98 : decode cX5_numbersBehind 98 = .ok (.iconst 0, 1) := by decide +kernel
theorem dX5_numbersBehind_99 : decode cX5_numbersBehind 99 = .ok (.ireturn, 1) := by decide +kernel
set_option maxRecDepth 20000 in
theorem ggX5_takeCells_X1_begin : GoodIn wsX5_takeCells wsX1_begin := goodIn_r _ [6, 7, 8, 9, 10, 11, 12, 13, 14, 15, 5, 16, 17, 18, 19, 20, 25, 26, 27, 28, 29, 30, 31, 32, 33, 34, 35, 36] (by decide +kernel) (by decide +kernel)
set_option maxRecDepth 20000 in
theorem gX5_takeCells_X1_begin : GoodIn wsX5_takeCells (wsV RX5 22 RX1 yX1_begin wsX1_begin) := goodIn_app (goodIn_of _ (by decide +kernel)) ggX5_takeCells_X1_begin
theorem dX5_takeCells_0 : decode cX5_takeCells 0 = .ok (.aload_n 0, 1) := by decide +kernel
theorem dX5_takeCells_1 : decode cX5_takeCells 1 = .ok (.getfield 15, 3) := by decide +kernel
theorem dX5_takeCells_4 : decode cX5_takeCells 4 = .ok (.iconst 0, 1) := by decide +kernel
theorem dX5_takeCells_5 : decode cX5_takeCells 5 = .ok (.iaload, 1) := by decide +kernel
theorem dX5_takeCells_6 : decode cX5_takeCells 6 = .ok (.iconst 2, 1) := by decide +kernel
theorem dX5_takeCells_7 : decode cX5_takeCells 7 = .ok (.if_icmp .lt 14, 3) := by decide +kernel
theorem dX5_takeCells_10 : decode cX5_takeCells 10 = .ok (.aload_n 0, 1) := by decide +kernel
theorem dX5_takeCells_11 : decode cX5_takeCells 11 = .ok (.getfield 15, 3) := by decide +kernel
theorem dX5_takeCells_14 : decode cX5_takeCells 14 = .ok (.iconst 0, 1) := by decide +kernel
theorem dX5_takeCells_15 : decode cX5_takeCells 15 = .ok (.iaload, 1) := by decide +kernel
theorem dX5_takeCells_16 : decode cX5_takeCells 16 = .ok (.bipush 6, 2) := by decide +kernel
theorem dX5_takeCells_18 : decode cX5_takeCells 18 = .ok (.if_icmp .le 5, 3) := by decide +kernel
theorem dX5_takeCells_21 : decode cX5_takeCells 21 = .ok (.iconst 0, 1) := by decide +kernel
theorem dX5_takeCells_22 : decode cX5_takeCells 22 = .ok (.ireturn, 1) := by decide +kernel
theorem dX5_takeCells_23 : decode cX5_takeCells 23 = .ok (.aload_n 1, 1) := by decide +kernel
theorem dX5_takeCells_24 : decode cX5_takeCells 24 = .ok (.aload_n 0, 1) := by decide +kernel
theorem dX5_takeCells_25 : decode cX5_takeCells 25 = .ok (.getfield 15, 3) := by decide +kernel
theorem dX5_takeCells_28 : decode cX5_takeCells 28 = .ok (.iconst 0, 1) := by decide +kernel
theorem dX5_takeCells_29 : decode cX5_takeCells 29 = .ok (.iaload, 1) := by decide +kernel
theorem dX5_takeCells_30 : decode cX5_takeCells 30 = .ok (.invokevirtual 22, 3) := by decide +kernel
theorem dX5_takeCells_33 : decode cX5_takeCells 33 = .ok (.iconst 1, 1) := by decide +kernel
theorem dX5_takeCells_34 : decode cX5_takeCells 34 = .ok (.ireturn, 1) := by decide +kernel
set_option maxRecDepth 20000 in
theorem ggX5_takeJoin_X5_isWeight : GoodIn wsX5_takeJoin wsX5_isWeight := goodIn_r _ [8] (by decide +kernel) (by decide +kernel)
set_option maxRecDepth 20000 in
theorem gX5_takeJoin_X5_isWeight : GoodIn wsX5_takeJoin (wsV RX5 82 RX5 yX5_isWeight wsX5_isWeight) := goodIn_app (goodIn_of _ (by decide +kernel)) ggX5_takeJoin_X5_isWeight
set_option maxRecDepth 20000 in
theorem ggX5_takeJoin_X1_join : GoodIn wsX5_takeJoin wsX1_join := goodIn_r _ [13, 14, 15, 16, 17, 12, 18, 19, 20, 21, 22, 27, 28, 29, 30, 31, 32, 33, 34, 35, 36, 37, 38] (by decide +kernel) (by decide +kernel)
set_option maxRecDepth 20000 in
theorem gX5_takeJoin_X1_join : GoodIn wsX5_takeJoin (wsV RX5 85 RX1 yX1_join wsX1_join) := goodIn_app (goodIn_of _ (by decide +kernel)) ggX5_takeJoin_X1_join
theorem dX5_takeJoin_0 : decode cX5_takeJoin 0 = .ok (.aload_n 0, 1) := by decide +kernel
theorem dX5_takeJoin_1 : decode cX5_takeJoin 1 = .ok (.getfield 15, 3) := by decide +kernel
theorem dX5_takeJoin_4 : decode cX5_takeJoin 4 = .ok (.iconst 0, 1) := by decide +kernel
theorem dX5_takeJoin_5 : decode cX5_takeJoin 5 = .ok (.iaload, 1) := by decide +kernel
theorem dX5_takeJoin_6 : decode cX5_takeJoin 6 = .ok (.istore_n 2, 1) := by decide +kernel
theorem dX5_takeJoin_7 : decode cX5_takeJoin 7 = .ok (.aload_n 0, 1) := by decide +kernel
theorem dX5_takeJoin_8 : decode cX5_takeJoin 8 = .ok (.getfield 15, 3) := by decide +kernel
theorem dX5_takeJoin_11 : decode cX5_takeJoin 11 = .ok (.iconst 1, 1) := by decide +kernel
theorem dX5_takeJoin_12 : decode cX5_takeJoin 12 = .ok (.iaload, 1) := by decide +kernel
theorem dX5_takeJoin_13 : decode cX5_takeJoin 13 = .ok (.istore_n 3, 1) := by decide +kernel
theorem dX5_takeJoin_14 : decode cX5_takeJoin 14 = .ok (.iload_n 2, 1) := by decide +kernel
theorem dX5_takeJoin_15 : decode cX5_takeJoin 15 = .ok (.aload_n 1, 1) := by decide +kernel
theorem dX5_takeJoin_16 : decode cX5_takeJoin 16 = .ok (.getfield 43, 3) := by decide +kernel
theorem dX5_takeJoin_19 : decode cX5_takeJoin 19 = .ok (.if_icmp .ge 53, 3) := by decide +kernel
theorem dX5_takeJoin_22 : decode cX5_takeJoin 22 = .ok (.iload_n 3, 1) := by decide +kernel
theorem dX5_takeJoin_23 : decode cX5_takeJoin 23 = .ok (.aload_n 1, 1) := by decide +kernel
theorem dX5_takeJoin_24 : decode cX5_takeJoin 24 = .ok (.getfield 43, 3) := by decide +kernel
theorem dX5_takeJoin_27 : decode cX5_takeJoin 27 = .ok (.if_icmp .ge 45, 3) := by decide +kernel
theorem dX5_takeJoin_30 : decode cX5_takeJoin 30 = .ok (.iload_n 2, 1) := by decide +kernel
theorem dX5_takeJoin_31 : decode cX5_takeJoin 31 = .ok (.iload_n 3, 1) := by decide +kernel
theorem dX5_takeJoin_32 : decode cX5_takeJoin 32 = .ok (.if_icmp .eq 40, 3) := by decide +kernel
theorem dX5_takeJoin_35 : decode cX5_takeJoin 35 = .ok (.aload_n 1, 1) := by decide +kernel
theorem dX5_takeJoin_36 : decode cX5_takeJoin 36 = .ok (.getfield 78, 3) := by decide +kernel
theorem dX5_takeJoin_39 : decode cX5_takeJoin 39 = .ok (.iload_n 2, 1) := by decide +kernel
theorem dX5_takeJoin_40 : decode cX5_takeJoin 40 = .ok (.aaload, 1) := by decide +kernel
theorem dX5_takeJoin_41 : decode cX5_takeJoin 41 = .ok (.iload_n 3, 1) := by decide +kernel
theorem dX5_takeJoin_42 : decode cX5_takeJoin 42 = .ok (.iaload, 1) := by decide +kernel
theorem dX5_takeJoin_43 : decode cX5_takeJoin 43 = .ok (.ifCond .ne 29, 3) := by decide +kernel
theorem dX5_takeJoin_46 : decode cX5_takeJoin 46 = .ok (.aload_n 0, 1) := by decide +kernel
theorem dX5_takeJoin_47 : decode cX5_takeJoin 47 = .ok (.aload_n 0, 1) := by decide +kernel
theorem dX5_takeJoin_48 : decode cX5_takeJoin 48 = .ok (.getfield 15, 3) := by decide +kernel
theorem dX5_takeJoin_51 : decode cX5_takeJoin 51 = .ok (.iconst 2, 1) := by decide +kernel
theorem dX5_takeJoin_52 : decode cX5_takeJoin 52 = .ok (.iaload, 1) := by decide +kernel
theorem dX5_takeJoin_53 : decode cX5_takeJoin 53 = .ok (.invokevirtual 82, 3) := by decide +kernel
theorem dX5_takeJoin_56 : decode cX5_takeJoin 56 = .ok (.ifCond .eq 16, 3) := by decide +kernel
theorem dX5_takeJoin_59 : decode cX5_takeJoin 59 = .ok (.aload_n 0, 1) := by decide +kernel
theorem dX5_takeJoin_60 : decode cX5_takeJoin 60 = .ok (.aload_n 0, 1) := by decide +kernel
theorem dX5_takeJoin_61 : decode cX5_takeJoin 61 = .ok (.getfield 15, 3) := by decide +kernel
theorem dX5_takeJoin_64 : decode cX5_takeJoin 64 = .ok (.iconst 3, 1) := by decide +kernel
theorem dX5_takeJoin_65 : decode cX5_takeJoin 65 = .ok (.iaload, 1) := by decide +kernel
theorem dX5_takeJoin_66 : decode cX5_takeJoin 66 = .ok (.invokevirtual 82, 3) := by decide +kernel
theorem dX5_takeJoin_69 : decode cX5_takeJoin 69 = .ok (.ifCond .ne 5, 3) := by decide +kernel
theorem dX5_takeJoin_72 : decode cX5_takeJoin 72 = .ok (.iconst 0, 1) := by decide +kernel
theorem dX5_takeJoin_73 : decode cX5_takeJoin 73 = .ok (.ireturn, 1) := by decide +kernel
theorem dX5_takeJoin_74 : decode cX5_takeJoin 74 = .ok (.aload_n 1, 1) := by decide +kernel
theorem dX5_takeJoin_75 : decode cX5_takeJoin 75 = .ok (.iload_n 2, 1) := by decide +kernel
theorem dX5_takeJoin_76 : decode cX5_takeJoin 76 = .ok (.iload_n 3, 1) := by decide +kernel
theorem dX5_takeJoin_77 : decode cX5_takeJoin 77 = .ok (.aload_n 0, 1) := by decide +kernel
theorem dX5_takeJoin_78 : decode cX5_takeJoin 78 = .ok (.getfield 15, 3) := by decide +kernel
theorem dX5_takeJoin_81 : decode cX5_takeJoin 81 = .ok (.iconst 2, 1) := by decide +kernel
theorem dX5_takeJoin_82 : decode cX5_takeJoin 82 = .ok (.iaload, 1) := by decide +kernel
theorem dX5_takeJoin_83 : decode cX5_takeJoin 83 = .ok (.aload_n 0, 1) := by decide +kernel
theorem dX5_takeJoin_84 : decode cX5_takeJoin 84 = .ok (.getfield 15, 3) := by decide +kernel
theorem dX5_takeJoin_87 : decode cX5_takeJoin 87 = .ok (.iconst 3, 1) := by decide +kernel
theorem dX5_takeJoin_88 : decode cX5_takeJoin 88 = .ok (.iaload, 1) := by decide +kernel
theorem dX5_takeJoin_89 : decode cX5_takeJoin 89 = .ok (.invokevirtual 85, 3) := by decide +kernel
theorem dX5_takeJoin_92 : decode cX5_takeJoin 92 = .ok (.iconst 1, 1) := by decide +kernel
theorem dX5_takeJoin_93 : decode cX5_takeJoin 93 = .ok (.ireturn, 1) := by decide +kernel
theorem dX5_isWeight_0 : decode cX5_isWeight 0 = .ok (.iload_n 1, 1) := by decide +kernel
theorem dX5_isWeight_1 : decode cX5_isWeight 1 = .ok (.iconst 1, 1) := by decide +kernel
theorem dX5_isWeight_2 : decode cX5_isWeight 2 = .ok (.if_icmp .lt 12, 3) := by decide +kernel
theorem dX5_isWeight_5 : decode cX5_isWeight 5 = .ok (.iload_n 1, 1) := by decide +kernel
theorem dX5_isWeight_6 : decode cX5_isWeight 6 = .ok (.iconst 4, 1) := by decide +kernel
theorem dX5_isWeight_7 : decode cX5_isWeight 7 = .ok (.if_icmp .gt 7, 3) := by decide +kernel
theorem dX5_isWeight_10 : decode cX5_isWeight 10 = .ok (.iconst 1, 1) := by decide +kernel
theorem dX5_isWeight_11 : decode cX5_isWeight 11 = .ok (.goto 4, 3) := by decide +kernel
theorem dX5_isWeight_14 : decode cX5_isWeight 14 = .ok (.iconst 0, 1) := by decide +kernel
theorem dX5_isWeight_15 : decode cX5_isWeight 15 = .ok (.ireturn, 1) := by decide +kernel
theorem dX5_takeCellNumber_0 : decode cX5_takeCellNumber 0 = .ok (.aload_n 0, 1) := by decide +kernel
theorem dX5_takeCellNumber_1 : decode cX5_takeCellNumber 1 = .ok (.getfield 15, 3) := by decide +kernel
theorem dX5_takeCellNumber_4 : decode cX5_takeCellNumber 4 = .ok (.iconst 0, 1) := by decide +kernel
theorem dX5_takeCellNumber_5 : decode cX5_takeCellNumber 5 = .ok (.iaload, 1) := by decide +kernel
theorem dX5_takeCellNumber_6 : decode cX5_takeCellNumber 6 = .ok (.aload_n 1, 1) := by decide +kernel
theorem dX5_takeCellNumber_7 : decode cX5_takeCellNumber 7 = .ok (.getfield 43, 3) := by decide +kernel
theorem dX5_takeCellNumber_10 : decode cX5_takeCellNumber 10 = .ok (.if_icmp .ge 13, 3) := by decide +kernel
theorem dX5_takeCellNumber_13 : decode cX5_takeCellNumber 13 = .ok (.aload_n 0, 1) := by decide +kernel
theorem dX5_takeCellNumber_14 : decode cX5_takeCellNumber 14 = .ok (.getfield 15, 3) := by decide +kernel
theorem dX5_takeCellNumber_17 : decode cX5_takeCellNumber 17 = .ok (.iconst 1, 1) := by decide +kernel
theorem dX5_takeCellNumber_18 : decode cX5_takeCellNumber 18 = .ok (.iaload, 1) := by decide +kernel
theorem dX5_takeCellNumber_19 : decode cX5_takeCellNumber 19 = .ok (.iload_n 3, 1) := by decide +kernel
theorem dX5_takeCellNumber_20 : decode cX5_takeCellNumber 20 = .ok (.if_icmp .le 5, 3) := by decide +kernel
theorem dX5_takeCellNumber_23 : decode cX5_takeCellNumber 23 = .ok (.iconst 0, 1) := by decide +kernel
theorem dX5_takeCellNumber_24 : decode cX5_takeCellNumber 24 = .ok (.ireturn, 1) := by decide +kernel
theorem dX5_takeCellNumber_25 : decode cX5_takeCellNumber 25 = .ok (.aload_n 2, 1) := by decide +kernel
theorem dX5_takeCellNumber_26 : decode cX5_takeCellNumber 26 = .ok (.aload_n 0, 1) := by decide +kernel
theorem dX5_takeCellNumber_27 : decode cX5_takeCellNumber 27 = .ok (.getfield 15, 3) := by decide +kernel
theorem dX5_takeCellNumber_30 : decode cX5_takeCellNumber 30 = .ok (.iconst 0, 1) := by decide +kernel
theorem dX5_takeCellNumber_31 : decode cX5_takeCellNumber 31 = .ok (.iaload, 1) := by decide +kernel
theorem dX5_takeCellNumber_32 : decode cX5_takeCellNumber 32 = .ok (.aload_n 0, 1) := by decide +kernel
theorem dX5_takeCellNumber_33 : decode cX5_takeCellNumber 33 = .ok (.getfield 15, 3) := by decide +kernel
theorem dX5_takeCellNumber_36 : decode cX5_takeCellNumber 36 = .ok (.iconst 1, 1) := by decide +kernel
theorem dX5_takeCellNumber_37 : decode cX5_takeCellNumber 37 = .ok (.iaload, 1) := by decide +kernel
theorem dX5_takeCellNumber_38 : decode cX5_takeCellNumber 38 = .ok (.iastore, 1) := by decide +kernel
theorem dX5_takeCellNumber_39 : decode cX5_takeCellNumber 39 = .ok (.iconst 1, 1) := by decide +kernel
theorem dX5_takeCellNumber_40 : decode cX5_takeCellNumber 40 = .ok (.ireturn, 1) := by decide +kernel
set_option maxRecDepth 20000 in
theorem ggX5_takeLaw_X7_isLaw : GoodIn wsX5_takeLaw wsX7_isLaw := goodIn_r _ [6] (by decide +kernel) (by decide +kernel)
set_option maxRecDepth 20000 in
theorem gX5_takeLaw_X7_isLaw_n89 : GoodIn wsX5_takeLaw (wsX7_isLaw) := ggX5_takeLaw_X7_isLaw
theorem dX5_takeLaw_0 : decode cX5_takeLaw 0 = .ok (.aload_n 0, 1) := by decide +kernel
theorem dX5_takeLaw_1 : decode cX5_takeLaw 1 = .ok (.getfield 15, 3) := by decide +kernel
theorem dX5_takeLaw_4 : decode cX5_takeLaw 4 = .ok (.iconst 0, 1) := by decide +kernel
theorem dX5_takeLaw_5 : decode cX5_takeLaw 5 = .ok (.iaload, 1) := by decide +kernel
theorem dX5_takeLaw_6 : decode cX5_takeLaw 6 = .ok (.aload_n 0, 1) := by decide +kernel
theorem dX5_takeLaw_7 : decode cX5_takeLaw 7 = .ok (.getfield 15, 3) := by decide +kernel
theorem dX5_takeLaw_10 : decode cX5_takeLaw 10 = .ok (.iconst 1, 1) := by decide +kernel
theorem dX5_takeLaw_11 : decode cX5_takeLaw 11 = .ok (.iaload, 1) := by decide +kernel
theorem dX5_takeLaw_12 : decode cX5_takeLaw 12 = .ok (.invokestatic 89, 3) := by decide +kernel
theorem dX5_takeLaw_15 : decode cX5_takeLaw 15 = .ok (.ifCond .ne 5, 3) := by decide +kernel
theorem dX5_takeLaw_18 : decode cX5_takeLaw 18 = .ok (.iconst 0, 1) := by decide +kernel
theorem dX5_takeLaw_19 : decode cX5_takeLaw 19 = .ok (.ireturn, 1) := by decide +kernel
theorem dX5_takeLaw_20 : decode cX5_takeLaw 20 = .ok (.aload_n 1, 1) := by decide +kernel
theorem dX5_takeLaw_21 : decode cX5_takeLaw 21 = .ok (.aload_n 0, 1) := by decide +kernel
theorem dX5_takeLaw_22 : decode cX5_takeLaw 22 = .ok (.getfield 15, 3) := by decide +kernel
theorem dX5_takeLaw_25 : decode cX5_takeLaw 25 = .ok (.iconst 0, 1) := by decide +kernel
theorem dX5_takeLaw_26 : decode cX5_takeLaw 26 = .ok (.iaload, 1) := by decide +kernel
theorem dX5_takeLaw_27 : decode cX5_takeLaw 27 = .ok (.putfield 93, 3) := by decide +kernel
theorem dX5_takeLaw_30 : decode cX5_takeLaw 30 = .ok (.aload_n 1, 1) := by decide +kernel
theorem dX5_takeLaw_31 : decode cX5_takeLaw 31 = .ok (.aload_n 0, 1) := by decide +kernel
theorem dX5_takeLaw_32 : decode cX5_takeLaw 32 = .ok (.getfield 15, 3) := by decide +kernel
theorem dX5_takeLaw_35 : decode cX5_takeLaw 35 = .ok (.iconst 1, 1) := by decide +kernel
theorem dX5_takeLaw_36 : decode cX5_takeLaw 36 = .ok (.iaload, 1) := by decide +kernel
theorem dX5_takeLaw_37 : decode cX5_takeLaw 37 = .ok (.putfield 96, 3) := by decide +kernel
theorem dX5_takeLaw_40 : decode cX5_takeLaw 40 = .ok (.iconst 1, 1) := by decide +kernel
theorem dX5_takeLaw_41 : decode cX5_takeLaw 41 = .ok (.ireturn, 1) := by decide +kernel
set_option maxRecDepth 20000 in
theorem ggX5_takePrices_X1_price : GoodIn wsX5_takePrices wsX1_price := goodIn_r _ [6, 7, 8, 9, 10, 15, 16, 17, 18, 19, 20, 21, 22, 23, 24, 25, 26] (by decide +kernel) (by decide +kernel)
set_option maxRecDepth 20000 in
theorem gX5_takePrices_X1_price : GoodIn wsX5_takePrices (wsV RX5 99 RX1 yX1_price wsX1_price) := goodIn_app (goodIn_of _ (by decide +kernel)) ggX5_takePrices_X1_price
theorem dX5_takePrices_0 : decode cX5_takePrices 0 = .ok (.aload_n 0, 1) := by decide +kernel
theorem dX5_takePrices_1 : decode cX5_takePrices 1 = .ok (.getfield 15, 3) := by decide +kernel
theorem dX5_takePrices_4 : decode cX5_takePrices 4 = .ok (.iconst 0, 1) := by decide +kernel
theorem dX5_takePrices_5 : decode cX5_takePrices 5 = .ok (.iaload, 1) := by decide +kernel
theorem dX5_takePrices_6 : decode cX5_takePrices 6 = .ok (.iconst 1, 1) := by decide +kernel
theorem dX5_takePrices_7 : decode cX5_takePrices 7 = .ok (.if_icmp .lt 13, 3) := by decide +kernel
theorem dX5_takePrices_10 : decode cX5_takePrices 10 = .ok (.aload_n 0, 1) := by decide +kernel
theorem dX5_takePrices_11 : decode cX5_takePrices 11 = .ok (.getfield 15, 3) := by decide +kernel
theorem dX5_takePrices_14 : decode cX5_takePrices 14 = .ok (.iconst 0, 1) := by decide +kernel
theorem dX5_takePrices_15 : decode cX5_takePrices 15 = .ok (.iaload, 1) := by decide +kernel
theorem dX5_takePrices_16 : decode cX5_takePrices 16 = .ok (.iconst 4, 1) := by decide +kernel
theorem dX5_takePrices_17 : decode cX5_takePrices 17 = .ok (.if_icmp .le 5, 3) := by decide +kernel
theorem dX5_takePrices_20 : decode cX5_takePrices 20 = .ok (.iconst 0, 1) := by decide +kernel
theorem dX5_takePrices_21 : decode cX5_takePrices 21 = .ok (.ireturn, 1) := by decide +kernel
theorem dX5_takePrices_22 : decode cX5_takePrices 22 = .ok (.aload_n 1, 1) := by decide +kernel
theorem dX5_takePrices_23 : decode cX5_takePrices 23 = .ok (.aload_n 0, 1) := by decide +kernel
theorem dX5_takePrices_24 : decode cX5_takePrices 24 = .ok (.getfield 15, 3) := by decide +kernel
theorem dX5_takePrices_27 : decode cX5_takePrices 27 = .ok (.iconst 0, 1) := by decide +kernel
theorem dX5_takePrices_28 : decode cX5_takePrices 28 = .ok (.iaload, 1) := by decide +kernel
theorem dX5_takePrices_29 : decode cX5_takePrices 29 = .ok (.aload_n 0, 1) := by decide +kernel
theorem dX5_takePrices_30 : decode cX5_takePrices 30 = .ok (.getfield 15, 3) := by decide +kernel
theorem dX5_takePrices_33 : decode cX5_takePrices 33 = .ok (.iconst 1, 1) := by decide +kernel
theorem dX5_takePrices_34 : decode cX5_takePrices 34 = .ok (.iaload, 1) := by decide +kernel
theorem dX5_takePrices_35 : decode cX5_takePrices 35 = .ok (.aload_n 0, 1) := by decide +kernel
theorem dX5_takePrices_36 : decode cX5_takePrices 36 = .ok (.getfield 15, 3) := by decide +kernel
theorem dX5_takePrices_39 : decode cX5_takePrices 39 = .ok (.iconst 2, 1) := by decide +kernel
theorem dX5_takePrices_40 : decode cX5_takePrices 40 = .ok (.iaload, 1) := by decide +kernel
theorem dX5_takePrices_41 : decode cX5_takePrices 41 = .ok (.aload_n 0, 1) := by decide +kernel
theorem dX5_takePrices_42 : decode cX5_takePrices 42 = .ok (.getfield 15, 3) := by decide +kernel
theorem dX5_takePrices_45 : decode cX5_takePrices 45 = .ok (.iconst 3, 1) := by decide +kernel
theorem dX5_takePrices_46 : decode cX5_takePrices 46 = .ok (.iaload, 1) := by decide +kernel
theorem dX5_takePrices_47 : decode cX5_takePrices 47 = .ok (.invokevirtual 99, 3) := by decide +kernel
theorem dX5_takePrices_50 : decode cX5_takePrices 50 = .ok (.iconst 1, 1) := by decide +kernel
theorem dX5_takePrices_51 : decode cX5_takePrices 51 = .ok (.ireturn, 1) := by decide +kernel
set_option maxRecDepth 20000 in
theorem ggX5_readNumbers_X5_readNumber : GoodIn wsX5_readNumbers wsX5_readNumber := goodIn_r _ [7, 2, 8, 9, 10, 6, 11, 12, 13, 18, 19, 20, 21] (by decide +kernel) (by decide +kernel)
set_option maxRecDepth 20000 in
theorem gX5_readNumbers_X5_readNumber : GoodIn wsX5_readNumbers (wsV RX5 102 RX5 yX5_readNumber wsX5_readNumber) := goodIn_app (goodIn_of _ (by decide +kernel)) ggX5_readNumbers_X5_readNumber
set_option maxRecDepth 20000 in
theorem ggX5_readNumbers_X5_letterHere : GoodIn wsX5_readNumbers wsX5_letterHere := goodIn_r _ [17, 2, 12, 13, 18, 19, 20, 21] (by decide +kernel) (by decide +kernel)
set_option maxRecDepth 20000 in
theorem gX5_readNumbers_X5_letterHere : GoodIn wsX5_readNumbers (wsV RX5 39 RX5 yX5_letterHere wsX5_letterHere) := goodIn_app (goodIn_of _ (by decide +kernel)) ggX5_readNumbers_X5_letterHere
theorem dX5_readNumbers_0 : decode cX5_readNumbers 0 = .ok (.iconst 0, 1) := by decide +kernel
theorem dX5_readNumbers_1 : decode cX5_readNumbers 1 = .ok (.istore_n 2, 1) := by decide +kernel
theorem dX5_readNumbers_2 : decode cX5_readNumbers 2 = .ok (.iload_n 2, 1) := by decide +kernel
theorem dX5_readNumbers_3 : decode cX5_readNumbers 3 = .ok (.iload_n 1, 1) := by decide +kernel
theorem dX5_readNumbers_4 : decode cX5_readNumbers 4 = .ok (.if_icmp .ge 66, 3) := by decide +kernel
theorem dX5_readNumbers_7 : decode cX5_readNumbers 7 = .ok (.iload_n 2, 1) := by decide +kernel
theorem dX5_readNumbers_8 : decode cX5_readNumbers 8 = .ok (.iconst 4, 1) := by decide +kernel
theorem dX5_readNumbers_9 : decode cX5_readNumbers 9 = .ok (.if_icmp .ge 61, 3) := by decide +kernel
theorem dX5_readNumbers_12 : decode cX5_readNumbers 12 = .ok (.aload_n 0, 1) := by decide +kernel
theorem dX5_readNumbers_13 : decode cX5_readNumbers 13 = .ok (.getfield 15, 3) := by decide +kernel
theorem dX5_readNumbers_16 : decode cX5_readNumbers 16 = .ok (.iload_n 2, 1) := by decide +kernel
theorem dX5_readNumbers_17 : decode cX5_readNumbers 17 = .ok (.aload_n 0, 1) := by decide +kernel
theorem dX5_readNumbers_18 : decode cX5_readNumbers 18 = .ok (.invokevirtual 102, 3) := by decide +kernel
theorem dX5_readNumbers_21 : decode cX5_readNumbers 21 = .ok (.iastore, 1) := by decide +kernel
theorem dX5_readNumbers_22 : decode cX5_readNumbers 22 = .ok (.aload_n 0, 1) := by decide +kernel
theorem dX5_readNumbers_23 : decode cX5_readNumbers 23 = .ok (.getfield 15, 3) := by decide +kernel
theorem dX5_readNumbers_26 : decode cX5_readNumbers 26 = .ok (.iload_n 2, 1) := by decide +kernel
theorem dX5_readNumbers_27 : decode cX5_readNumbers 27 = .ok (.iaload, 1) := by decide +kernel
theorem dX5_readNumbers_28 : decode cX5_readNumbers 28 = .ok (.ifCond .lt 24, 3) := by decide +kernel
theorem dX5_readNumbers_31 : decode cX5_readNumbers 31 = .ok (.aload_n 0, 1) := by decide +kernel
theorem dX5_readNumbers_32 : decode cX5_readNumbers 32 = .ok (.invokevirtual 39, 3) := by decide +kernel
theorem dX5_readNumbers_35 : decode cX5_readNumbers 35 = .ok (.iload_n 2, 1) := by decide +kernel
theorem dX5_readNumbers_36 : decode cX5_readNumbers 36 = .ok (.iconst 1, 1) := by decide +kernel
theorem dX5_readNumbers_37 : decode cX5_readNumbers 37 = .ok (.iadd, 1) := by decide +kernel
theorem dX5_readNumbers_38 : decode cX5_readNumbers 38 = .ok (.iload_n 1, 1) := by decide +kernel
theorem dX5_readNumbers_39 : decode cX5_readNumbers 39 = .ok (.if_icmp .ge 8, 3) := by decide +kernel
theorem dX5_readNumbers_42 : decode cX5_readNumbers 42 = .ok (.bipush 44, 2) := by decide +kernel
theorem dX5_readNumbers_44 : decode cX5_readNumbers 44 = .ok (.goto 5, 3) := by decide +kernel
theorem dX5_readNumbers_47 : decode cX5_readNumbers 47 = .ok (.bipush 59, 2) := by decide +kernel
theorem dX5_readNumbers_49 : decode cX5_readNumbers 49 = .ok (.if_icmp .eq 5, 3) := by decide +kernel
theorem dX5_readNumbers_52 : decode cX5_readNumbers 52 = .ok (.iconst 0, 1) := by decide +kernel
theorem dX5_readNumbers_53 : decode cX5_readNumbers 53 = .ok (.ireturn, 1) := by decide +kernel
theorem dX5_readNumbers_54 : decode cX5_readNumbers 54 = .ok (.aload_n 0, 1) := by decide +kernel
theorem dX5_readNumbers_55 : decode cX5_readNumbers 55 = .ok (.dup, 1) := by decide +kernel
theorem dX5_readNumbers_56 : decode cX5_readNumbers 56 = .ok (.getfield 32, 3) := by decide +kernel
theorem dX5_readNumbers_59 : decode cX5_readNumbers 59 = .ok (.iconst 1, 1) := by decide +kernel
theorem dX5_readNumbers_60 : decode cX5_readNumbers 60 = .ok (.iadd, 1) := by decide +kernel
theorem dX5_readNumbers_61 : decode cX5_readNumbers 61 = .ok (.putfield 32, 3) := by decide +kernel
theorem dX5_readNumbers_64 : decode cX5_readNumbers 64 = .ok (.iinc 2 1, 3) := by decide +kernel
theorem dX5_readNumbers_67 : decode cX5_readNumbers 67 = .ok (.goto (-65), 3) := by decide +kernel
theorem dX5_readNumbers_70 : decode cX5_readNumbers 70 = .ok (.iload_n 1, 1) := by decide +kernel
theorem dX5_readNumbers_71 : decode cX5_readNumbers 71 = .ok (.ifCond .le 7, 3) := by decide +kernel
theorem dX5_readNumbers_74 : decode cX5_readNumbers 74 = .ok (.iconst 1, 1) := by decide +kernel
theorem dX5_readNumbers_75 : decode cX5_readNumbers 75 = .ok (.goto 4, 3) := by decide +kernel
theorem dX5_readNumbers_78 : decode cX5_readNumbers 78 = .ok (.iconst 0, 1) := by decide +kernel
theorem dX5_readNumbers_79 : decode cX5_readNumbers 79 = .ok (.ireturn, 1) := by decide +kernel
set_option maxRecDepth 20000 in
theorem ggX5_readNumber_X5_figureHere : GoodIn wsX5_readNumber wsX5_figureHere := goodIn_r _ [6, 1, 7, 8, 9, 10, 11, 12] (by decide +kernel) (by decide +kernel)
set_option maxRecDepth 20000 in
theorem gX5_readNumber_X5_figureHere : GoodIn wsX5_readNumber (wsV RX5 105 RX5 yX5_figureHere wsX5_figureHere) := goodIn_app (goodIn_of _ (by decide +kernel)) ggX5_readNumber_X5_figureHere
theorem dX5_readNumber_0 : decode cX5_readNumber 0 = .ok (.aload_n 0, 1) := by decide +kernel
theorem dX5_readNumber_1 : decode cX5_readNumber 1 = .ok (.invokevirtual 105, 3) := by decide +kernel
theorem dX5_readNumber_4 : decode cX5_readNumber 4 = .ok (.istore_n 1, 1) := by decide +kernel
theorem dX5_readNumber_5 : decode cX5_readNumber 5 = .ok (.iload_n 1, 1) := by decide +kernel
theorem dX5_readNumber_6 : decode cX5_readNumber 6 = .ok (.ifCond .ge 5, 3) := by decide +kernel
theorem dX5_readNumber_9 : decode cX5_readNumber 9 = .ok (.iconst (-1), 1) := by decide +kernel
theorem dX5_readNumber_10 : decode cX5_readNumber 10 = .ok (.ireturn, 1) := by decide +kernel
theorem dX5_readNumber_11 : decode cX5_readNumber 11 = .ok (.aload_n 0, 1) := by decide +kernel
theorem dX5_readNumber_12 : decode cX5_readNumber 12 = .ok (.dup, 1) := by decide +kernel
theorem dX5_readNumber_13 : decode cX5_readNumber 13 = .ok (.getfield 32, 3) := by decide +kernel
theorem dX5_readNumber_16 : decode cX5_readNumber 16 = .ok (.iconst 1, 1) := by decide +kernel
theorem dX5_readNumber_17 : decode cX5_readNumber 17 = .ok (.iadd, 1) := by decide +kernel
theorem dX5_readNumber_18 : decode cX5_readNumber 18 = .ok (.putfield 32, 3) := by decide +kernel
theorem dX5_readNumber_21 : decode cX5_readNumber 21 = .ok (.aload_n 0, 1) := by decide +kernel
theorem dX5_readNumber_22 : decode cX5_readNumber 22 = .ok (.invokevirtual 105, 3) := by decide +kernel
theorem dX5_readNumber_25 : decode cX5_readNumber 25 = .ok (.istore_n 2, 1) := by decide +kernel
theorem dX5_readNumber_26 : decode cX5_readNumber 26 = .ok (.iload_n 2, 1) := by decide +kernel
theorem dX5_readNumber_27 : decode cX5_readNumber 27 = .ok (.ifCond .ge 5, 3) := by decide +kernel
theorem dX5_readNumber_30 : decode cX5_readNumber 30 = .ok (.iload_n 1, 1) := by decide +kernel
theorem dX5_readNumber_31 : decode cX5_readNumber 31 = .ok (.ireturn, 1) := by decide +kernel
theorem dX5_readNumber_32 : decode cX5_readNumber 32 = .ok (.aload_n 0, 1) := by decide +kernel
theorem dX5_readNumber_33 : decode cX5_readNumber 33 = .ok (.dup, 1) := by decide +kernel
theorem dX5_readNumber_34 : decode cX5_readNumber 34 = .ok (.getfield 32, 3) := by decide +kernel
theorem dX5_readNumber_37 : decode cX5_readNumber 37 = .ok (.iconst 1, 1) := by decide +kernel
theorem dX5_readNumber_38 : decode cX5_readNumber 38 = .ok (.iadd, 1) := by decide +kernel
theorem dX5_readNumber_39 : decode cX5_readNumber 39 = .ok (.putfield 32, 3) := by decide +kernel
theorem dX5_readNumber_42 : decode cX5_readNumber 42 = .ok (.bipush 10, 2) := by decide +kernel
theorem dX5_readNumber_44 : decode cX5_readNumber 44 = .ok (.iload_n 1, 1) := by decide +kernel
theorem dX5_readNumber_45 : decode cX5_readNumber 45 = .ok (.imul, 1) := by decide +kernel
theorem dX5_readNumber_46 : decode cX5_readNumber 46 = .ok (.iload_n 2, 1) := by decide +kernel
theorem dX5_readNumber_47 : decode cX5_readNumber 47 = .ok (.iadd, 1) := by decide +kernel
theorem dX5_readNumber_48 : decode cX5_readNumber 48 = .ok (.ireturn, 1) := by decide +kernel
theorem dX5_figureHere_0 : decode cX5_figureHere 0 = .ok (.aload_n 0, 1) := by decide +kernel
theorem dX5_figureHere_1 : decode cX5_figureHere 1 = .ok (.getfield 32, 3) := by decide +kernel
theorem dX5_figureHere_4 : decode cX5_figureHere 4 = .ok (.aload_n 0, 1) := by decide +kernel
theorem dX5_figureHere_5 : decode cX5_figureHere 5 = .ok (.getfield 18, 3) := by decide +kernel
theorem dX5_figureHere_8 : decode cX5_figureHere 8 = .ok (.if_icmp .ge 35, 3) := by decide +kernel
theorem dX5_figureHere_11 : decode cX5_figureHere 11 = .ok (.aload_n 0, 1) := by decide +kernel
theorem dX5_figureHere_12 : decode cX5_figureHere 12 = .ok (.getfield 9, 3) := by decide +kernel
theorem dX5_figureHere_15 : decode cX5_figureHere 15 = .ok (.aload_n 0, 1) := by decide +kernel
theorem dX5_figureHere_16 : decode cX5_figureHere 16 = .ok (.getfield 32, 3) := by decide +kernel
theorem dX5_figureHere_19 : decode cX5_figureHere 19 = .ok (.iaload, 1) := by decide +kernel
theorem dX5_figureHere_20 : decode cX5_figureHere 20 = .ok (.bipush 48, 2) := by decide +kernel
theorem dX5_figureHere_22 : decode cX5_figureHere 22 = .ok (.if_icmp .lt 21, 3) := by decide +kernel
theorem dX5_figureHere_25 : decode cX5_figureHere 25 = .ok (.aload_n 0, 1) := by decide +kernel
theorem dX5_figureHere_26 : decode cX5_figureHere 26 = .ok (.getfield 9, 3) := by decide +kernel
theorem dX5_figureHere_29 : decode cX5_figureHere 29 = .ok (.aload_n 0, 1) := by decide +kernel
theorem dX5_figureHere_30 : decode cX5_figureHere 30 = .ok (.getfield 32, 3) := by decide +kernel
theorem dX5_figureHere_33 : decode cX5_figureHere 33 = .ok (.iaload, 1) := by decide +kernel
theorem dX5_figureHere_34 : decode cX5_figureHere 34 = .ok (.bipush 57, 2) := by decide +kernel
theorem dX5_figureHere_36 : decode cX5_figureHere 36 = .ok (.if_icmp .gt 7, 3) := by decide +kernel
theorem dX5_figureHere_39 : decode cX5_figureHere 39 = .ok (.iconst 1, 1) := by decide +kernel
theorem dX5_figureHere_40 : decode cX5_figureHere 40 = .ok (.goto 4, 3) := by decide +kernel
theorem dX5_figureHere_43 : decode cX5_figureHere 43 = .ok (.iconst 0, 1) := by decide +kernel
theorem dX5_figureHere_44 : decode cX5_figureHere 44 = .ok (.istore_n 1, 1) := by decide +kernel
theorem dX5_figureHere_45 : decode cX5_figureHere 45 = .ok (.iload_n 1, 1) := by decide +kernel
theorem dX5_figureHere_46 : decode cX5_figureHere 46 = .ok (.ifCond .eq 18, 3) := by decide +kernel
theorem dX5_figureHere_49 : decode cX5_figureHere 49 = .ok (.aload_n 0, 1) := by decide +kernel
theorem dX5_figureHere_50 : decode cX5_figureHere 50 = .ok (.getfield 9, 3) := by decide +kernel
theorem dX5_figureHere_53 : decode cX5_figureHere 53 = .ok (.aload_n 0, 1) := by decide +kernel
theorem dX5_figureHere_54 : decode cX5_figureHere 54 = .ok (.getfield 32, 3) := by decide +kernel
theorem dX5_figureHere_57 : decode cX5_figureHere 57 = .ok (.iaload, 1) := by decide +kernel
theorem dX5_figureHere_58 : decode cX5_figureHere 58 = .ok (.bipush 48, 2) := by decide +kernel
theorem dX5_figureHere_60 : decode cX5_figureHere 60 = .ok (.isub, 1) := by decide +kernel
theorem dX5_figureHere_61 : decode cX5_figureHere 61 = .ok (.goto 4, 3) := by decide +kernel
theorem dX5_figureHere_64 : decode cX5_figureHere 64 = .ok (.iconst (-1), 1) := by decide +kernel
theorem dX5_figureHere_65 : decode cX5_figureHere 65 = .ok (.ireturn, 1) := by decide +kernel
theorem dX5_letterHere_0 : decode cX5_letterHere 0 = .ok (.aload_n 0, 1) := by decide +kernel
theorem dX5_letterHere_1 : decode cX5_letterHere 1 = .ok (.getfield 32, 3) := by decide +kernel
theorem dX5_letterHere_4 : decode cX5_letterHere 4 = .ok (.aload_n 0, 1) := by decide +kernel
theorem dX5_letterHere_5 : decode cX5_letterHere 5 = .ok (.getfield 18, 3) := by decide +kernel
theorem dX5_letterHere_8 : decode cX5_letterHere 8 = .ok (.if_icmp .ge 15, 3) := by decide +kernel
theorem dX5_letterHere_11 : decode cX5_letterHere 11 = .ok (.aload_n 0, 1) := by decide +kernel
theorem dX5_letterHere_12 : decode cX5_letterHere 12 = .ok (.getfield 9, 3) := by decide +kernel
theorem dX5_letterHere_15 : decode cX5_letterHere 15 = .ok (.aload_n 0, 1) := by decide +kernel
theorem dX5_letterHere_16 : decode cX5_letterHere 16 = .ok (.getfield 32, 3) := by decide +kernel
theorem dX5_letterHere_19 : decode cX5_letterHere 19 = .ok (.iaload, 1) := by decide +kernel
theorem dX5_letterHere_20 : decode cX5_letterHere 20 = .ok (.goto 4, 3) := by decide +kernel
theorem dX5_letterHere_23 : decode cX5_letterHere 23 = .ok (.iconst (-1), 1) := by decide +kernel
theorem dX5_letterHere_24 : decode cX5_letterHere 24 = .ok (.ireturn, 1) := by decide +kernel
theorem dX6_init_0 : decode cX6_init 0 = .ok (.aload_n 0, 1) := by decide +kernel
theorem dX6_init_1 : decode cX6_init 1 = .ok (.invokespecial 3, 3) := by decide +kernel
theorem dX6_init_4 : decode cX6_init 4 = .ok (.aload_n 0, 1) := by decide +kernel
theorem dX6_init_5 : decode cX6_init 5 = .ok (.bipush 9, 2) := by decide +kernel
theorem dX6_init_7 : decode cX6_init 7 = .ok (.newarray .int, 2) := by decide +kernel
theorem dX6_init_9 : decode cX6_init 9 = .ok (.putfield 9, 3) := by decide +kernel
theorem dX6_init_12 : decode cX6_init 12 = .ok (.return_, 1) := by decide +kernel
set_option maxRecDepth 20000 in
theorem ggX6_find_X6_insideOf : GoodIn wsX6_find wsX6_insideOf := goodIn_r _ [14, 15, 16, 17, 18, 19, 20, 21, 22, 23, 24, 25, 54, 55, 56, 57, 58, 59, 60, 61, 62, 63, 64, 65, 43, 44, 45, 46, 47, 48, 49, 50, 51, 52] (by decide +kernel) (by decide +kernel)
set_option maxRecDepth 20000 in
theorem gX6_find_X6_insideOf : GoodIn wsX6_find (wsV RX6 30 RX6 yX6_insideOf wsX6_insideOf) := goodIn_app (goodIn_of _ (by decide +kernel)) ggX6_find_X6_insideOf
set_option maxRecDepth 20000 in
theorem ggX6_find_X6_step : GoodIn wsX6_find wsX6_step := goodIn_r _ [29, 1, 7, 30, 31, 32, 13, 33, 15, 34, 35, 36, 37, 38, 39, 40, 41, 42, 43, 44, 45, 46, 47, 48, 49, 50, 51, 52, 53, 54, 55, 56, 57, 58, 59, 60, 61, 62, 63, 64, 65] (by decide +kernel) (by decide +kernel)
set_option maxRecDepth 20000 in
theorem gX6_find_X6_step : GoodIn wsX6_find (wsV RX6 40 RX6 yX6_step wsX6_step) := goodIn_app (goodIn_of _ (by decide +kernel)) ggX6_find_X6_step
theorem dX6_find_0 : decode cX6_find 0 = .ok (.aload_n 2, 1) := by decide +kernel
theorem dX6_find_1 : decode cX6_find 1 = .ok (.getfield 15, 3) := by decide +kernel
theorem dX6_find_4 : decode cX6_find 4 = .ok (.iconst 1, 1) := by decide +kernel
theorem dX6_find_5 : decode cX6_find 5 = .ok (.if_icmp .ne 15, 3) := by decide +kernel
theorem dX6_find_8 : decode cX6_find 8 = .ok (.aload_n 2, 1) := by decide +kernel
theorem dX6_find_9 : decode cX6_find 9 = .ok (.getfield 21, 3) := by decide +kernel
theorem dX6_find_12 : decode cX6_find 12 = .ok (.bipush 9, 2) := by decide +kernel
theorem dX6_find_14 : decode cX6_find 14 = .ok (.invokestatic 24, 3) := by decide +kernel
theorem dX6_find_17 : decode cX6_find 17 = .ok (.goto 4, 3) := by decide +kernel
theorem dX6_find_20 : decode cX6_find 20 = .ok (.iconst 1, 1) := by decide +kernel
theorem dX6_find_21 : decode cX6_find 21 = .ok (.istore_n 3, 1) := by decide +kernel
theorem dX6_find_22 : decode cX6_find 22 = .ok (.aload_n 0, 1) := by decide +kernel
theorem dX6_find_23 : decode cX6_find 23 = .ok (.aload_n 1, 1) := by decide +kernel
theorem dX6_find_24 : decode cX6_find 24 = .ok (.aload_n 2, 1) := by decide +kernel
theorem dX6_find_25 : decode cX6_find 25 = .ok (.invokevirtual 30, 3) := by decide +kernel
theorem dX6_find_28 : decode cX6_find 28 = .ok (.istore 4, 2) := by decide +kernel
theorem dX6_find_30 : decode cX6_find 30 = .ok (.iconst 1, 1) := by decide +kernel
theorem dX6_find_31 : decode cX6_find 31 = .ok (.istore 5, 2) := by decide +kernel
theorem dX6_find_33 : decode cX6_find 33 = .ok (.iload 5, 2) := by decide +kernel
theorem dX6_find_35 : decode cX6_find 35 = .ok (.iload_n 3, 1) := by decide +kernel
theorem dX6_find_36 : decode cX6_find 36 = .ok (.if_icmp .ge 17, 3) := by decide +kernel
theorem dX6_find_39 : decode cX6_find 39 = .ok (.aload_n 0, 1) := by decide +kernel
theorem dX6_find_40 : decode cX6_find 40 = .ok (.getfield 9, 3) := by decide +kernel
theorem dX6_find_43 : decode cX6_find 43 = .ok (.iload 5, 2) := by decide +kernel
theorem dX6_find_45 : decode cX6_find 45 = .ok (.iconst 0, 1) := by decide +kernel
theorem dX6_find_46 : decode cX6_find 46 = .ok (.iastore, 1) := by decide +kernel
theorem dX6_find_47 : decode cX6_find 47 = .ok (.iinc 5 1, 3) := by decide +kernel
theorem dX6_find_50 : decode cX6_find 50 = .ok (.goto (-17), 3) := by decide +kernel
theorem dX6_find_53 : decode cX6_find 53 = .ok (.aload_n 0, 1) := by decide +kernel
theorem dX6_find_54 : decode cX6_find 54 = .ok (.getfield 9, 3) := by decide +kernel
theorem dX6_find_57 : decode cX6_find 57 = .ok (.iconst 0, 1) := by decide +kernel
theorem dX6_find_58 : decode cX6_find 58 = .ok (.iconst 1, 1) := by decide +kernel
theorem dX6_find_59 : decode cX6_find 59 = .ok (.aload_n 2, 1) := by decide +kernel
theorem dX6_find_60 : decode cX6_find 60 = .ok (.getfield 34, 3) := by decide +kernel
theorem dX6_find_63 : decode cX6_find 63 = .ok (.ishl, 1) := by decide +kernel
theorem dX6_find_64 : decode cX6_find 64 = .ok (.iastore, 1) := by decide +kernel
theorem dX6_find_65 : decode cX6_find 65 = .ok (.iconst 1, 1) := by decide +kernel
theorem dX6_find_66 : decode cX6_find 66 = .ok (.istore 5, 2) := by decide +kernel
theorem dX6_find_68 : decode cX6_find 68 = .ok (.iconst 0, 1) := by decide +kernel
theorem dX6_find_69 : decode cX6_find 69 = .ok (.istore 6, 2) := by decide +kernel
theorem dX6_find_71 : decode cX6_find 71 = .ok (.iload 6, 2) := by decide +kernel
theorem dX6_find_73 : decode cX6_find 73 = .ok (.aload_n 2, 1) := by decide +kernel
theorem dX6_find_74 : decode cX6_find 74 = .ok (.getfield 37, 3) := by decide +kernel
theorem dX6_find_77 : decode cX6_find 77 = .ok (.if_icmp .ge 25, 3) := by decide +kernel
theorem dX6_find_80 : decode cX6_find 80 = .ok (.iload 5, 2) := by decide +kernel
theorem dX6_find_82 : decode cX6_find 82 = .ok (.ifCond .eq 20, 3) := by decide +kernel
theorem dX6_find_85 : decode cX6_find 85 = .ok (.aload_n 0, 1) := by decide +kernel
theorem dX6_find_86 : decode cX6_find 86 = .ok (.aload_n 1, 1) := by decide +kernel
theorem dX6_find_87 : decode cX6_find 87 = .ok (.aload_n 2, 1) := by decide +kernel
theorem dX6_find_88 : decode cX6_find 88 = .ok (.iload_n 3, 1) := by decide +kernel
theorem dX6_find_89 : decode cX6_find 89 = .ok (.iload 4, 2) := by decide +kernel
theorem dX6_find_91 : decode cX6_find 91 = .ok (.invokevirtual 40, 3) := by decide +kernel
theorem dX6_find_94 : decode cX6_find 94 = .ok (.istore 5, 2) := by decide +kernel
theorem dX6_find_96 : decode cX6_find 96 = .ok (.iinc 6 1, 3) := by decide +kernel
theorem dX6_find_99 : decode cX6_find 99 = .ok (.goto (-28), 3) := by decide +kernel
theorem dX6_find_102 : decode cX6_find 102 = .ok (.iconst 0, 1) := by decide +kernel
theorem dX6_find_103 : decode cX6_find 103 = .ok (.istore 6, 2) := by decide +kernel
theorem dX6_find_105 : decode cX6_find 105 = .ok (.iconst 0, 1) := by decide +kernel
theorem dX6_find_106 : decode cX6_find 106 = .ok (.istore 7, 2) := by decide +kernel
theorem dX6_find_108 : decode cX6_find 108 = .ok (.iload 7, 2) := by decide +kernel
theorem dX6_find_110 : decode cX6_find 110 = .ok (.iload_n 3, 1) := by decide +kernel
theorem dX6_find_111 : decode cX6_find 111 = .ok (.if_icmp .ge 21, 3) := by decide +kernel
theorem dX6_find_114 : decode cX6_find 114 = .ok (.iload 6, 2) := by decide +kernel
theorem dX6_find_116 : decode cX6_find 116 = .ok (.aload_n 0, 1) := by decide +kernel
theorem dX6_find_117 : decode cX6_find 117 = .ok (.getfield 9, 3) := by decide +kernel
theorem dX6_find_120 : decode cX6_find 120 = .ok (.iload 7, 2) := by decide +kernel
theorem dX6_find_122 : decode cX6_find 122 = .ok (.iaload, 1) := by decide +kernel
theorem dX6_find_123 : decode cX6_find 123 = .ok (.ior, 1) := by decide +kernel
theorem dX6_find_124 : decode cX6_find 124 = .ok (.istore 6, 2) := by decide +kernel
theorem dX6_find_126 : decode cX6_find 126 = .ok (.iinc 7 1, 3) := by decide +kernel
theorem dX6_find_129 : decode cX6_find 129 = .ok (.goto (-21), 3) := by decide +kernel
theorem dX6_find_132 : decode cX6_find 132 = .ok (.iload 6, 2) := by decide +kernel
theorem dX6_find_134 : decode cX6_find 134 = .ok (.ireturn, 1) := by decide +kernel
set_option maxRecDepth 20000 in
theorem ggX6_insideOf_X4_isOutside : GoodIn wsX6_insideOf wsX4_isOutside := goodIn_r _ [6, 7, 8, 9, 10, 11, 24, 25, 26, 27, 28, 29, 30, 31, 32, 33, 12, 13, 14, 15, 16, 17, 18, 19, 20, 21, 22, 23] (by decide +kernel) (by decide +kernel)
set_option maxRecDepth 20000 in
theorem gX6_insideOf_X4_isOutside : GoodIn wsX6_insideOf (wsV RX6 49 RX4 yX4_isOutside wsX4_isOutside) := goodIn_app (goodIn_of _ (by decide +kernel)) ggX6_insideOf_X4_isOutside
theorem dX6_insideOf_0 : decode cX6_insideOf 0 = .ok (.iconst 0, 1) := by decide +kernel
theorem dX6_insideOf_1 : decode cX6_insideOf 1 = .ok (.istore_n 3, 1) := by decide +kernel
theorem dX6_insideOf_2 : decode cX6_insideOf 2 = .ok (.iconst 0, 1) := by decide +kernel
theorem dX6_insideOf_3 : decode cX6_insideOf 3 = .ok (.istore 4, 2) := by decide +kernel
theorem dX6_insideOf_5 : decode cX6_insideOf 5 = .ok (.iload 4, 2) := by decide +kernel
theorem dX6_insideOf_7 : decode cX6_insideOf 7 = .ok (.aload_n 1, 1) := by decide +kernel
theorem dX6_insideOf_8 : decode cX6_insideOf 8 = .ok (.getfield 44, 3) := by decide +kernel
theorem dX6_insideOf_11 : decode cX6_insideOf 11 = .ok (.if_icmp .ge 26, 3) := by decide +kernel
theorem dX6_insideOf_14 : decode cX6_insideOf 14 = .ok (.aload_n 2, 1) := by decide +kernel
theorem dX6_insideOf_15 : decode cX6_insideOf 15 = .ok (.aload_n 1, 1) := by decide +kernel
theorem dX6_insideOf_16 : decode cX6_insideOf 16 = .ok (.iload 4, 2) := by decide +kernel
theorem dX6_insideOf_18 : decode cX6_insideOf 18 = .ok (.invokevirtual 49, 3) := by decide +kernel
theorem dX6_insideOf_21 : decode cX6_insideOf 21 = .ok (.ifCond .ne 10, 3) := by decide +kernel
theorem dX6_insideOf_24 : decode cX6_insideOf 24 = .ok (.iload_n 3, 1) := by decide +kernel
theorem dX6_insideOf_25 : decode cX6_insideOf 25 = .ok (.iconst 1, 1) := by decide +kernel
theorem dX6_insideOf_26 : decode cX6_insideOf 26 = .ok (.iload 4, 2) := by decide +kernel
theorem dX6_insideOf_28 : decode cX6_insideOf 28 = .ok (.ishl, 1) := by decide +kernel
theorem dX6_insideOf_29 : decode cX6_insideOf 29 = .ok (.ior, 1) := by decide +kernel
theorem dX6_insideOf_30 : decode cX6_insideOf 30 = .ok (.istore_n 3, 1) := by decide +kernel
theorem dX6_insideOf_31 : decode cX6_insideOf 31 = .ok (.iinc 4 1, 3) := by decide +kernel
theorem dX6_insideOf_34 : decode cX6_insideOf 34 = .ok (.goto (-29), 3) := by decide +kernel
theorem dX6_insideOf_37 : decode cX6_insideOf 37 = .ok (.iload_n 3, 1) := by decide +kernel
theorem dX6_insideOf_38 : decode cX6_insideOf 38 = .ok (.ireturn, 1) := by decide +kernel
set_option maxRecDepth 20000 in
theorem ggX6_step_X6_movers : GoodIn wsX6_step wsX6_movers := goodIn_r _ [7, 8, 9, 10, 11, 12, 29, 30, 31, 32, 33, 34, 35, 36, 37, 38, 39, 40] (by decide +kernel) (by decide +kernel)
set_option maxRecDepth 20000 in
theorem gX6_step_X6_movers : GoodIn wsX6_step (wsV RX6 53 RX6 yX6_movers wsX6_movers) := goodIn_app (goodIn_of _ (by decide +kernel)) ggX6_step_X6_movers
set_option maxRecDepth 20000 in
theorem ggX6_step_X6_stayers : GoodIn wsX6_step wsX6_stayers := goodIn_r _ [16, 8, 17, 10, 11, 12, 29, 30, 31, 32, 33, 34, 35, 36, 37, 38, 39, 40, 18, 19, 20, 21, 22, 23, 24, 25, 26, 27] (by decide +kernel) (by decide +kernel)
set_option maxRecDepth 20000 in
theorem gX6_step_X6_stayers : GoodIn wsX6_step (wsV RX6 57 RX6 yX6_stayers wsX6_stayers) := goodIn_app (goodIn_of _ (by decide +kernel)) ggX6_step_X6_stayers
theorem dX6_step_0 : decode cX6_step 0 = .ok (.iconst 0, 1) := by decide +kernel
theorem dX6_step_1 : decode cX6_step 1 = .ok (.istore 5, 2) := by decide +kernel
theorem dX6_step_3 : decode cX6_step 3 = .ok (.iload_n 3, 1) := by decide +kernel
theorem dX6_step_4 : decode cX6_step 4 = .ok (.iconst 1, 1) := by decide +kernel
theorem dX6_step_5 : decode cX6_step 5 = .ok (.isub, 1) := by decide +kernel
theorem dX6_step_6 : decode cX6_step 6 = .ok (.istore 6, 2) := by decide +kernel
theorem dX6_step_8 : decode cX6_step 8 = .ok (.iload 6, 2) := by decide +kernel
theorem dX6_step_10 : decode cX6_step 10 = .ok (.ifCond .lt 109, 3) := by decide +kernel
theorem dX6_step_13 : decode cX6_step 13 = .ok (.aload_n 2, 1) := by decide +kernel
theorem dX6_step_14 : decode cX6_step 14 = .ok (.getfield 15, 3) := by decide +kernel
theorem dX6_step_17 : decode cX6_step 17 = .ok (.iconst 1, 1) := by decide +kernel
theorem dX6_step_18 : decode cX6_step 18 = .ok (.if_icmp .eq 18, 3) := by decide +kernel
theorem dX6_step_21 : decode cX6_step 21 = .ok (.aload_n 0, 1) := by decide +kernel
theorem dX6_step_22 : decode cX6_step 22 = .ok (.aload_n 1, 1) := by decide +kernel
theorem dX6_step_23 : decode cX6_step 23 = .ok (.aload_n 0, 1) := by decide +kernel
theorem dX6_step_24 : decode cX6_step 24 = .ok (.getfield 9, 3) := by decide +kernel
theorem dX6_step_27 : decode cX6_step 27 = .ok (.iload 6, 2) := by decide +kernel
theorem dX6_step_29 : decode cX6_step 29 = .ok (.iaload, 1) := by decide +kernel
theorem dX6_step_30 : decode cX6_step 30 = .ok (.invokevirtual 53, 3) := by decide +kernel
theorem dX6_step_33 : decode cX6_step 33 = .ok (.goto 26, 3) := by decide +kernel
theorem dX6_step_36 : decode cX6_step 36 = .ok (.iload 6, 2) := by decide +kernel
theorem dX6_step_38 : decode cX6_step 38 = .ok (.ifCond .le 20, 3) := by decide +kernel
theorem dX6_step_41 : decode cX6_step 41 = .ok (.aload_n 0, 1) := by decide +kernel
theorem dX6_step_42 : decode cX6_step 42 = .ok (.aload_n 1, 1) := by decide +kernel
theorem dX6_step_43 : decode cX6_step 43 = .ok (.aload_n 0, 1) := by decide +kernel
theorem dX6_step_44 : decode cX6_step 44 = .ok (.getfield 9, 3) := by decide +kernel
theorem dX6_step_47 : decode cX6_step 47 = .ok (.iload 6, 2) := by decide +kernel
theorem dX6_step_49 : decode cX6_step 49 = .ok (.iconst 1, 1) := by decide +kernel
theorem dX6_step_50 : decode cX6_step 50 = .ok (.isub, 1) := by decide +kernel
theorem dX6_step_51 : decode cX6_step 51 = .ok (.iaload, 1) := by decide +kernel
theorem dX6_step_52 : decode cX6_step 52 = .ok (.invokevirtual 53, 3) := by decide +kernel
theorem dX6_step_55 : decode cX6_step 55 = .ok (.goto 4, 3) := by decide +kernel
theorem dX6_step_58 : decode cX6_step 58 = .ok (.iconst 0, 1) := by decide +kernel
theorem dX6_step_59 : decode cX6_step 59 = .ok (.istore 7, 2) := by decide +kernel
theorem dX6_step_61 : decode cX6_step 61 = .ok (.aload_n 0, 1) := by decide +kernel
theorem dX6_step_62 : decode cX6_step 62 = .ok (.aload_n 1, 1) := by decide +kernel
theorem dX6_step_63 : decode cX6_step 63 = .ok (.aload_n 2, 1) := by decide +kernel
theorem dX6_step_64 : decode cX6_step 64 = .ok (.aload_n 0, 1) := by decide +kernel
theorem dX6_step_65 : decode cX6_step 65 = .ok (.getfield 9, 3) := by decide +kernel
theorem dX6_step_68 : decode cX6_step 68 = .ok (.iload 6, 2) := by decide +kernel
theorem dX6_step_70 : decode cX6_step 70 = .ok (.iaload, 1) := by decide +kernel
theorem dX6_step_71 : decode cX6_step 71 = .ok (.invokevirtual 57, 3) := by decide +kernel
theorem dX6_step_74 : decode cX6_step 74 = .ok (.iload 7, 2) := by decide +kernel
theorem dX6_step_76 : decode cX6_step 76 = .ok (.ior, 1) := by decide +kernel
theorem dX6_step_77 : decode cX6_step 77 = .ok (.iload 4, 2) := by decide +kernel
theorem dX6_step_79 : decode cX6_step 79 = .ok (.iand, 1) := by decide +kernel
theorem dX6_step_80 : decode cX6_step 80 = .ok (.istore 8, 2) := by decide +kernel
theorem dX6_step_82 : decode cX6_step 82 = .ok (.iload 5, 2) := by decide +kernel
theorem dX6_step_84 : decode cX6_step 84 = .ok (.iload 8, 2) := by decide +kernel
theorem dX6_step_86 : decode cX6_step 86 = .ok (.aload_n 0, 1) := by decide +kernel
theorem dX6_step_87 : decode cX6_step 87 = .ok (.getfield 9, 3) := by decide +kernel
theorem dX6_step_90 : decode cX6_step 90 = .ok (.iload 6, 2) := by decide +kernel
theorem dX6_step_92 : decode cX6_step 92 = .ok (.iaload, 1) := by decide +kernel
theorem dX6_step_93 : decode cX6_step 93 = .ok (.if_icmp .eq 7, 3) := by decide +kernel
theorem dX6_step_96 : decode cX6_step 96 = .ok (.iconst 1, 1) := by decide +kernel
theorem dX6_step_97 : decode cX6_step 97 = .ok (.goto 4, 3) := by decide +kernel
theorem dX6_step_100 : decode cX6_step 100 = .ok (.iconst 0, 1) := by decide +kernel
theorem dX6_step_101 : decode cX6_step 101 = .ok (.ior, 1) := by decide +kernel
theorem dX6_step_102 : decode cX6_step 102 = .ok (.istore 5, 2) := by decide +kernel
theorem dX6_step_104 : decode cX6_step 104 = .ok (.aload_n 0, 1) := by decide +kernel
theorem dX6_step_105 : decode cX6_step 105 = .ok (.getfield 9, 3) := by decide +kernel
theorem dX6_step_108 : decode cX6_step 108 = .ok (.iload 6, 2) := by decide +kernel
theorem dX6_step_110 : decode cX6_step 110 = .ok (.iload 8, 2) := by decide +kernel
theorem dX6_step_112 : decode cX6_step 112 = .ok (.iastore, 1) := by decide +kernel
theorem dX6_step_113 : decode cX6_step 113 = .ok (.iinc 6 (-1), 3) := by decide +kernel
theorem dX6_step_116 : decode cX6_step 116 = .ok (.goto (-108), 3) := by decide +kernel
theorem dX6_step_119 : decode cX6_step 119 = .ok (.iload 5, 2) := by decide +kernel
theorem dX6_step_121 : decode cX6_step 121 = .ok (.ireturn, 1) := by decide +kernel
set_option maxRecDepth 20000 in
theorem ggX6_stayers_X7_holds : GoodIn wsX6_stayers wsX7_holds := goodIn_r _ [5] (by decide +kernel) (by decide +kernel)
set_option maxRecDepth 20000 in
theorem gX6_stayers_X7_holds_n61 : GoodIn wsX6_stayers (wsX7_holds) := ggX6_stayers_X7_holds
theorem dX6_stayers_0 : decode cX6_stayers 0 = .ok (.iconst 0, 1) := by decide +kernel
theorem dX6_stayers_1 : decode cX6_stayers 1 = .ok (.istore 4, 2) := by decide +kernel
theorem dX6_stayers_3 : decode cX6_stayers 3 = .ok (.iconst 0, 1) := by decide +kernel
theorem dX6_stayers_4 : decode cX6_stayers 4 = .ok (.istore 5, 2) := by decide +kernel
theorem dX6_stayers_6 : decode cX6_stayers 6 = .ok (.iload 5, 2) := by decide +kernel
theorem dX6_stayers_8 : decode cX6_stayers 8 = .ok (.aload_n 1, 1) := by decide +kernel
theorem dX6_stayers_9 : decode cX6_stayers 9 = .ok (.getfield 44, 3) := by decide +kernel
theorem dX6_stayers_12 : decode cX6_stayers 12 = .ok (.if_icmp .ge 37, 3) := by decide +kernel
theorem dX6_stayers_15 : decode cX6_stayers 15 = .ok (.iload_n 3, 1) := by decide +kernel
theorem dX6_stayers_16 : decode cX6_stayers 16 = .ok (.iload 5, 2) := by decide +kernel
theorem dX6_stayers_18 : decode cX6_stayers 18 = .ok (.invokestatic 61, 3) := by decide +kernel
theorem dX6_stayers_21 : decode cX6_stayers 21 = .ok (.ifCond .eq 22, 3) := by decide +kernel
theorem dX6_stayers_24 : decode cX6_stayers 24 = .ok (.aload_n 2, 1) := by decide +kernel
theorem dX6_stayers_25 : decode cX6_stayers 25 = .ok (.getfield 65, 3) := by decide +kernel
theorem dX6_stayers_28 : decode cX6_stayers 28 = .ok (.iload 5, 2) := by decide +kernel
theorem dX6_stayers_30 : decode cX6_stayers 30 = .ok (.iaload, 1) := by decide +kernel
theorem dX6_stayers_31 : decode cX6_stayers 31 = .ok (.ifCond .le 12, 3) := by decide +kernel
theorem dX6_stayers_34 : decode cX6_stayers 34 = .ok (.iload 4, 2) := by decide +kernel
theorem dX6_stayers_36 : decode cX6_stayers 36 = .ok (.iconst 1, 1) := by decide +kernel
theorem dX6_stayers_37 : decode cX6_stayers 37 = .ok (.iload 5, 2) := by decide +kernel
theorem dX6_stayers_39 : decode cX6_stayers 39 = .ok (.ishl, 1) := by decide +kernel
theorem dX6_stayers_40 : decode cX6_stayers 40 = .ok (.ior, 1) := by decide +kernel
theorem dX6_stayers_41 : decode cX6_stayers 41 = .ok (.istore 4, 2) := by decide +kernel
theorem dX6_stayers_43 : decode cX6_stayers 43 = .ok (.iinc 5 1, 3) := by decide +kernel
theorem dX6_stayers_46 : decode cX6_stayers 46 = .ok (.goto (-40), 3) := by decide +kernel
theorem dX6_stayers_49 : decode cX6_stayers 49 = .ok (.iload 4, 2) := by decide +kernel
theorem dX6_stayers_51 : decode cX6_stayers 51 = .ok (.ireturn, 1) := by decide +kernel
set_option maxRecDepth 20000 in
theorem ggX6_movers_X7_holds : GoodIn wsX6_movers wsX7_holds := goodIn_r _ [5] (by decide +kernel) (by decide +kernel)
set_option maxRecDepth 20000 in
theorem gX6_movers_X7_holds_n61 : GoodIn wsX6_movers (wsX7_holds) := ggX6_movers_X7_holds
theorem dX6_movers_0 : decode cX6_movers 0 = .ok (.iconst 0, 1) := by decide +kernel
theorem dX6_movers_1 : decode cX6_movers 1 = .ok (.istore_n 3, 1) := by decide +kernel
theorem dX6_movers_2 : decode cX6_movers 2 = .ok (.iconst 0, 1) := by decide +kernel
theorem dX6_movers_3 : decode cX6_movers 3 = .ok (.istore 4, 2) := by decide +kernel
theorem dX6_movers_5 : decode cX6_movers 5 = .ok (.iload 4, 2) := by decide +kernel
theorem dX6_movers_7 : decode cX6_movers 7 = .ok (.aload_n 1, 1) := by decide +kernel
theorem dX6_movers_8 : decode cX6_movers 8 = .ok (.getfield 44, 3) := by decide +kernel
theorem dX6_movers_11 : decode cX6_movers 11 = .ok (.if_icmp .ge 28, 3) := by decide +kernel
theorem dX6_movers_14 : decode cX6_movers 14 = .ok (.iload_n 2, 1) := by decide +kernel
theorem dX6_movers_15 : decode cX6_movers 15 = .ok (.iload 4, 2) := by decide +kernel
theorem dX6_movers_17 : decode cX6_movers 17 = .ok (.invokestatic 61, 3) := by decide +kernel
theorem dX6_movers_20 : decode cX6_movers 20 = .ok (.ifCond .eq 13, 3) := by decide +kernel
theorem dX6_movers_23 : decode cX6_movers 23 = .ok (.iload_n 3, 1) := by decide +kernel
theorem dX6_movers_24 : decode cX6_movers 24 = .ok (.aload_n 1, 1) := by decide +kernel
theorem dX6_movers_25 : decode cX6_movers 25 = .ok (.getfield 68, 3) := by decide +kernel
theorem dX6_movers_28 : decode cX6_movers 28 = .ok (.iload 4, 2) := by decide +kernel
theorem dX6_movers_30 : decode cX6_movers 30 = .ok (.iaload, 1) := by decide +kernel
theorem dX6_movers_31 : decode cX6_movers 31 = .ok (.ior, 1) := by decide +kernel
theorem dX6_movers_32 : decode cX6_movers 32 = .ok (.istore_n 3, 1) := by decide +kernel
theorem dX6_movers_33 : decode cX6_movers 33 = .ok (.iinc 4 1, 3) := by decide +kernel
theorem dX6_movers_36 : decode cX6_movers 36 = .ok (.goto (-31), 3) := by decide +kernel
theorem dX6_movers_39 : decode cX6_movers 39 = .ok (.iload_n 3, 1) := by decide +kernel
theorem dX6_movers_40 : decode cX6_movers 40 = .ok (.ireturn, 1) := by decide +kernel
set_option maxRecDepth 20000 in
theorem ggX7_init_X5_init : GoodIn wsX7_init wsX5_init := goodIn_r _ [37, 38, 2, 3, 39, 40, 41, 281, 282, 283, 284] (by decide +kernel) (by decide +kernel)
set_option maxRecDepth 20000 in
theorem gX7_init_X5_init_n9 : GoodIn wsX7_init (wsX5_init) := ggX7_init_X5_init
set_option maxRecDepth 20000 in
theorem ggX7_init_X2_init : GoodIn wsX7_init wsX2_init := goodIn_r _ [44, 45, 2, 3, 46, 47, 25, 26, 48, 49, 50, 39, 51, 52, 295, 296, 297, 309, 310, 311, 312, 313, 314, 315, 316, 317, 318] (by decide +kernel) (by decide +kernel)
set_option maxRecDepth 20000 in
theorem gX7_init_X2_init : GoodIn wsX7_init (wsX2_init) := ggX7_init_X2_init
set_option maxRecDepth 20000 in
theorem ggX7_init_X0_init : GoodIn wsX7_init wsX0_init := goodIn_r _ [54, 55, 2, 3, 56, 57, 39, 58, 59, 298, 299, 300, 301, 302, 303] (by decide +kernel) (by decide +kernel)
set_option maxRecDepth 20000 in
theorem gX7_init_X0_init_n25 : GoodIn wsX7_init (wsX0_init) := ggX7_init_X0_init
set_option maxRecDepth 20000 in
theorem ggX7_init_X6_init : GoodIn wsX7_init wsX6_init := goodIn_r _ [61, 62, 2, 3, 39, 63, 304] (by decide +kernel) (by decide +kernel)
set_option maxRecDepth 20000 in
theorem gX7_init_X6_init_n32 : GoodIn wsX7_init (wsX6_init) := ggX7_init_X6_init
set_option maxRecDepth 20000 in
theorem ggX7_init_X3_init : GoodIn wsX7_init wsX3_init := goodIn_r _ [65, 66, 2, 3, 39, 67, 305, 306, 307, 308] (by decide +kernel) (by decide +kernel)
set_option maxRecDepth 20000 in
theorem gX7_init_X3_init_n39 : GoodIn wsX7_init (wsX3_init) := ggX7_init_X3_init
set_option maxRecDepth 20000 in
theorem ggX7_init_X4_init : GoodIn wsX7_init wsX4_init := goodIn_r _ [49, 50, 2, 3, 39, 51, 52, 309, 310, 311, 312, 313, 314, 315, 316, 317, 318] (by decide +kernel) (by decide +kernel)
set_option maxRecDepth 20000 in
theorem gX7_init_X4_init_n46 : GoodIn wsX7_init (wsX4_init) := ggX7_init_X4_init
set_option maxRecDepth 20000 in
theorem ggX7_init_X1_init : GoodIn wsX7_init wsX1_init := goodIn_r _ [69, 70, 2, 3, 71, 39, 72, 73, 74, 75, 56, 76, 77, 319, 320, 321, 322, 323, 324, 325, 326, 327, 328, 329, 330] (by decide +kernel) (by decide +kernel)
set_option maxRecDepth 20000 in
theorem gX7_init_X1_init_n53 : GoodIn wsX7_init (wsX1_init) := ggX7_init_X1_init
set_option maxRecDepth 20000 in
theorem ggX7_init_J0_length_8abf5 : GoodIn wsX7_init wsJ0_length_8abf5 := goodIn_r _ [82, 83, 84, 85, 86, 81, 87, 88, 89] (by decide +kernel) (by decide +kernel)
set_option maxRecDepth 20000 in
theorem gX7_init_J0_length_8abf5 : GoodIn wsX7_init (wsV RX7 69 RJ0 yJ0_length_8abf5 wsJ0_length_8abf5) := goodIn_app (goodIn_of _ (by decide +kernel)) ggX7_init_J0_length_8abf5
set_option maxRecDepth 20000 in
theorem ggX7_init_J0_charAt_5068e : GoodIn wsX7_init wsJ0_charAt_5068e := goodIn_r _ [93, 83, 94, 95, 96, 81, 97, 88, 89, 98, 99, 100, 101, 102, 103, 104, 105, 106, 107, 108, 109, 110, 111, 112, 113, 114, 115, 116, 117, 118, 119, 120, 121, 122, 123, 124, 125, 126] (by decide +kernel) (by decide +kernel)
set_option maxRecDepth 20000 in
theorem gX7_init_J0_charAt_5068e : GoodIn wsX7_init (wsV RX7 75 RJ0 yJ0_charAt_5068e wsJ0_charAt_5068e) := goodIn_app (goodIn_of _ (by decide +kernel)) ggX7_init_J0_charAt_5068e
set_option maxRecDepth 20000 in
theorem ggX7_init_X5_append : GoodIn wsX7_init wsX5_append := goodIn_r _ [130, 131, 40, 281, 282, 283, 284] (by decide +kernel) (by decide +kernel)
set_option maxRecDepth 20000 in
theorem gX7_init_X5_append : GoodIn wsX7_init (wsV RX7 79 RX5 yX5_append wsX5_append) := goodIn_app (goodIn_of _ (by decide +kernel)) ggX7_init_X5_append
set_option maxRecDepth 20000 in
theorem ggX7_init_X7_layText : GoodIn wsX7_init wsX7_layText := goodIn_r _ [136, 7, 33, 34, 31, 32, 11, 137, 15, 138, 139, 140, 6, 141, 142, 131, 143, 144, 145, 30, 146, 147, 148, 74, 75, 72, 73, 149, 150, 151, 152, 153, 154, 155, 156, 157, 158, 159, 26, 160, 51, 52, 161, 162, 163, 164, 165, 166, 167, 168, 169, 170, 171, 172, 173, 174, 175, 176, 177, 178, 179, 180, 181, 182, 183, 40, 184, 185, 186, 187, 188, 189, 190, 191, 41, 192, 193, 194, 195, 196, 197, 198, 199, 200, 201, 202, 203, 204, 205, 206, 207, 208, 209, 210, 211, 212, 213, 214, 215, 216, 217, 218, 219, 220, 221, 222, 223, 224, 225, 226, 227, 228, 229, 230, 231, 135, 232, 233, 234, 235, 236, 237, 238, 239, 240, 241, 242, 243, 244, 245, 246, 247, 248, 249, 76, 250, 251, 252, 253, 77, 254, 255, 256, 257, 258, 259, 260, 261, 262, 263, 264, 265, 266, 267, 268, 269, 270, 271, 272, 273, 14, 274, 275, 276, 57, 277, 278, 279, 280, 285, 286, 287, 288, 289, 290, 291, 292, 293, 294, 295, 296, 297, 281, 282, 283, 284, 319, 320, 321, 322, 323, 324, 325, 326, 327, 328, 329, 330, 309, 310, 311, 312, 313, 314, 315, 316, 317, 318, 298, 299, 300, 301, 302, 303] (by decide +kernel) (by decide +kernel)
set_option maxRecDepth 20000 in
theorem gX7_init_X7_layText : GoodIn wsX7_init (wsV RX7 83 RX7 yX7_layText wsX7_layText) := goodIn_app (goodIn_of _ (by decide +kernel)) ggX7_init_X7_layText
theorem dX7_init_0 : decode cX7_init 0 = .ok (.aload_n 0, 1) := by decide +kernel
theorem dX7_init_1 : decode cX7_init 1 = .ok (.invokespecial 1, 3) := by decide +kernel
theorem dX7_init_4 : decode cX7_init 4 = .ok (.aload_n 0, 1) := by decide +kernel
theorem dX7_init_5 : decode cX7_init 5 = .ok (.new 7, 3) := by decide +kernel
theorem dX7_init_8 : decode cX7_init 8 = .ok (.dup, 1) := by decide +kernel
theorem dX7_init_9 : decode cX7_init 9 = .ok (.invokespecial 9, 3) := by decide +kernel
theorem dX7_init_12 : decode cX7_init 12 = .ok (.putfield 10, 3) := by decide +kernel
theorem dX7_init_15 : decode cX7_init 15 = .ok (.aload_n 0, 1) := by decide +kernel
theorem dX7_init_16 : decode cX7_init 16 = .ok (.new 16, 3) := by decide +kernel
theorem dX7_init_19 : decode cX7_init 19 = .ok (.dup, 1) := by decide +kernel
theorem dX7_init_20 : decode cX7_init 20 = .ok (.invokespecial 18, 3) := by decide +kernel
theorem dX7_init_23 : decode cX7_init 23 = .ok (.putfield 19, 3) := by decide +kernel
theorem dX7_init_26 : decode cX7_init 26 = .ok (.aload_n 0, 1) := by decide +kernel
theorem dX7_init_27 : decode cX7_init 27 = .ok (.new 23, 3) := by decide +kernel
theorem dX7_init_30 : decode cX7_init 30 = .ok (.dup, 1) := by decide +kernel
theorem dX7_init_31 : decode cX7_init 31 = .ok (.invokespecial 25, 3) := by decide +kernel
theorem dX7_init_34 : decode cX7_init 34 = .ok (.putfield 26, 3) := by decide +kernel
theorem dX7_init_37 : decode cX7_init 37 = .ok (.aload_n 0, 1) := by decide +kernel
theorem dX7_init_38 : decode cX7_init 38 = .ok (.new 30, 3) := by decide +kernel
theorem dX7_init_41 : decode cX7_init 41 = .ok (.dup, 1) := by decide +kernel
theorem dX7_init_42 : decode cX7_init 42 = .ok (.invokespecial 32, 3) := by decide +kernel
theorem dX7_init_45 : decode cX7_init 45 = .ok (.putfield 33, 3) := by decide +kernel
theorem dX7_init_48 : decode cX7_init 48 = .ok (.aload_n 0, 1) := by decide +kernel
theorem dX7_init_49 : decode cX7_init 49 = .ok (.new 37, 3) := by decide +kernel
theorem dX7_init_52 : decode cX7_init 52 = .ok (.dup, 1) := by decide +kernel
theorem dX7_init_53 : decode cX7_init 53 = .ok (.invokespecial 39, 3) := by decide +kernel
theorem dX7_init_56 : decode cX7_init 56 = .ok (.putfield 40, 3) := by decide +kernel
theorem dX7_init_59 : decode cX7_init 59 = .ok (.aload_n 0, 1) := by decide +kernel
theorem dX7_init_60 : decode cX7_init 60 = .ok (.new 44, 3) := by decide +kernel
theorem dX7_init_63 : decode cX7_init 63 = .ok (.dup, 1) := by decide +kernel
theorem dX7_init_64 : decode cX7_init 64 = .ok (.invokespecial 46, 3) := by decide +kernel
theorem dX7_init_67 : decode cX7_init 67 = .ok (.putfield 47, 3) := by decide +kernel
theorem dX7_init_70 : decode cX7_init 70 = .ok (.aload_n 0, 1) := by decide +kernel
theorem dX7_init_71 : decode cX7_init 71 = .ok (.new 51, 3) := by decide +kernel
theorem dX7_init_74 : decode cX7_init 74 = .ok (.dup, 1) := by decide +kernel
theorem dX7_init_75 : decode cX7_init 75 = .ok (.invokespecial 53, 3) := by decide +kernel
theorem dX7_init_78 : decode cX7_init 78 = .ok (.putfield 54, 3) := by decide +kernel
theorem dX7_init_81 : decode cX7_init 81 = .ok (.aload_n 0, 1) := by decide +kernel
theorem dX7_init_82 : decode cX7_init 82 = .ok (.new 44, 3) := by decide +kernel
theorem dX7_init_85 : decode cX7_init 85 = .ok (.dup, 1) := by decide +kernel
theorem dX7_init_86 : decode cX7_init 86 = .ok (.invokespecial 46, 3) := by decide +kernel
theorem dX7_init_89 : decode cX7_init 89 = .ok (.putfield 58, 3) := by decide +kernel
theorem dX7_init_92 : decode cX7_init 92 = .ok (.aload_n 0, 1) := by decide +kernel
theorem dX7_init_93 : decode cX7_init 93 = .ok (.new 51, 3) := by decide +kernel
theorem dX7_init_96 : decode cX7_init 96 = .ok (.dup, 1) := by decide +kernel
theorem dX7_init_97 : decode cX7_init 97 = .ok (.invokespecial 53, 3) := by decide +kernel
theorem dX7_init_100 : decode cX7_init 100 = .ok (.putfield 61, 3) := by decide +kernel
theorem dX7_init_103 : decode cX7_init 103 = .ok (.aload_n 0, 1) := by decide +kernel
theorem dX7_init_104 : decode cX7_init 104 = .ok (.new 44, 3) := by decide +kernel
theorem dX7_init_107 : decode cX7_init 107 = .ok (.dup, 1) := by decide +kernel
theorem dX7_init_108 : decode cX7_init 108 = .ok (.invokespecial 46, 3) := by decide +kernel
theorem dX7_init_111 : decode cX7_init 111 = .ok (.putfield 64, 3) := by decide +kernel
theorem dX7_init_114 : decode cX7_init 114 = .ok (.iconst 0, 1) := by decide +kernel
theorem dX7_init_115 : decode cX7_init 115 = .ok (.istore_n 1, 1) := by decide +kernel
theorem dX7_init_116 : decode cX7_init 116 = .ok (.iload_n 1, 1) := by decide +kernel
theorem dX7_init_117 : decode cX7_init 117 = .ok (.ldc 67, 2) := by decide +kernel
theorem dX7_init_119 : decode cX7_init 119 = .ok (.invokevirtual 69, 3) := by decide +kernel
theorem dX7_init_122 : decode cX7_init 122 = .ok (.if_icmp .ge 23, 3) := by decide +kernel
theorem dX7_init_125 : decode cX7_init 125 = .ok (.aload_n 0, 1) := by decide +kernel
theorem dX7_init_126 : decode cX7_init 126 = .ok (.getfield 10, 3) := by decide +kernel
theorem dX7_init_129 : decode cX7_init 129 = .ok (.ldc 67, 2) := by decide +kernel
theorem dX7_init_131 : decode cX7_init 131 = .ok (.iload_n 1, 1) := by decide +kernel
theorem dX7_init_132 : decode cX7_init 132 = .ok (.invokevirtual 75, 3) := by decide +kernel
theorem dX7_init_135 : decode cX7_init 135 = .ok (.invokevirtual 79, 3) := by decide +kernel
theorem dX7_init_138 : decode cX7_init 138 = .ok (.pop, 1) := by decide +kernel
theorem dX7_init_139 : decode cX7_init 139 = .ok (.iinc 1 1, 3) := by decide +kernel
theorem dX7_init_142 : decode cX7_init 142 = .ok (.goto (-26), 3) := by decide +kernel
theorem dX7_init_145 : decode cX7_init 145 = .ok (.aload_n 0, 1) := by decide +kernel
theorem dX7_init_146 : decode cX7_init 146 = .ok (.invokevirtual 83, 3) := by decide +kernel
theorem dX7_init_149 : decode cX7_init 149 = .ok (.pop, 1) := by decide +kernel
theorem dX7_init_150 : decode cX7_init 150 = .ok (.aload_n 0, 1) := by decide +kernel
theorem dX7_init_151 : decode cX7_init 151 = .ok (.getfield 10, 3) := by decide +kernel
theorem dX7_init_154 : decode cX7_init 154 = .ok (.iconst 0, 1) := by decide +kernel
theorem dX7_init_155 : decode cX7_init 155 = .ok (.putfield 87, 3) := by decide +kernel
theorem dX7_init_158 : decode cX7_init 158 = .ok (.return_, 1) := by decide +kernel
set_option maxRecDepth 20000 in
theorem ggX7_write_X5_append : GoodIn wsX7_write wsX5_append := goodIn_r _ [7, 8, 9, 20, 21, 22, 23] (by decide +kernel) (by decide +kernel)
set_option maxRecDepth 20000 in
theorem gX7_write_X5_append : GoodIn wsX7_write (wsV RX7 79 RX5 yX5_append wsX5_append) := goodIn_app (goodIn_of _ (by decide +kernel)) ggX7_write_X5_append
theorem dX7_write_0 : decode cX7_write 0 = .ok (.iload_n 1, 1) := by decide +kernel
theorem dX7_write_1 : decode cX7_write 1 = .ok (.bipush 32, 2) := by decide +kernel
theorem dX7_write_3 : decode cX7_write 3 = .ok (.if_icmp .lt 9, 3) := by decide +kernel
theorem dX7_write_6 : decode cX7_write 6 = .ok (.iload_n 1, 1) := by decide +kernel
theorem dX7_write_7 : decode cX7_write 7 = .ok (.bipush 126, 2) := by decide +kernel
theorem dX7_write_9 : decode cX7_write 9 = .ok (.if_icmp .le 5, 3) := by decide +kernel
theorem dX7_write_12 : decode cX7_write 12 = .ok (.iconst (-1), 1) := by decide +kernel
theorem dX7_write_13 : decode cX7_write 13 = .ok (.ireturn, 1) := by decide +kernel
theorem dX7_write_14 : decode cX7_write 14 = .ok (.aload_n 0, 1) := by decide +kernel
theorem dX7_write_15 : decode cX7_write 15 = .ok (.getfield 10, 3) := by decide +kernel
theorem dX7_write_18 : decode cX7_write 18 = .ok (.iload_n 1, 1) := by decide +kernel
theorem dX7_write_19 : decode cX7_write 19 = .ok (.invokevirtual 79, 3) := by decide +kernel
theorem dX7_write_22 : decode cX7_write 22 = .ok (.ifCond .eq 13, 3) := by decide +kernel
theorem dX7_write_25 : decode cX7_write 25 = .ok (.aload_n 0, 1) := by decide +kernel
theorem dX7_write_26 : decode cX7_write 26 = .ok (.getfield 10, 3) := by decide +kernel
theorem dX7_write_29 : decode cX7_write 29 = .ok (.getfield 87, 3) := by decide +kernel
theorem dX7_write_32 : decode cX7_write 32 = .ok (.goto 5, 3) := by decide +kernel
theorem dX7_write_35 : decode cX7_write 35 = .ok (.bipush (-3), 2) := by decide +kernel
theorem dX7_write_37 : decode cX7_write 37 = .ok (.ireturn, 1) := by decide +kernel
theorem dX7_wipe_0 : decode cX7_wipe 0 = .ok (.aload_n 0, 1) := by decide +kernel
theorem dX7_wipe_1 : decode cX7_wipe 1 = .ok (.getfield 10, 3) := by decide +kernel
theorem dX7_wipe_4 : decode cX7_wipe 4 = .ok (.getfield 87, 3) := by decide +kernel
theorem dX7_wipe_7 : decode cX7_wipe 7 = .ok (.istore_n 1, 1) := by decide +kernel
theorem dX7_wipe_8 : decode cX7_wipe 8 = .ok (.aload_n 0, 1) := by decide +kernel
theorem dX7_wipe_9 : decode cX7_wipe 9 = .ok (.getfield 10, 3) := by decide +kernel
theorem dX7_wipe_12 : decode cX7_wipe 12 = .ok (.iconst 0, 1) := by decide +kernel
theorem dX7_wipe_13 : decode cX7_wipe 13 = .ok (.putfield 87, 3) := by decide +kernel
theorem dX7_wipe_16 : decode cX7_wipe 16 = .ok (.iload_n 1, 1) := by decide +kernel
theorem dX7_wipe_17 : decode cX7_wipe 17 = .ok (.ireturn, 1) := by decide +kernel
set_option maxRecDepth 20000 in
theorem ggX7_fault_X5_readInto : GoodIn wsX7_fault wsX5_readInto := goodIn_r _ [8, 9, 10, 11, 12, 13, 14, 15, 16, 17, 18, 19, 20, 21, 22, 23, 24, 25, 26, 27, 28, 29, 30, 31, 32, 33, 34, 35, 36, 37, 38, 39, 40, 41, 42, 43, 44, 45, 46, 47, 48, 49, 50, 51, 7, 52, 53, 54, 55, 56, 57, 58, 59, 60, 61, 62, 63, 64, 65, 66, 67, 68, 69, 70, 71, 72, 73, 74, 75, 76, 77, 78, 79, 80, 81, 82, 83, 84, 85, 86, 87, 88, 89, 90, 91, 92, 93, 94, 95, 96, 97, 98, 99, 100, 101, 102, 103, 104, 105, 106, 107, 108, 109, 110, 111, 112, 113, 114, 115, 116, 127, 128, 129, 130, 131, 132, 133, 134, 135, 136, 137, 138, 139, 140, 141, 142, 143, 144, 145, 146, 147, 148, 149, 150, 151, 152] (by decide +kernel) (by decide +kernel)
set_option maxRecDepth 20000 in
theorem gX7_fault_X5_readInto : GoodIn wsX7_fault (wsV RX7 90 RX5 yX5_readInto wsX5_readInto) := goodIn_app (goodIn_of _ (by decide +kernel)) ggX7_fault_X5_readInto
theorem dX7_fault_0 : decode cX7_fault 0 = .ok (.aload_n 0, 1) := by decide +kernel
theorem dX7_fault_1 : decode cX7_fault 1 = .ok (.getfield 10, 3) := by decide +kernel
theorem dX7_fault_4 : decode cX7_fault 4 = .ok (.aload_n 0, 1) := by decide +kernel
theorem dX7_fault_5 : decode cX7_fault 5 = .ok (.getfield 61, 3) := by decide +kernel
theorem dX7_fault_8 : decode cX7_fault 8 = .ok (.aload_n 0, 1) := by decide +kernel
theorem dX7_fault_9 : decode cX7_fault 9 = .ok (.getfield 64, 3) := by decide +kernel
theorem dX7_fault_12 : decode cX7_fault 12 = .ok (.invokevirtual 90, 3) := by decide +kernel
theorem dX7_fault_15 : decode cX7_fault 15 = .ok (.ireturn, 1) := by decide +kernel
set_option maxRecDepth 20000 in
theorem ggX7_lay_X7_layText : GoodIn wsX7_lay wsX7_layText := goodIn_r _ [7, 8, 9, 10, 1, 11, 12, 13, 14, 15, 16, 17, 18, 19, 20, 21, 22, 23, 24, 25, 26, 27, 28, 29, 30, 31, 32, 33, 34, 35, 36, 37, 38, 39, 40, 41, 42, 43, 44, 45, 46, 47, 48, 49, 50, 51, 52, 53, 54, 55, 56, 57, 58, 59, 60, 61, 62, 63, 64, 65, 66, 67, 68, 69, 70, 71, 72, 73, 74, 75, 76, 77, 78, 79, 80, 81, 82, 83, 84, 85, 86, 87, 88, 89, 90, 91, 92, 93, 94, 95, 96, 97, 98, 99, 100, 101, 102, 103, 104, 105, 106, 107, 108, 109, 110, 111, 112, 113, 114, 115, 116, 117, 118, 119, 120, 6, 121, 122, 123, 124, 125, 126, 127, 128, 129, 130, 131, 132, 133, 134, 135, 136, 137, 138, 139, 140, 141, 142, 143, 144, 145, 146, 147, 148, 149, 150, 151, 152, 153, 154, 155, 156, 157, 158, 159, 160, 161, 162, 163, 164, 165, 166, 167, 168, 169, 170, 171, 172, 173, 174, 175, 176, 177, 178, 179, 180, 181, 182, 183, 196, 197, 198, 199, 200, 201, 202, 184, 185, 186, 187, 188, 189, 190, 191, 192, 193, 194, 195, 203, 204, 205, 206, 207, 208, 209, 210, 211, 212, 213, 214, 215, 216, 217, 218] (by decide +kernel) (by decide +kernel)
set_option maxRecDepth 20000 in
theorem gX7_lay_X7_layText : GoodIn wsX7_lay (wsV RX7 83 RX7 yX7_layText wsX7_layText) := goodIn_app (goodIn_of _ (by decide +kernel)) ggX7_lay_X7_layText
theorem dX7_lay_0 : decode cX7_lay 0 = .ok (.aload_n 0, 1) := by decide +kernel
theorem dX7_lay_1 : decode cX7_lay 1 = .ok (.invokevirtual 83, 3) := by decide +kernel
theorem dX7_lay_4 : decode cX7_lay 4 = .ok (.ifCond .eq 13, 3) := by decide +kernel
theorem dX7_lay_7 : decode cX7_lay 7 = .ok (.aload_n 0, 1) := by decide +kernel
theorem dX7_lay_8 : decode cX7_lay 8 = .ok (.getfield 54, 3) := by decide +kernel
theorem dX7_lay_11 : decode cX7_lay 11 = .ok (.getfield 94, 3) := by decide +kernel
theorem dX7_lay_14 : decode cX7_lay 14 = .ok (.goto 5, 3) := by decide +kernel
theorem dX7_lay_17 : decode cX7_lay 17 = .ok (.bipush (-2), 2) := by decide +kernel
theorem dX7_lay_19 : decode cX7_lay 19 = .ok (.ireturn, 1) := by decide +kernel
set_option maxRecDepth 20000 in
theorem ggX7_layText_X5_readInto : GoodIn wsX7_layText wsX5_readInto := goodIn_r _ [13, 14, 15, 16, 17, 18, 19, 20, 21, 22, 23, 24, 25, 26, 27, 28, 29, 30, 31, 32, 33, 34, 35, 36, 37, 38, 39, 40, 41, 42, 43, 44, 45, 46, 47, 48, 49, 50, 51, 52, 53, 54, 55, 56, 12, 57, 58, 59, 60, 61, 62, 63, 64, 65, 66, 67, 68, 69, 70, 71, 72, 73, 74, 75, 76, 77, 78, 79, 80, 81, 82, 83, 84, 85, 86, 87, 88, 89, 90, 91, 92, 93, 94, 95, 96, 97, 98, 99, 100, 101, 102, 103, 104, 105, 106, 107, 108, 109, 110, 111, 112, 113, 114, 115, 116, 117, 118, 119, 120, 121, 182, 183, 184, 185, 186, 187, 188, 189, 190, 191, 192, 193, 194, 195, 196, 197, 198, 199, 200, 201, 202, 203, 204, 205, 206, 207] (by decide +kernel) (by decide +kernel)
set_option maxRecDepth 20000 in
theorem gX7_layText_X5_readInto : GoodIn wsX7_layText (wsV RX7 90 RX5 yX5_readInto wsX5_readInto) := goodIn_app (goodIn_of _ (by decide +kernel)) ggX7_layText_X5_readInto
set_option maxRecDepth 20000 in
theorem ggX7_layText_X1_isWhole : GoodIn wsX7_layText wsX1_isWhole := goodIn_r _ [125, 21, 26, 126, 127, 128, 129, 186, 187, 188, 189, 190, 191, 192, 193, 194, 195, 196, 197] (by decide +kernel) (by decide +kernel)
set_option maxRecDepth 20000 in
theorem gX7_layText_X1_isWhole : GoodIn wsX7_layText (wsV RX7 97 RX1 yX1_isWhole wsX1_isWhole) := goodIn_app (goodIn_of _ (by decide +kernel)) ggX7_layText_X1_isWhole
set_option maxRecDepth 20000 in
theorem ggX7_layText_X1_growTrees : GoodIn wsX7_layText wsX1_growTrees := goodIn_r _ [133, 21, 134, 135, 136, 137, 19, 138, 139, 140, 141, 142, 143, 144, 145, 146, 147, 148, 149, 150, 151, 152, 153, 154, 24, 25, 155, 115, 156, 186, 187, 188, 189, 190, 191, 192, 193, 194, 195, 196, 197] (by decide +kernel) (by decide +kernel)
set_option maxRecDepth 20000 in
theorem gX7_layText_X1_growTrees : GoodIn wsX7_layText (wsV RX7 100 RX1 yX1_growTrees wsX1_growTrees) := goodIn_app (goodIn_of _ (by decide +kernel)) ggX7_layText_X1_growTrees
set_option maxRecDepth 20000 in
theorem ggX7_layText_X0_reckon : GoodIn wsX7_layText wsX0_reckon := goodIn_r _ [161, 162, 163, 164, 165, 166, 167, 168, 208, 209, 210, 211, 212, 213, 186, 187, 188, 189, 190, 191, 192, 193, 194, 195, 196, 197, 198, 199, 200, 201, 202, 203, 204, 205, 206, 207] (by decide +kernel) (by decide +kernel)
set_option maxRecDepth 20000 in
theorem gX7_layText_X0_reckon : GoodIn wsX7_layText (wsV RX7 106 RX0 yX0_reckon wsX0_reckon) := goodIn_app (goodIn_of _ (by decide +kernel)) ggX7_layText_X0_reckon
theorem dX7_layText_0 : decode cX7_layText 0 = .ok (.aload_n 0, 1) := by decide +kernel
theorem dX7_layText_1 : decode cX7_layText 1 = .ok (.getfield 10, 3) := by decide +kernel
theorem dX7_layText_4 : decode cX7_layText 4 = .ok (.aload_n 0, 1) := by decide +kernel
theorem dX7_layText_5 : decode cX7_layText 5 = .ok (.getfield 61, 3) := by decide +kernel
theorem dX7_layText_8 : decode cX7_layText 8 = .ok (.aload_n 0, 1) := by decide +kernel
theorem dX7_layText_9 : decode cX7_layText 9 = .ok (.getfield 64, 3) := by decide +kernel
theorem dX7_layText_12 : decode cX7_layText 12 = .ok (.invokevirtual 90, 3) := by decide +kernel
theorem dX7_layText_15 : decode cX7_layText 15 = .ok (.bipush (-4), 2) := by decide +kernel
theorem dX7_layText_17 : decode cX7_layText 17 = .ok (.if_icmp .ne 13, 3) := by decide +kernel
theorem dX7_layText_20 : decode cX7_layText 20 = .ok (.aload_n 0, 1) := by decide +kernel
theorem dX7_layText_21 : decode cX7_layText 21 = .ok (.getfield 61, 3) := by decide +kernel
theorem dX7_layText_24 : decode cX7_layText 24 = .ok (.invokevirtual 97, 3) := by decide +kernel
theorem dX7_layText_27 : decode cX7_layText 27 = .ok (.ifCond .ne 5, 3) := by decide +kernel
theorem dX7_layText_30 : decode cX7_layText 30 = .ok (.iconst 0, 1) := by decide +kernel
theorem dX7_layText_31 : decode cX7_layText 31 = .ok (.ireturn, 1) := by decide +kernel
theorem dX7_layText_32 : decode cX7_layText 32 = .ok (.aload_n 0, 1) := by decide +kernel
theorem dX7_layText_33 : decode cX7_layText 33 = .ok (.getfield 54, 3) := by decide +kernel
theorem dX7_layText_36 : decode cX7_layText 36 = .ok (.astore_n 1, 1) := by decide +kernel
theorem dX7_layText_37 : decode cX7_layText 37 = .ok (.aload_n 0, 1) := by decide +kernel
theorem dX7_layText_38 : decode cX7_layText 38 = .ok (.getfield 58, 3) := by decide +kernel
theorem dX7_layText_41 : decode cX7_layText 41 = .ok (.astore_n 2, 1) := by decide +kernel
theorem dX7_layText_42 : decode cX7_layText 42 = .ok (.aload_n 0, 1) := by decide +kernel
theorem dX7_layText_43 : decode cX7_layText 43 = .ok (.aload_n 0, 1) := by decide +kernel
theorem dX7_layText_44 : decode cX7_layText 44 = .ok (.getfield 61, 3) := by decide +kernel
theorem dX7_layText_47 : decode cX7_layText 47 = .ok (.putfield 54, 3) := by decide +kernel
theorem dX7_layText_50 : decode cX7_layText 50 = .ok (.aload_n 0, 1) := by decide +kernel
theorem dX7_layText_51 : decode cX7_layText 51 = .ok (.aload_n 0, 1) := by decide +kernel
theorem dX7_layText_52 : decode cX7_layText 52 = .ok (.getfield 64, 3) := by decide +kernel
theorem dX7_layText_55 : decode cX7_layText 55 = .ok (.putfield 58, 3) := by decide +kernel
theorem dX7_layText_58 : decode cX7_layText 58 = .ok (.aload_n 0, 1) := by decide +kernel
theorem dX7_layText_59 : decode cX7_layText 59 = .ok (.aload_n 1, 1) := by decide +kernel
theorem dX7_layText_60 : decode cX7_layText 60 = .ok (.putfield 61, 3) := by decide +kernel
theorem dX7_layText_63 : decode cX7_layText 63 = .ok (.aload_n 0, 1) := by decide +kernel
theorem dX7_layText_64 : decode cX7_layText 64 = .ok (.aload_n 2, 1) := by decide +kernel
theorem dX7_layText_65 : decode cX7_layText 65 = .ok (.putfield 64, 3) := by decide +kernel
theorem dX7_layText_68 : decode cX7_layText 68 = .ok (.aload_n 0, 1) := by decide +kernel
theorem dX7_layText_69 : decode cX7_layText 69 = .ok (.getfield 54, 3) := by decide +kernel
theorem dX7_layText_72 : decode cX7_layText 72 = .ok (.invokevirtual 100, 3) := by decide +kernel
theorem dX7_layText_75 : decode cX7_layText 75 = .ok (.aload_n 0, 1) := by decide +kernel
theorem dX7_layText_76 : decode cX7_layText 76 = .ok (.getfield 19, 3) := by decide +kernel
theorem dX7_layText_79 : decode cX7_layText 79 = .ok (.iconst 0, 1) := by decide +kernel
theorem dX7_layText_80 : decode cX7_layText 80 = .ok (.putfield 103, 3) := by decide +kernel
theorem dX7_layText_83 : decode cX7_layText 83 = .ok (.aload_n 0, 1) := by decide +kernel
theorem dX7_layText_84 : decode cX7_layText 84 = .ok (.getfield 26, 3) := by decide +kernel
theorem dX7_layText_87 : decode cX7_layText 87 = .ok (.aload_n 0, 1) := by decide +kernel
theorem dX7_layText_88 : decode cX7_layText 88 = .ok (.getfield 54, 3) := by decide +kernel
theorem dX7_layText_91 : decode cX7_layText 91 = .ok (.aload_n 0, 1) := by decide +kernel
theorem dX7_layText_92 : decode cX7_layText 92 = .ok (.getfield 58, 3) := by decide +kernel
theorem dX7_layText_95 : decode cX7_layText 95 = .ok (.invokevirtual 106, 3) := by decide +kernel
theorem dX7_layText_98 : decode cX7_layText 98 = .ok (.iconst 1, 1) := by decide +kernel
theorem dX7_layText_99 : decode cX7_layText 99 = .ok (.ireturn, 1) := by decide +kernel
set_option maxRecDepth 20000 in
theorem ggX7_set_X7_isCell : GoodIn wsX7_set wsX7_isCell := goodIn_r _ [11, 6, 12, 60, 61, 62, 63, 64, 65, 66, 67, 68, 69, 80, 81, 82, 83, 84, 85, 86, 87, 88, 89, 90, 91] (by decide +kernel) (by decide +kernel)
set_option maxRecDepth 20000 in
theorem gX7_set_X7_isCell : GoodIn wsX7_set (wsV RX7 110 RX7 yX7_isCell wsX7_isCell) := goodIn_app (goodIn_of _ (by decide +kernel)) ggX7_set_X7_isCell
set_option maxRecDepth 20000 in
theorem ggX7_set_X2_keep : GoodIn wsX7_set wsX2_keep := goodIn_r _ [17, 18, 19, 20, 21, 22, 23, 24, 25, 26, 27, 28, 29, 30, 31, 32, 33, 34, 35, 36, 37, 38, 39, 40, 41, 42, 43, 92, 93, 94, 70, 71, 72, 73, 74, 75, 76, 77, 78, 79] (by decide +kernel) (by decide +kernel)
set_option maxRecDepth 20000 in
theorem gX7_set_X2_keep : GoodIn wsX7_set (wsV RX7 120 RX2 yX2_keep wsX2_keep) := goodIn_app (goodIn_of _ (by decide +kernel)) ggX7_set_X2_keep
set_option maxRecDepth 20000 in
theorem ggX7_set_X0_reckon : GoodIn wsX7_set wsX0_reckon := goodIn_r _ [48, 49, 50, 51, 52, 53, 54, 55, 95, 96, 97, 98, 99, 100, 80, 81, 82, 83, 84, 85, 86, 87, 88, 89, 90, 91, 70, 71, 72, 73, 74, 75, 76, 77, 78, 79] (by decide +kernel) (by decide +kernel)
set_option maxRecDepth 20000 in
theorem gX7_set_X0_reckon : GoodIn wsX7_set (wsV RX7 106 RX0 yX0_reckon wsX0_reckon) := goodIn_app (goodIn_of _ (by decide +kernel)) ggX7_set_X0_reckon
set_option maxRecDepth 20000 in
theorem ggX7_set_X4_register : GoodIn wsX7_set wsX4_register := goodIn_r _ [59, 38, 39, 40, 41, 70, 71, 72, 73, 74, 75, 76, 77, 78, 79] (by decide +kernel) (by decide +kernel)
set_option maxRecDepth 20000 in
theorem gX7_set_X4_register : GoodIn wsX7_set (wsV RX7 124 RX4 yX4_register wsX4_register) := goodIn_app (goodIn_of _ (by decide +kernel)) ggX7_set_X4_register
theorem dX7_set_0 : decode cX7_set 0 = .ok (.aload_n 0, 1) := by decide +kernel
theorem dX7_set_1 : decode cX7_set 1 = .ok (.iload_n 1, 1) := by decide +kernel
theorem dX7_set_2 : decode cX7_set 2 = .ok (.invokevirtual 110, 3) := by decide +kernel
theorem dX7_set_5 : decode cX7_set 5 = .ok (.ifCond .eq 30, 3) := by decide +kernel
theorem dX7_set_8 : decode cX7_set 8 = .ok (.iload_n 2, 1) := by decide +kernel
theorem dX7_set_9 : decode cX7_set 9 = .ok (.ifCond .lt 26, 3) := by decide +kernel
theorem dX7_set_12 : decode cX7_set 12 = .ok (.iload_n 2, 1) := by decide +kernel
theorem dX7_set_13 : decode cX7_set 13 = .ok (.iconst 1, 1) := by decide +kernel
theorem dX7_set_14 : decode cX7_set 14 = .ok (.if_icmp .gt 21, 3) := by decide +kernel
theorem dX7_set_17 : decode cX7_set 17 = .ok (.iload_n 3, 1) := by decide +kernel
theorem dX7_set_18 : decode cX7_set 18 = .ok (.ifCond .lt 17, 3) := by decide +kernel
theorem dX7_set_21 : decode cX7_set 21 = .ok (.iload_n 3, 1) := by decide +kernel
theorem dX7_set_22 : decode cX7_set 22 = .ok (.iload_n 2, 1) := by decide +kernel
theorem dX7_set_23 : decode cX7_set 23 = .ok (.ifCond .ne 8, 3) := by decide +kernel
theorem dX7_set_26 : decode cX7_set 26 = .ok (.bipush 9, 2) := by decide +kernel
theorem dX7_set_28 : decode cX7_set 28 = .ok (.goto 4, 3) := by decide +kernel
theorem dX7_set_31 : decode cX7_set 31 = .ok (.iconst 5, 1) := by decide +kernel
theorem dX7_set_32 : decode cX7_set 32 = .ok (.if_icmp .le 5, 3) := by decide +kernel
theorem dX7_set_35 : decode cX7_set 35 = .ok (.iconst (-1), 1) := by decide +kernel
theorem dX7_set_36 : decode cX7_set 36 = .ok (.ireturn, 1) := by decide +kernel
theorem dX7_set_37 : decode cX7_set 37 = .ok (.iload_n 2, 1) := by decide +kernel
theorem dX7_set_38 : decode cX7_set 38 = .ok (.ifCond .ne 15, 3) := by decide +kernel
theorem dX7_set_41 : decode cX7_set 41 = .ok (.aload_n 0, 1) := by decide +kernel
theorem dX7_set_42 : decode cX7_set 42 = .ok (.getfield 58, 3) := by decide +kernel
theorem dX7_set_45 : decode cX7_set 45 = .ok (.getfield 113, 3) := by decide +kernel
theorem dX7_set_48 : decode cX7_set 48 = .ok (.iload_n 1, 1) := by decide +kernel
theorem dX7_set_49 : decode cX7_set 49 = .ok (.iaload, 1) := by decide +kernel
theorem dX7_set_50 : decode cX7_set 50 = .ok (.goto 12, 3) := by decide +kernel
theorem dX7_set_53 : decode cX7_set 53 = .ok (.aload_n 0, 1) := by decide +kernel
theorem dX7_set_54 : decode cX7_set 54 = .ok (.getfield 58, 3) := by decide +kernel
theorem dX7_set_57 : decode cX7_set 57 = .ok (.getfield 117, 3) := by decide +kernel
theorem dX7_set_60 : decode cX7_set 60 = .ok (.iload_n 1, 1) := by decide +kernel
theorem dX7_set_61 : decode cX7_set 61 = .ok (.iaload, 1) := by decide +kernel
theorem dX7_set_62 : decode cX7_set 62 = .ok (.istore 4, 2) := by decide +kernel
theorem dX7_set_64 : decode cX7_set 64 = .ok (.iload 4, 2) := by decide +kernel
theorem dX7_set_66 : decode cX7_set 66 = .ok (.iload_n 3, 1) := by decide +kernel
theorem dX7_set_67 : decode cX7_set 67 = .ok (.if_icmp .ne 6, 3) := by decide +kernel
theorem dX7_set_70 : decode cX7_set 70 = .ok (.bipush (-2), 2) := by decide +kernel
theorem dX7_set_72 : decode cX7_set 72 = .ok (.ireturn, 1) := by decide +kernel
theorem dX7_set_73 : decode cX7_set 73 = .ok (.aload_n 0, 1) := by decide +kernel
theorem dX7_set_74 : decode cX7_set 74 = .ok (.getfield 19, 3) := by decide +kernel
theorem dX7_set_77 : decode cX7_set 77 = .ok (.aload_n 0, 1) := by decide +kernel
theorem dX7_set_78 : decode cX7_set 78 = .ok (.getfield 58, 3) := by decide +kernel
theorem dX7_set_81 : decode cX7_set 81 = .ok (.invokevirtual 120, 3) := by decide +kernel
theorem dX7_set_84 : decode cX7_set 84 = .ok (.iload_n 2, 1) := by decide +kernel
theorem dX7_set_85 : decode cX7_set 85 = .ok (.ifCond .ne 31, 3) := by decide +kernel
theorem dX7_set_88 : decode cX7_set 88 = .ok (.aload_n 0, 1) := by decide +kernel
theorem dX7_set_89 : decode cX7_set 89 = .ok (.getfield 58, 3) := by decide +kernel
theorem dX7_set_92 : decode cX7_set 92 = .ok (.getfield 113, 3) := by decide +kernel
theorem dX7_set_95 : decode cX7_set 95 = .ok (.iload_n 1, 1) := by decide +kernel
theorem dX7_set_96 : decode cX7_set 96 = .ok (.iload_n 3, 1) := by decide +kernel
theorem dX7_set_97 : decode cX7_set 97 = .ok (.iastore, 1) := by decide +kernel
theorem dX7_set_98 : decode cX7_set 98 = .ok (.aload_n 0, 1) := by decide +kernel
theorem dX7_set_99 : decode cX7_set 99 = .ok (.getfield 26, 3) := by decide +kernel
theorem dX7_set_102 : decode cX7_set 102 = .ok (.aload_n 0, 1) := by decide +kernel
theorem dX7_set_103 : decode cX7_set 103 = .ok (.getfield 54, 3) := by decide +kernel
theorem dX7_set_106 : decode cX7_set 106 = .ok (.aload_n 0, 1) := by decide +kernel
theorem dX7_set_107 : decode cX7_set 107 = .ok (.getfield 58, 3) := by decide +kernel
theorem dX7_set_110 : decode cX7_set 110 = .ok (.invokevirtual 106, 3) := by decide +kernel
theorem dX7_set_113 : decode cX7_set 113 = .ok (.goto 13, 3) := by decide +kernel
theorem dX7_set_116 : decode cX7_set 116 = .ok (.aload_n 0, 1) := by decide +kernel
theorem dX7_set_117 : decode cX7_set 117 = .ok (.getfield 58, 3) := by decide +kernel
theorem dX7_set_120 : decode cX7_set 120 = .ok (.getfield 117, 3) := by decide +kernel
theorem dX7_set_123 : decode cX7_set 123 = .ok (.iload_n 1, 1) := by decide +kernel
theorem dX7_set_124 : decode cX7_set 124 = .ok (.iload_n 3, 1) := by decide +kernel
theorem dX7_set_125 : decode cX7_set 125 = .ok (.iastore, 1) := by decide +kernel
theorem dX7_set_126 : decode cX7_set 126 = .ok (.aload_n 0, 1) := by decide +kernel
theorem dX7_set_127 : decode cX7_set 127 = .ok (.getfield 58, 3) := by decide +kernel
theorem dX7_set_130 : decode cX7_set 130 = .ok (.invokevirtual 124, 3) := by decide +kernel
theorem dX7_set_133 : decode cX7_set 133 = .ok (.iload 4, 2) := by decide +kernel
theorem dX7_set_135 : decode cX7_set 135 = .ok (.ireturn, 1) := by decide +kernel
set_option maxRecDepth 20000 in
theorem ggX7_law_X7_isLaw : GoodIn wsX7_law wsX7_isLaw := goodIn_r _ [8] (by decide +kernel) (by decide +kernel)
set_option maxRecDepth 20000 in
theorem gX7_law_X7_isLaw : GoodIn wsX7_law (va_wsS RX7 127 yX7_isLaw wsX7_isLaw) := goodIn_app (goodIn_of _ (by decide +kernel)) ggX7_law_X7_isLaw
set_option maxRecDepth 20000 in
theorem ggX7_law_X2_keep : GoodIn wsX7_law wsX2_keep := goodIn_r _ [13, 14, 15, 16, 17, 18, 19, 20, 21, 22, 23, 24, 25, 26, 27, 28, 29, 30, 31, 32, 33, 34, 35, 36, 37, 38, 39, 64, 65, 66, 54, 55, 56, 57, 58, 59, 60, 61, 62, 63] (by decide +kernel) (by decide +kernel)
set_option maxRecDepth 20000 in
theorem gX7_law_X2_keep : GoodIn wsX7_law (wsV RX7 120 RX2 yX2_keep wsX2_keep) := goodIn_app (goodIn_of _ (by decide +kernel)) ggX7_law_X2_keep
set_option maxRecDepth 20000 in
theorem ggX7_law_X4_register : GoodIn wsX7_law wsX4_register := goodIn_r _ [43, 34, 35, 36, 37, 54, 55, 56, 57, 58, 59, 60, 61, 62, 63] (by decide +kernel) (by decide +kernel)
set_option maxRecDepth 20000 in
theorem gX7_law_X4_register : GoodIn wsX7_law (wsV RX7 124 RX4 yX4_register wsX4_register) := goodIn_app (goodIn_of _ (by decide +kernel)) ggX7_law_X4_register
theorem dX7_law_0 : decode cX7_law 0 = .ok (.iload_n 1, 1) := by decide +kernel
theorem dX7_law_1 : decode cX7_law 1 = .ok (.iload_n 2, 1) := by decide +kernel
theorem dX7_law_2 : decode cX7_law 2 = .ok (.invokestatic 127, 3) := by decide +kernel
theorem dX7_law_5 : decode cX7_law 5 = .ok (.ifCond .ne 5, 3) := by decide +kernel
theorem dX7_law_8 : decode cX7_law 8 = .ok (.iconst (-1), 1) := by decide +kernel
theorem dX7_law_9 : decode cX7_law 9 = .ok (.ireturn, 1) := by decide +kernel
theorem dX7_law_10 : decode cX7_law 10 = .ok (.aload_n 0, 1) := by decide +kernel
theorem dX7_law_11 : decode cX7_law 11 = .ok (.getfield 58, 3) := by decide +kernel
theorem dX7_law_14 : decode cX7_law 14 = .ok (.getfield 131, 3) := by decide +kernel
theorem dX7_law_17 : decode cX7_law 17 = .ok (.iload_n 1, 1) := by decide +kernel
theorem dX7_law_18 : decode cX7_law 18 = .ok (.if_icmp .ne 17, 3) := by decide +kernel
theorem dX7_law_21 : decode cX7_law 21 = .ok (.aload_n 0, 1) := by decide +kernel
theorem dX7_law_22 : decode cX7_law 22 = .ok (.getfield 58, 3) := by decide +kernel
theorem dX7_law_25 : decode cX7_law 25 = .ok (.getfield 134, 3) := by decide +kernel
theorem dX7_law_28 : decode cX7_law 28 = .ok (.iload_n 2, 1) := by decide +kernel
theorem dX7_law_29 : decode cX7_law 29 = .ok (.if_icmp .ne 6, 3) := by decide +kernel
theorem dX7_law_32 : decode cX7_law 32 = .ok (.bipush (-2), 2) := by decide +kernel
theorem dX7_law_34 : decode cX7_law 34 = .ok (.ireturn, 1) := by decide +kernel
theorem dX7_law_35 : decode cX7_law 35 = .ok (.bipush 10, 2) := by decide +kernel
theorem dX7_law_37 : decode cX7_law 37 = .ok (.aload_n 0, 1) := by decide +kernel
theorem dX7_law_38 : decode cX7_law 38 = .ok (.getfield 58, 3) := by decide +kernel
theorem dX7_law_41 : decode cX7_law 41 = .ok (.getfield 131, 3) := by decide +kernel
theorem dX7_law_44 : decode cX7_law 44 = .ok (.imul, 1) := by decide +kernel
theorem dX7_law_45 : decode cX7_law 45 = .ok (.aload_n 0, 1) := by decide +kernel
theorem dX7_law_46 : decode cX7_law 46 = .ok (.getfield 58, 3) := by decide +kernel
theorem dX7_law_49 : decode cX7_law 49 = .ok (.getfield 134, 3) := by decide +kernel
theorem dX7_law_52 : decode cX7_law 52 = .ok (.iadd, 1) := by decide +kernel
theorem dX7_law_53 : decode cX7_law 53 = .ok (.istore_n 3, 1) := by decide +kernel
theorem dX7_law_54 : decode cX7_law 54 = .ok (.aload_n 0, 1) := by decide +kernel
theorem dX7_law_55 : decode cX7_law 55 = .ok (.getfield 19, 3) := by decide +kernel
theorem dX7_law_58 : decode cX7_law 58 = .ok (.aload_n 0, 1) := by decide +kernel
theorem dX7_law_59 : decode cX7_law 59 = .ok (.getfield 58, 3) := by decide +kernel
theorem dX7_law_62 : decode cX7_law 62 = .ok (.invokevirtual 120, 3) := by decide +kernel
theorem dX7_law_65 : decode cX7_law 65 = .ok (.aload_n 0, 1) := by decide +kernel
theorem dX7_law_66 : decode cX7_law 66 = .ok (.getfield 58, 3) := by decide +kernel
theorem dX7_law_69 : decode cX7_law 69 = .ok (.iload_n 1, 1) := by decide +kernel
theorem dX7_law_70 : decode cX7_law 70 = .ok (.putfield 131, 3) := by decide +kernel
theorem dX7_law_73 : decode cX7_law 73 = .ok (.aload_n 0, 1) := by decide +kernel
theorem dX7_law_74 : decode cX7_law 74 = .ok (.getfield 58, 3) := by decide +kernel
theorem dX7_law_77 : decode cX7_law 77 = .ok (.iload_n 2, 1) := by decide +kernel
theorem dX7_law_78 : decode cX7_law 78 = .ok (.putfield 134, 3) := by decide +kernel
theorem dX7_law_81 : decode cX7_law 81 = .ok (.aload_n 0, 1) := by decide +kernel
theorem dX7_law_82 : decode cX7_law 82 = .ok (.getfield 58, 3) := by decide +kernel
theorem dX7_law_85 : decode cX7_law 85 = .ok (.invokevirtual 124, 3) := by decide +kernel
theorem dX7_law_88 : decode cX7_law 88 = .ok (.iload_n 3, 1) := by decide +kernel
theorem dX7_law_89 : decode cX7_law 89 = .ok (.ireturn, 1) := by decide +kernel
set_option maxRecDepth 20000 in
theorem ggX7_give_X0_findBest : GoodIn wsX7_give wsX0_findBest := goodIn_r _ [12, 13, 14, 15, 16, 17, 18, 19, 11, 20, 21, 22, 23, 24, 25, 26, 27, 28, 29, 30, 31, 32, 33, 34, 35, 36, 37, 38, 39, 40, 41, 42, 43, 44, 45, 46, 47, 48, 49, 50, 51, 52, 53, 54, 118, 119, 120, 121, 122, 123, 96, 97, 98, 99, 100, 101, 102, 103, 104, 105, 106, 107] (by decide +kernel) (by decide +kernel)
set_option maxRecDepth 20000 in
theorem gX7_give_X0_findBest : GoodIn wsX7_give (wsV RX7 137 RX0 yX0_findBest wsX0_findBest) := goodIn_app (goodIn_of _ (by decide +kernel)) ggX7_give_X0_findBest
set_option maxRecDepth 20000 in
theorem ggX7_give_X2_keep : GoodIn wsX7_give wsX2_keep := goodIn_r _ [59, 60, 61, 62, 63, 64, 53, 65, 66, 67, 68, 69, 70, 71, 72, 40, 41, 42, 73, 74, 75, 76, 77, 78, 79, 80, 81, 124, 125, 126, 108, 109, 110, 111, 112, 113, 114, 115, 116, 117] (by decide +kernel) (by decide +kernel)
set_option maxRecDepth 20000 in
theorem gX7_give_X2_keep : GoodIn wsX7_give (wsV RX7 120 RX2 yX2_keep wsX2_keep) := goodIn_app (goodIn_of _ (by decide +kernel)) ggX7_give_X2_keep
set_option maxRecDepth 20000 in
theorem ggX7_give_X4_register : GoodIn wsX7_give wsX4_register := goodIn_r _ [85, 76, 77, 78, 79, 108, 109, 110, 111, 112, 113, 114, 115, 116, 117] (by decide +kernel) (by decide +kernel)
set_option maxRecDepth 20000 in
theorem gX7_give_X4_register : GoodIn wsX7_give (wsV RX7 124 RX4 yX4_register wsX4_register) := goodIn_app (goodIn_of _ (by decide +kernel)) ggX7_give_X4_register
theorem dX7_give_0 : decode cX7_give 0 = .ok (.aload_n 0, 1) := by decide +kernel
theorem dX7_give_1 : decode cX7_give 1 = .ok (.getfield 26, 3) := by decide +kernel
theorem dX7_give_4 : decode cX7_give 4 = .ok (.aload_n 0, 1) := by decide +kernel
theorem dX7_give_5 : decode cX7_give 5 = .ok (.getfield 54, 3) := by decide +kernel
theorem dX7_give_8 : decode cX7_give 8 = .ok (.invokevirtual 137, 3) := by decide +kernel
theorem dX7_give_11 : decode cX7_give 11 = .ok (.aload_n 0, 1) := by decide +kernel
theorem dX7_give_12 : decode cX7_give 12 = .ok (.getfield 19, 3) := by decide +kernel
theorem dX7_give_15 : decode cX7_give 15 = .ok (.aload_n 0, 1) := by decide +kernel
theorem dX7_give_16 : decode cX7_give 16 = .ok (.getfield 58, 3) := by decide +kernel
theorem dX7_give_19 : decode cX7_give 19 = .ok (.invokevirtual 120, 3) := by decide +kernel
theorem dX7_give_22 : decode cX7_give 22 = .ok (.iconst 0, 1) := by decide +kernel
theorem dX7_give_23 : decode cX7_give 23 = .ok (.istore_n 1, 1) := by decide +kernel
theorem dX7_give_24 : decode cX7_give 24 = .ok (.iconst 0, 1) := by decide +kernel
theorem dX7_give_25 : decode cX7_give 25 = .ok (.istore_n 2, 1) := by decide +kernel
theorem dX7_give_26 : decode cX7_give 26 = .ok (.iload_n 2, 1) := by decide +kernel
theorem dX7_give_27 : decode cX7_give 27 = .ok (.aload_n 0, 1) := by decide +kernel
theorem dX7_give_28 : decode cX7_give 28 = .ok (.getfield 54, 3) := by decide +kernel
theorem dX7_give_31 : decode cX7_give 31 = .ok (.getfield 94, 3) := by decide +kernel
theorem dX7_give_34 : decode cX7_give 34 = .ok (.if_icmp .ge 51, 3) := by decide +kernel
theorem dX7_give_37 : decode cX7_give 37 = .ok (.aload_n 0, 1) := by decide +kernel
theorem dX7_give_38 : decode cX7_give 38 = .ok (.getfield 58, 3) := by decide +kernel
theorem dX7_give_41 : decode cX7_give 41 = .ok (.getfield 117, 3) := by decide +kernel
theorem dX7_give_44 : decode cX7_give 44 = .ok (.iload_n 2, 1) := by decide +kernel
theorem dX7_give_45 : decode cX7_give 45 = .ok (.iaload, 1) := by decide +kernel
theorem dX7_give_46 : decode cX7_give 46 = .ok (.aload_n 0, 1) := by decide +kernel
theorem dX7_give_47 : decode cX7_give 47 = .ok (.getfield 26, 3) := by decide +kernel
theorem dX7_give_50 : decode cX7_give 50 = .ok (.getfield 141, 3) := by decide +kernel
theorem dX7_give_53 : decode cX7_give 53 = .ok (.iload_n 2, 1) := by decide +kernel
theorem dX7_give_54 : decode cX7_give 54 = .ok (.iaload, 1) := by decide +kernel
theorem dX7_give_55 : decode cX7_give 55 = .ok (.if_icmp .eq 6, 3) := by decide +kernel
theorem dX7_give_58 : decode cX7_give 58 = .ok (.iinc 1 1, 3) := by decide +kernel
theorem dX7_give_61 : decode cX7_give 61 = .ok (.aload_n 0, 1) := by decide +kernel
theorem dX7_give_62 : decode cX7_give 62 = .ok (.getfield 58, 3) := by decide +kernel
theorem dX7_give_65 : decode cX7_give 65 = .ok (.getfield 117, 3) := by decide +kernel
theorem dX7_give_68 : decode cX7_give 68 = .ok (.iload_n 2, 1) := by decide +kernel
theorem dX7_give_69 : decode cX7_give 69 = .ok (.aload_n 0, 1) := by decide +kernel
theorem dX7_give_70 : decode cX7_give 70 = .ok (.getfield 26, 3) := by decide +kernel
theorem dX7_give_73 : decode cX7_give 73 = .ok (.getfield 141, 3) := by decide +kernel
theorem dX7_give_76 : decode cX7_give 76 = .ok (.iload_n 2, 1) := by decide +kernel
theorem dX7_give_77 : decode cX7_give 77 = .ok (.iaload, 1) := by decide +kernel
theorem dX7_give_78 : decode cX7_give 78 = .ok (.iastore, 1) := by decide +kernel
theorem dX7_give_79 : decode cX7_give 79 = .ok (.iinc 2 1, 3) := by decide +kernel
theorem dX7_give_82 : decode cX7_give 82 = .ok (.goto (-56), 3) := by decide +kernel
theorem dX7_give_85 : decode cX7_give 85 = .ok (.aload_n 0, 1) := by decide +kernel
theorem dX7_give_86 : decode cX7_give 86 = .ok (.getfield 58, 3) := by decide +kernel
theorem dX7_give_89 : decode cX7_give 89 = .ok (.invokevirtual 124, 3) := by decide +kernel
theorem dX7_give_92 : decode cX7_give 92 = .ok (.iload_n 1, 1) := by decide +kernel
theorem dX7_give_93 : decode cX7_give 93 = .ok (.ireturn, 1) := by decide +kernel
set_option maxRecDepth 20000 in
theorem ggX7_undo_X2_bringBack : GoodIn wsX7_undo wsX2_bringBack := goodIn_r _ [10, 11, 12, 13, 14, 15, 16, 17, 18, 19, 20, 21, 22, 23, 24, 25, 26, 27, 28, 29, 30, 31, 32, 55, 56, 57, 58, 59, 60, 61, 62, 63, 64, 65, 66, 67] (by decide +kernel) (by decide +kernel)
set_option maxRecDepth 20000 in
theorem gX7_undo_X2_bringBack : GoodIn wsX7_undo (wsV RX7 144 RX2 yX2_bringBack wsX2_bringBack) := goodIn_app (goodIn_of _ (by decide +kernel)) ggX7_undo_X2_bringBack
set_option maxRecDepth 20000 in
theorem ggX7_undo_X0_reckon : GoodIn wsX7_undo wsX0_reckon := goodIn_r _ [37, 38, 39, 40, 41, 42, 43, 44, 68, 69, 70, 71, 72, 73, 74, 75, 76, 77, 78, 79, 80, 81, 82, 83, 84, 85, 58, 59, 60, 61, 62, 63, 64, 65, 66, 67] (by decide +kernel) (by decide +kernel)
set_option maxRecDepth 20000 in
theorem gX7_undo_X0_reckon : GoodIn wsX7_undo (wsV RX7 106 RX0 yX0_reckon wsX0_reckon) := goodIn_app (goodIn_of _ (by decide +kernel)) ggX7_undo_X0_reckon
theorem dX7_undo_0 : decode cX7_undo 0 = .ok (.aload_n 0, 1) := by decide +kernel
theorem dX7_undo_1 : decode cX7_undo 1 = .ok (.getfield 19, 3) := by decide +kernel
theorem dX7_undo_4 : decode cX7_undo 4 = .ok (.aload_n 0, 1) := by decide +kernel
theorem dX7_undo_5 : decode cX7_undo 5 = .ok (.getfield 58, 3) := by decide +kernel
theorem dX7_undo_8 : decode cX7_undo 8 = .ok (.invokevirtual 144, 3) := by decide +kernel
theorem dX7_undo_11 : decode cX7_undo 11 = .ok (.ifCond .ne 6, 3) := by decide +kernel
theorem dX7_undo_14 : decode cX7_undo 14 = .ok (.bipush (-2), 2) := by decide +kernel
theorem dX7_undo_16 : decode cX7_undo 16 = .ok (.ireturn, 1) := by decide +kernel
theorem dX7_undo_17 : decode cX7_undo 17 = .ok (.aload_n 0, 1) := by decide +kernel
theorem dX7_undo_18 : decode cX7_undo 18 = .ok (.getfield 26, 3) := by decide +kernel
theorem dX7_undo_21 : decode cX7_undo 21 = .ok (.aload_n 0, 1) := by decide +kernel
theorem dX7_undo_22 : decode cX7_undo 22 = .ok (.getfield 54, 3) := by decide +kernel
theorem dX7_undo_25 : decode cX7_undo 25 = .ok (.aload_n 0, 1) := by decide +kernel
theorem dX7_undo_26 : decode cX7_undo 26 = .ok (.getfield 58, 3) := by decide +kernel
theorem dX7_undo_29 : decode cX7_undo 29 = .ok (.invokevirtual 106, 3) := by decide +kernel
theorem dX7_undo_32 : decode cX7_undo 32 = .ok (.aload_n 0, 1) := by decide +kernel
theorem dX7_undo_33 : decode cX7_undo 33 = .ok (.getfield 19, 3) := by decide +kernel
theorem dX7_undo_36 : decode cX7_undo 36 = .ok (.getfield 103, 3) := by decide +kernel
theorem dX7_undo_39 : decode cX7_undo 39 = .ok (.ireturn, 1) := by decide +kernel
set_option maxRecDepth 20000 in
theorem ggX7_cell_X7_isCell : GoodIn wsX7_cell wsX7_isCell := goodIn_r _ [12, 4, 7, 16, 17, 18, 19, 20, 21, 22, 23, 24, 25, 36, 37, 38, 39, 40, 41, 42, 43, 44, 45, 46, 47] (by decide +kernel) (by decide +kernel)
set_option maxRecDepth 20000 in
theorem gX7_cell_X7_isCell : GoodIn wsX7_cell (wsV RX7 110 RX7 yX7_isCell wsX7_isCell) := goodIn_app (goodIn_of _ (by decide +kernel)) ggX7_cell_X7_isCell
set_option maxRecDepth 20000 in
theorem ggX7_cell_X7_sameArea : GoodIn wsX7_cell wsX7_sameArea := goodIn_r _ [15] (by decide +kernel) (by decide +kernel)
set_option maxRecDepth 20000 in
theorem gX7_cell_X7_sameArea : GoodIn wsX7_cell (va_wsS RX7 154 yX7_sameArea wsX7_sameArea) := goodIn_app (goodIn_of _ (by decide +kernel)) ggX7_cell_X7_sameArea
theorem dX7_cell_0 : decode cX7_cell 0 = .ok (.aload_n 0, 1) := by decide +kernel
theorem dX7_cell_1 : decode cX7_cell 1 = .ok (.iload_n 1, 1) := by decide +kernel
theorem dX7_cell_2 : decode cX7_cell 2 = .ok (.invokevirtual 110, 3) := by decide +kernel
theorem dX7_cell_5 : decode cX7_cell 5 = .ok (.ifCond .ne 5, 3) := by decide +kernel
theorem dX7_cell_8 : decode cX7_cell 8 = .ok (.iconst (-1), 1) := by decide +kernel
theorem dX7_cell_9 : decode cX7_cell 9 = .ok (.ireturn, 1) := by decide +kernel
theorem dX7_cell_10 : decode cX7_cell 10 = .ok (.iload_n 2, 1) := by decide +kernel
theorem dX7_cell_11 : decode cX7_cell 11 = .ok (.tableswitch 102 0 4 #[33, 43, 53, 73, 83], 33) := by decide +kernel
theorem dX7_cell_44 : decode cX7_cell 44 = .ok (.aload_n 0, 1) := by decide +kernel
theorem dX7_cell_45 : decode cX7_cell 45 = .ok (.getfield 58, 3) := by decide +kernel
theorem dX7_cell_48 : decode cX7_cell 48 = .ok (.getfield 113, 3) := by decide +kernel
theorem dX7_cell_51 : decode cX7_cell 51 = .ok (.iload_n 1, 1) := by decide +kernel
theorem dX7_cell_52 : decode cX7_cell 52 = .ok (.iaload, 1) := by decide +kernel
theorem dX7_cell_53 : decode cX7_cell 53 = .ok (.ireturn, 1) := by decide +kernel
theorem dX7_cell_54 : decode cX7_cell 54 = .ok (.aload_n 0, 1) := by decide +kernel
theorem dX7_cell_55 : decode cX7_cell 55 = .ok (.getfield 58, 3) := by decide +kernel
theorem dX7_cell_58 : decode cX7_cell 58 = .ok (.getfield 117, 3) := by decide +kernel
theorem dX7_cell_61 : decode cX7_cell 61 = .ok (.iload_n 1, 1) := by decide +kernel
theorem dX7_cell_62 : decode cX7_cell 62 = .ok (.iaload, 1) := by decide +kernel
theorem dX7_cell_63 : decode cX7_cell 63 = .ok (.ireturn, 1) := by decide +kernel
theorem dX7_cell_64 : decode cX7_cell 64 = .ok (.aload_n 0, 1) := by decide +kernel
theorem dX7_cell_65 : decode cX7_cell 65 = .ok (.getfield 58, 3) := by decide +kernel
theorem dX7_cell_68 : decode cX7_cell 68 = .ok (.getfield 113, 3) := by decide +kernel
theorem dX7_cell_71 : decode cX7_cell 71 = .ok (.iload_n 1, 1) := by decide +kernel
theorem dX7_cell_72 : decode cX7_cell 72 = .ok (.iaload, 1) := by decide +kernel
theorem dX7_cell_73 : decode cX7_cell 73 = .ok (.aload_n 0, 1) := by decide +kernel
theorem dX7_cell_74 : decode cX7_cell 74 = .ok (.getfield 54, 3) := by decide +kernel
theorem dX7_cell_77 : decode cX7_cell 77 = .ok (.getfield 148, 3) := by decide +kernel
theorem dX7_cell_80 : decode cX7_cell 80 = .ok (.iload_n 1, 1) := by decide +kernel
theorem dX7_cell_81 : decode cX7_cell 81 = .ok (.iaload, 1) := by decide +kernel
theorem dX7_cell_82 : decode cX7_cell 82 = .ok (.iadd, 1) := by decide +kernel
theorem dX7_cell_83 : decode cX7_cell 83 = .ok (.ireturn, 1) := by decide +kernel
theorem dX7_cell_84 : decode cX7_cell 84 = .ok (.aload_n 0, 1) := by decide +kernel
theorem dX7_cell_85 : decode cX7_cell 85 = .ok (.getfield 54, 3) := by decide +kernel
theorem dX7_cell_88 : decode cX7_cell 88 = .ok (.getfield 151, 3) := by decide +kernel
theorem dX7_cell_91 : decode cX7_cell 91 = .ok (.iload_n 1, 1) := by decide +kernel
theorem dX7_cell_92 : decode cX7_cell 92 = .ok (.iaload, 1) := by decide +kernel
theorem dX7_cell_93 : decode cX7_cell 93 = .ok (.ireturn, 1) := by decide +kernel
theorem dX7_cell_94 : decode cX7_cell 94 = .ok (.aload_n 0, 1) := by decide +kernel
theorem dX7_cell_95 : decode cX7_cell 95 = .ok (.getfield 54, 3) := by decide +kernel
theorem dX7_cell_98 : decode cX7_cell 98 = .ok (.getfield 94, 3) := by decide +kernel
theorem dX7_cell_101 : decode cX7_cell 101 = .ok (.aload_n 0, 1) := by decide +kernel
theorem dX7_cell_102 : decode cX7_cell 102 = .ok (.getfield 58, 3) := by decide +kernel
theorem dX7_cell_105 : decode cX7_cell 105 = .ok (.getfield 117, 3) := by decide +kernel
theorem dX7_cell_108 : decode cX7_cell 108 = .ok (.iload_n 1, 1) := by decide +kernel
theorem dX7_cell_109 : decode cX7_cell 109 = .ok (.invokestatic 154, 3) := by decide +kernel
theorem dX7_cell_112 : decode cX7_cell 112 = .ok (.ireturn, 1) := by decide +kernel
theorem dX7_cell_113 : decode cX7_cell 113 = .ok (.iconst (-1), 1) := by decide +kernel
theorem dX7_cell_114 : decode cX7_cell 114 = .ok (.ireturn, 1) := by decide +kernel
set_option maxRecDepth 20000 in
theorem ggX7_weight_X7_isCell : GoodIn wsX7_weight wsX7_isCell := goodIn_r _ [7, 1, 8, 9, 10, 11, 12, 13, 14, 15, 16, 17, 18, 19, 20, 21, 22, 23, 24, 25, 26, 27, 28, 29, 30] (by decide +kernel) (by decide +kernel)
set_option maxRecDepth 20000 in
theorem gX7_weight_X7_isCell : GoodIn wsX7_weight (wsV RX7 110 RX7 yX7_isCell wsX7_isCell) := goodIn_app (goodIn_of _ (by decide +kernel)) ggX7_weight_X7_isCell
theorem dX7_weight_0 : decode cX7_weight 0 = .ok (.aload_n 0, 1) := by decide +kernel
theorem dX7_weight_1 : decode cX7_weight 1 = .ok (.iload_n 1, 1) := by decide +kernel
theorem dX7_weight_2 : decode cX7_weight 2 = .ok (.invokevirtual 110, 3) := by decide +kernel
theorem dX7_weight_5 : decode cX7_weight 5 = .ok (.ifCond .eq 16, 3) := by decide +kernel
theorem dX7_weight_8 : decode cX7_weight 8 = .ok (.aload_n 0, 1) := by decide +kernel
theorem dX7_weight_9 : decode cX7_weight 9 = .ok (.iload_n 2, 1) := by decide +kernel
theorem dX7_weight_10 : decode cX7_weight 10 = .ok (.invokevirtual 110, 3) := by decide +kernel
theorem dX7_weight_13 : decode cX7_weight 13 = .ok (.ifCond .eq 8, 3) := by decide +kernel
theorem dX7_weight_16 : decode cX7_weight 16 = .ok (.iload_n 1, 1) := by decide +kernel
theorem dX7_weight_17 : decode cX7_weight 17 = .ok (.iload_n 2, 1) := by decide +kernel
theorem dX7_weight_18 : decode cX7_weight 18 = .ok (.if_icmp .ne 5, 3) := by decide +kernel
theorem dX7_weight_21 : decode cX7_weight 21 = .ok (.iconst (-1), 1) := by decide +kernel
theorem dX7_weight_22 : decode cX7_weight 22 = .ok (.ireturn, 1) := by decide +kernel
theorem dX7_weight_23 : decode cX7_weight 23 = .ok (.aload_n 0, 1) := by decide +kernel
theorem dX7_weight_24 : decode cX7_weight 24 = .ok (.getfield 54, 3) := by decide +kernel
theorem dX7_weight_27 : decode cX7_weight 27 = .ok (.getfield 158, 3) := by decide +kernel
theorem dX7_weight_30 : decode cX7_weight 30 = .ok (.iload_n 1, 1) := by decide +kernel
theorem dX7_weight_31 : decode cX7_weight 31 = .ok (.aaload, 1) := by decide +kernel
theorem dX7_weight_32 : decode cX7_weight 32 = .ok (.iload_n 2, 1) := by decide +kernel
theorem dX7_weight_33 : decode cX7_weight 33 = .ok (.iaload, 1) := by decide +kernel
theorem dX7_weight_34 : decode cX7_weight 34 = .ok (.ireturn, 1) := by decide +kernel
set_option maxRecDepth 20000 in
theorem ggX7_wide_X7_isCell : GoodIn wsX7_wide wsX7_isCell := goodIn_r _ [7, 1, 8, 9, 10, 11, 12, 13, 14, 15, 16, 17, 18, 19, 20, 21, 22, 23, 24, 25, 26, 27, 28, 29, 30] (by decide +kernel) (by decide +kernel)
set_option maxRecDepth 20000 in
theorem gX7_wide_X7_isCell : GoodIn wsX7_wide (wsV RX7 110 RX7 yX7_isCell wsX7_isCell) := goodIn_app (goodIn_of _ (by decide +kernel)) ggX7_wide_X7_isCell
theorem dX7_wide_0 : decode cX7_wide 0 = .ok (.aload_n 0, 1) := by decide +kernel
theorem dX7_wide_1 : decode cX7_wide 1 = .ok (.iload_n 1, 1) := by decide +kernel
theorem dX7_wide_2 : decode cX7_wide 2 = .ok (.invokevirtual 110, 3) := by decide +kernel
theorem dX7_wide_5 : decode cX7_wide 5 = .ok (.ifCond .eq 11, 3) := by decide +kernel
theorem dX7_wide_8 : decode cX7_wide 8 = .ok (.aload_n 0, 1) := by decide +kernel
theorem dX7_wide_9 : decode cX7_wide 9 = .ok (.iload_n 2, 1) := by decide +kernel
theorem dX7_wide_10 : decode cX7_wide 10 = .ok (.invokevirtual 110, 3) := by decide +kernel
theorem dX7_wide_13 : decode cX7_wide 13 = .ok (.ifCond .ne 5, 3) := by decide +kernel
theorem dX7_wide_16 : decode cX7_wide 16 = .ok (.iconst (-1), 1) := by decide +kernel
theorem dX7_wide_17 : decode cX7_wide 17 = .ok (.ireturn, 1) := by decide +kernel
theorem dX7_wide_18 : decode cX7_wide 18 = .ok (.aload_n 0, 1) := by decide +kernel
theorem dX7_wide_19 : decode cX7_wide 19 = .ok (.getfield 54, 3) := by decide +kernel
theorem dX7_wide_22 : decode cX7_wide 22 = .ok (.getfield 162, 3) := by decide +kernel
theorem dX7_wide_25 : decode cX7_wide 25 = .ok (.iload_n 1, 1) := by decide +kernel
theorem dX7_wide_26 : decode cX7_wide 26 = .ok (.aaload, 1) := by decide +kernel
theorem dX7_wide_27 : decode cX7_wide 27 = .ok (.iload_n 2, 1) := by decide +kernel
theorem dX7_wide_28 : decode cX7_wide 28 = .ok (.iaload, 1) := by decide +kernel
theorem dX7_wide_29 : decode cX7_wide 29 = .ok (.ireturn, 1) := by decide +kernel
set_option maxRecDepth 20000 in
theorem ggX7_tick_X7_isCell : GoodIn wsX7_tick wsX7_isCell := goodIn_r _ [8, 2, 9, 65, 66, 67, 68, 69, 70, 71, 72, 73, 74, 75, 76, 77, 78, 79, 80, 81, 82, 83, 84, 85, 86] (by decide +kernel) (by decide +kernel)
set_option maxRecDepth 20000 in
theorem gX7_tick_X7_isCell : GoodIn wsX7_tick (wsV RX7 110 RX7 yX7_isCell wsX7_isCell) := goodIn_app (goodIn_of _ (by decide +kernel)) ggX7_tick_X7_isCell
set_option maxRecDepth 20000 in
theorem ggX7_tick_X4_canGo : GoodIn wsX7_tick wsX4_canGo := goodIn_r _ [14, 15, 16, 17, 18, 7, 19, 87, 88, 89, 90, 91, 92, 93, 94, 95, 96, 75, 76, 77, 78, 79, 80, 81, 82, 83, 84, 85, 86] (by decide +kernel) (by decide +kernel)
set_option maxRecDepth 20000 in
theorem gX7_tick_X4_canGo : GoodIn wsX7_tick (wsV RX7 165 RX4 yX4_canGo wsX4_canGo) := goodIn_app (goodIn_of _ (by decide +kernel)) ggX7_tick_X4_canGo
set_option maxRecDepth 20000 in
theorem ggX7_tick_X2_keep : GoodIn wsX7_tick wsX2_keep := goodIn_r _ [24, 25, 26, 27, 28, 29, 30, 31, 32, 33, 34, 13, 35, 16, 36, 37, 38, 39, 40, 41, 42, 15, 43, 44, 45, 46, 47, 97, 98, 99, 87, 88, 89, 90, 91, 92, 93, 94, 95, 96] (by decide +kernel) (by decide +kernel)
set_option maxRecDepth 20000 in
theorem gX7_tick_X2_keep : GoodIn wsX7_tick (wsV RX7 120 RX2 yX2_keep wsX2_keep) := goodIn_app (goodIn_of _ (by decide +kernel)) ggX7_tick_X2_keep
set_option maxRecDepth 20000 in
theorem ggX7_tick_X4_go : GoodIn wsX7_tick wsX4_go := goodIn_r _ [51, 15, 44, 45, 46, 52, 53, 54, 13, 55, 41, 42, 56, 57, 58, 59, 40, 43, 60, 61, 62, 63, 64, 87, 88, 89, 90, 91, 92, 93, 94, 95, 96, 75, 76, 77, 78, 79, 80, 81, 82, 83, 84, 85, 86] (by decide +kernel) (by decide +kernel)
set_option maxRecDepth 20000 in
theorem gX7_tick_X4_go : GoodIn wsX7_tick (wsV RX7 169 RX4 yX4_go wsX4_go) := goodIn_app (goodIn_of _ (by decide +kernel)) ggX7_tick_X4_go
theorem dX7_tick_0 : decode cX7_tick 0 = .ok (.aload_n 0, 1) := by decide +kernel
theorem dX7_tick_1 : decode cX7_tick 1 = .ok (.iload_n 1, 1) := by decide +kernel
theorem dX7_tick_2 : decode cX7_tick 2 = .ok (.invokevirtual 110, 3) := by decide +kernel
theorem dX7_tick_5 : decode cX7_tick 5 = .ok (.ifCond .ne 5, 3) := by decide +kernel
theorem dX7_tick_8 : decode cX7_tick 8 = .ok (.iconst (-1), 1) := by decide +kernel
theorem dX7_tick_9 : decode cX7_tick 9 = .ok (.ireturn, 1) := by decide +kernel
theorem dX7_tick_10 : decode cX7_tick 10 = .ok (.aload_n 0, 1) := by decide +kernel
theorem dX7_tick_11 : decode cX7_tick 11 = .ok (.getfield 58, 3) := by decide +kernel
theorem dX7_tick_14 : decode cX7_tick 14 = .ok (.aload_n 0, 1) := by decide +kernel
theorem dX7_tick_15 : decode cX7_tick 15 = .ok (.getfield 54, 3) := by decide +kernel
theorem dX7_tick_18 : decode cX7_tick 18 = .ok (.iload_n 1, 1) := by decide +kernel
theorem dX7_tick_19 : decode cX7_tick 19 = .ok (.invokevirtual 165, 3) := by decide +kernel
theorem dX7_tick_22 : decode cX7_tick 22 = .ok (.ifCond .ne 6, 3) := by decide +kernel
theorem dX7_tick_25 : decode cX7_tick 25 = .ok (.bipush (-2), 2) := by decide +kernel
theorem dX7_tick_27 : decode cX7_tick 27 = .ok (.ireturn, 1) := by decide +kernel
theorem dX7_tick_28 : decode cX7_tick 28 = .ok (.aload_n 0, 1) := by decide +kernel
theorem dX7_tick_29 : decode cX7_tick 29 = .ok (.getfield 19, 3) := by decide +kernel
theorem dX7_tick_32 : decode cX7_tick 32 = .ok (.aload_n 0, 1) := by decide +kernel
theorem dX7_tick_33 : decode cX7_tick 33 = .ok (.getfield 58, 3) := by decide +kernel
theorem dX7_tick_36 : decode cX7_tick 36 = .ok (.invokevirtual 120, 3) := by decide +kernel
theorem dX7_tick_39 : decode cX7_tick 39 = .ok (.aload_n 0, 1) := by decide +kernel
theorem dX7_tick_40 : decode cX7_tick 40 = .ok (.getfield 58, 3) := by decide +kernel
theorem dX7_tick_43 : decode cX7_tick 43 = .ok (.aload_n 0, 1) := by decide +kernel
theorem dX7_tick_44 : decode cX7_tick 44 = .ok (.getfield 54, 3) := by decide +kernel
theorem dX7_tick_47 : decode cX7_tick 47 = .ok (.iload_n 1, 1) := by decide +kernel
theorem dX7_tick_48 : decode cX7_tick 48 = .ok (.invokevirtual 169, 3) := by decide +kernel
theorem dX7_tick_51 : decode cX7_tick 51 = .ok (.ifCond .eq 7, 3) := by decide +kernel
theorem dX7_tick_54 : decode cX7_tick 54 = .ok (.iconst 1, 1) := by decide +kernel
theorem dX7_tick_55 : decode cX7_tick 55 = .ok (.goto 4, 3) := by decide +kernel
theorem dX7_tick_58 : decode cX7_tick 58 = .ok (.iconst 0, 1) := by decide +kernel
theorem dX7_tick_59 : decode cX7_tick 59 = .ok (.ireturn, 1) := by decide +kernel
set_option maxRecDepth 20000 in
theorem ggX7_page_X7_seek : GoodIn wsX7_page wsX7_seek := goodIn_r _ [11, 1, 12, 13, 3, 14, 15, 16, 17, 18, 19, 20, 21, 22, 23, 24, 25, 26, 27, 28, 29, 30, 31, 32, 33, 34, 35, 36, 37, 38, 39, 40, 41, 42, 43, 44, 45, 46, 47, 48, 49, 50, 51, 52, 53, 54, 55, 10, 56, 57, 58, 59, 60, 61, 62, 63, 64, 65, 66, 67, 68, 69, 70, 71, 72, 73, 74, 75, 76, 77, 78, 79, 80, 81, 82, 83, 84, 85, 86, 87, 88, 89, 90, 124, 125, 126, 127, 128, 129, 130, 131, 132, 133, 148, 149, 150, 151, 152, 153, 154, 155, 156, 157, 158, 159, 160, 161, 162, 163, 164, 165, 138, 139, 140, 141, 142, 143, 144, 145, 146, 147, 166, 134, 135, 136, 137] (by decide +kernel) (by decide +kernel)
set_option maxRecDepth 20000 in
theorem gX7_page_X7_seek : GoodIn wsX7_page (wsV RX7 172 RX7 yX7_seek wsX7_seek) := goodIn_app (goodIn_of _ (by decide +kernel)) ggX7_page_X7_seek
set_option maxRecDepth 20000 in
theorem ggX7_page_X3_cellsOf : GoodIn wsX7_page wsX3_cellsOf := goodIn_r _ [94, 67, 68, 75, 87, 88, 89, 65, 90, 55, 10, 56, 134, 135, 136, 137] (by decide +kernel) (by decide +kernel)
set_option maxRecDepth 20000 in
theorem gX7_page_X3_cellsOf : GoodIn wsX7_page (wsV RX7 178 RX3 yX3_cellsOf wsX3_cellsOf) := goodIn_app (goodIn_of _ (by decide +kernel)) ggX7_page_X3_cellsOf
set_option maxRecDepth 20000 in
theorem ggX7_page_J6_bitCount_0f7a4 : GoodIn wsX7_page wsJ6_bitCount_0f7a4 := goodIn_r _ [79, 80, 81, 82] (by decide +kernel) (by decide +kernel)
set_option maxRecDepth 20000 in
theorem gX7_page_J6_bitCount_0f7a4 : GoodIn wsX7_page (va_wsS RX7 182 yJ6_bitCount_0f7a4 wsJ6_bitCount_0f7a4) := goodIn_app (goodIn_of _ (by decide +kernel)) ggX7_page_J6_bitCount_0f7a4
set_option maxRecDepth 20000 in
theorem ggX7_page_X7_holds : GoodIn wsX7_page wsX7_holds := goodIn_r _ [56] (by decide +kernel) (by decide +kernel)
set_option maxRecDepth 20000 in
theorem gX7_page_X7_holds : GoodIn wsX7_page (va_wsS RX7 190 yX7_holds wsX7_holds) := goodIn_app (goodIn_of _ (by decide +kernel)) ggX7_page_X7_holds
set_option maxRecDepth 20000 in
theorem ggX7_page_X2_keep : GoodIn wsX7_page wsX2_keep := goodIn_r _ [101, 102, 103, 104, 105, 25, 26, 27, 106, 107, 108, 39, 109, 110, 111, 112, 113, 114, 42, 41, 45, 115, 43, 116, 117, 118, 119, 167, 168, 169, 138, 139, 140, 141, 142, 143, 144, 145, 146, 147] (by decide +kernel) (by decide +kernel)
set_option maxRecDepth 20000 in
theorem gX7_page_X2_keep : GoodIn wsX7_page (wsV RX7 120 RX2 yX2_keep wsX2_keep) := goodIn_app (goodIn_of _ (by decide +kernel)) ggX7_page_X2_keep
set_option maxRecDepth 20000 in
theorem ggX7_page_X4_register : GoodIn wsX7_page wsX4_register := goodIn_r _ [123, 115, 43, 116, 117, 138, 139, 140, 141, 142, 143, 144, 145, 146, 147] (by decide +kernel) (by decide +kernel)
set_option maxRecDepth 20000 in
theorem gX7_page_X4_register : GoodIn wsX7_page (wsV RX7 124 RX4 yX4_register wsX4_register) := goodIn_app (goodIn_of _ (by decide +kernel)) ggX7_page_X4_register
theorem dX7_page_0 : decode cX7_page 0 = .ok (.aload_n 0, 1) := by decide +kernel
theorem dX7_page_1 : decode cX7_page 1 = .ok (.invokevirtual 172, 3) := by decide +kernel
theorem dX7_page_4 : decode cX7_page 4 = .ok (.iconst 0, 1) := by decide +kernel
theorem dX7_page_5 : decode cX7_page 5 = .ok (.istore_n 1, 1) := by decide +kernel
theorem dX7_page_6 : decode cX7_page 6 = .ok (.iconst 0, 1) := by decide +kernel
theorem dX7_page_7 : decode cX7_page 7 = .ok (.istore_n 2, 1) := by decide +kernel
theorem dX7_page_8 : decode cX7_page 8 = .ok (.iload_n 2, 1) := by decide +kernel
theorem dX7_page_9 : decode cX7_page 9 = .ok (.aload_n 0, 1) := by decide +kernel
theorem dX7_page_10 : decode cX7_page 10 = .ok (.getfield 40, 3) := by decide +kernel
theorem dX7_page_13 : decode cX7_page 13 = .ok (.getfield 175, 3) := by decide +kernel
theorem dX7_page_16 : decode cX7_page 16 = .ok (.if_icmp .ge 42, 3) := by decide +kernel
theorem dX7_page_19 : decode cX7_page 19 = .ok (.aload_n 0, 1) := by decide +kernel
theorem dX7_page_20 : decode cX7_page 20 = .ok (.getfield 40, 3) := by decide +kernel
theorem dX7_page_23 : decode cX7_page 23 = .ok (.iload_n 2, 1) := by decide +kernel
theorem dX7_page_24 : decode cX7_page 24 = .ok (.invokevirtual 178, 3) := by decide +kernel
theorem dX7_page_27 : decode cX7_page 27 = .ok (.istore_n 3, 1) := by decide +kernel
theorem dX7_page_28 : decode cX7_page 28 = .ok (.iload_n 1, 1) := by decide +kernel
theorem dX7_page_29 : decode cX7_page 29 = .ok (.iload_n 3, 1) := by decide +kernel
theorem dX7_page_30 : decode cX7_page 30 = .ok (.invokestatic 182, 3) := by decide +kernel
theorem dX7_page_33 : decode cX7_page 33 = .ok (.iadd, 1) := by decide +kernel
theorem dX7_page_34 : decode cX7_page 34 = .ok (.istore_n 1, 1) := by decide +kernel
theorem dX7_page_35 : decode cX7_page 35 = .ok (.iload_n 3, 1) := by decide +kernel
theorem dX7_page_36 : decode cX7_page 36 = .ok (.aload_n 0, 1) := by decide +kernel
theorem dX7_page_37 : decode cX7_page 37 = .ok (.getfield 58, 3) := by decide +kernel
theorem dX7_page_40 : decode cX7_page 40 = .ok (.getfield 187, 3) := by decide +kernel
theorem dX7_page_43 : decode cX7_page 43 = .ok (.invokestatic 190, 3) := by decide +kernel
theorem dX7_page_46 : decode cX7_page 46 = .ok (.ifCond .eq 6, 3) := by decide +kernel
theorem dX7_page_49 : decode cX7_page 49 = .ok (.goto 9, 3) := by decide +kernel
theorem dX7_page_52 : decode cX7_page 52 = .ok (.iinc 2 1, 3) := by decide +kernel
theorem dX7_page_55 : decode cX7_page 55 = .ok (.goto (-47), 3) := by decide +kernel
theorem dX7_page_58 : decode cX7_page 58 = .ok (.aload_n 0, 1) := by decide +kernel
theorem dX7_page_59 : decode cX7_page 59 = .ok (.getfield 19, 3) := by decide +kernel
theorem dX7_page_62 : decode cX7_page 62 = .ok (.aload_n 0, 1) := by decide +kernel
theorem dX7_page_63 : decode cX7_page 63 = .ok (.getfield 58, 3) := by decide +kernel
theorem dX7_page_66 : decode cX7_page 66 = .ok (.invokevirtual 120, 3) := by decide +kernel
theorem dX7_page_69 : decode cX7_page 69 = .ok (.aload_n 0, 1) := by decide +kernel
theorem dX7_page_70 : decode cX7_page 70 = .ok (.getfield 58, 3) := by decide +kernel
theorem dX7_page_73 : decode cX7_page 73 = .ok (.dup, 1) := by decide +kernel
theorem dX7_page_74 : decode cX7_page 74 = .ok (.getfield 193, 3) := by decide +kernel
theorem dX7_page_77 : decode cX7_page 77 = .ok (.iload_n 1, 1) := by decide +kernel
theorem dX7_page_78 : decode cX7_page 78 = .ok (.iadd, 1) := by decide +kernel
theorem dX7_page_79 : decode cX7_page 79 = .ok (.putfield 193, 3) := by decide +kernel
theorem dX7_page_82 : decode cX7_page 82 = .ok (.aload_n 0, 1) := by decide +kernel
theorem dX7_page_83 : decode cX7_page 83 = .ok (.getfield 58, 3) := by decide +kernel
theorem dX7_page_86 : decode cX7_page 86 = .ok (.invokevirtual 124, 3) := by decide +kernel
theorem dX7_page_89 : decode cX7_page 89 = .ok (.iload_n 1, 1) := by decide +kernel
theorem dX7_page_90 : decode cX7_page 90 = .ok (.ireturn, 1) := by decide +kernel
theorem dX7_handset_0 : decode cX7_handset 0 = .ok (.iload_n 1, 1) := by decide +kernel
theorem dX7_handset_1 : decode cX7_handset 1 = .ok (.tableswitch 123 0 6 #[43, 51, 59, 67, 75, 83, 91], 43) := by decide +kernel
theorem dX7_handset_44 : decode cX7_handset 44 = .ok (.aload_n 0, 1) := by decide +kernel
theorem dX7_handset_45 : decode cX7_handset 45 = .ok (.getfield 58, 3) := by decide +kernel
theorem dX7_handset_48 : decode cX7_handset 48 = .ok (.getfield 187, 3) := by decide +kernel
theorem dX7_handset_51 : decode cX7_handset 51 = .ok (.ireturn, 1) := by decide +kernel
theorem dX7_handset_52 : decode cX7_handset 52 = .ok (.aload_n 0, 1) := by decide +kernel
theorem dX7_handset_53 : decode cX7_handset 53 = .ok (.getfield 58, 3) := by decide +kernel
theorem dX7_handset_56 : decode cX7_handset 56 = .ok (.getfield 196, 3) := by decide +kernel
theorem dX7_handset_59 : decode cX7_handset 59 = .ok (.ireturn, 1) := by decide +kernel
theorem dX7_handset_60 : decode cX7_handset 60 = .ok (.aload_n 0, 1) := by decide +kernel
theorem dX7_handset_61 : decode cX7_handset 61 = .ok (.getfield 58, 3) := by decide +kernel
theorem dX7_handset_64 : decode cX7_handset 64 = .ok (.getfield 199, 3) := by decide +kernel
theorem dX7_handset_67 : decode cX7_handset 67 = .ok (.ireturn, 1) := by decide +kernel
theorem dX7_handset_68 : decode cX7_handset 68 = .ok (.aload_n 0, 1) := by decide +kernel
theorem dX7_handset_69 : decode cX7_handset 69 = .ok (.getfield 58, 3) := by decide +kernel
theorem dX7_handset_72 : decode cX7_handset 72 = .ok (.getfield 202, 3) := by decide +kernel
theorem dX7_handset_75 : decode cX7_handset 75 = .ok (.ireturn, 1) := by decide +kernel
theorem dX7_handset_76 : decode cX7_handset 76 = .ok (.aload_n 0, 1) := by decide +kernel
theorem dX7_handset_77 : decode cX7_handset 77 = .ok (.getfield 58, 3) := by decide +kernel
theorem dX7_handset_80 : decode cX7_handset 80 = .ok (.getfield 205, 3) := by decide +kernel
theorem dX7_handset_83 : decode cX7_handset 83 = .ok (.ireturn, 1) := by decide +kernel
theorem dX7_handset_84 : decode cX7_handset 84 = .ok (.aload_n 0, 1) := by decide +kernel
theorem dX7_handset_85 : decode cX7_handset 85 = .ok (.getfield 58, 3) := by decide +kernel
theorem dX7_handset_88 : decode cX7_handset 88 = .ok (.getfield 193, 3) := by decide +kernel
theorem dX7_handset_91 : decode cX7_handset 91 = .ok (.ireturn, 1) := by decide +kernel
theorem dX7_handset_92 : decode cX7_handset 92 = .ok (.aload_n 0, 1) := by decide +kernel
theorem dX7_handset_93 : decode cX7_handset 93 = .ok (.getfield 54, 3) := by decide +kernel
theorem dX7_handset_96 : decode cX7_handset 96 = .ok (.getfield 208, 3) := by decide +kernel
theorem dX7_handset_99 : decode cX7_handset 99 = .ok (.aload_n 0, 1) := by decide +kernel
theorem dX7_handset_100 : decode cX7_handset 100 = .ok (.getfield 58, 3) := by decide +kernel
theorem dX7_handset_103 : decode cX7_handset 103 = .ok (.getfield 193, 3) := by decide +kernel
theorem dX7_handset_106 : decode cX7_handset 106 = .ok (.imul, 1) := by decide +kernel
theorem dX7_handset_107 : decode cX7_handset 107 = .ok (.aload_n 0, 1) := by decide +kernel
theorem dX7_handset_108 : decode cX7_handset 108 = .ok (.getfield 54, 3) := by decide +kernel
theorem dX7_handset_111 : decode cX7_handset 111 = .ok (.getfield 211, 3) := by decide +kernel
theorem dX7_handset_114 : decode cX7_handset 114 = .ok (.aload_n 0, 1) := by decide +kernel
theorem dX7_handset_115 : decode cX7_handset 115 = .ok (.getfield 58, 3) := by decide +kernel
theorem dX7_handset_118 : decode cX7_handset 118 = .ok (.getfield 205, 3) := by decide +kernel
theorem dX7_handset_121 : decode cX7_handset 121 = .ok (.imul, 1) := by decide +kernel
theorem dX7_handset_122 : decode cX7_handset 122 = .ok (.iadd, 1) := by decide +kernel
theorem dX7_handset_123 : decode cX7_handset 123 = .ok (.ireturn, 1) := by decide +kernel
theorem dX7_handset_124 : decode cX7_handset 124 = .ok (.iconst (-1), 1) := by decide +kernel
theorem dX7_handset_125 : decode cX7_handset 125 = .ok (.ireturn, 1) := by decide +kernel
set_option maxRecDepth 20000 in
theorem ggX7_where_X6_find : GoodIn wsX7_where wsX6_find := goodIn_r _ [8, 9, 10, 11, 12, 13, 14, 15, 16, 17, 18, 19, 20, 7, 21, 22, 23, 24, 25, 26, 27, 28, 29, 30, 31, 32, 33, 34, 35, 36, 37, 38, 39, 40, 41, 42, 43, 44, 45, 46, 47, 48, 49, 60, 61, 62, 63, 64, 65, 66, 67, 68, 69, 70, 71, 72, 73, 74, 75, 76, 77, 78, 79, 80, 81, 82] (by decide +kernel) (by decide +kernel)
set_option maxRecDepth 20000 in
theorem gX7_where_X6_find : GoodIn wsX7_where (wsV RX7 214 RX6 yX6_find wsX6_find) := goodIn_app (goodIn_of _ (by decide +kernel)) ggX7_where_X6_find
theorem dX7_where_0 : decode cX7_where 0 = .ok (.aload_n 0, 1) := by decide +kernel
theorem dX7_where_1 : decode cX7_where 1 = .ok (.getfield 33, 3) := by decide +kernel
theorem dX7_where_4 : decode cX7_where 4 = .ok (.aload_n 0, 1) := by decide +kernel
theorem dX7_where_5 : decode cX7_where 5 = .ok (.getfield 54, 3) := by decide +kernel
theorem dX7_where_8 : decode cX7_where 8 = .ok (.aload_n 0, 1) := by decide +kernel
theorem dX7_where_9 : decode cX7_where 9 = .ok (.getfield 58, 3) := by decide +kernel
theorem dX7_where_12 : decode cX7_where 12 = .ok (.invokevirtual 214, 3) := by decide +kernel
theorem dX7_where_15 : decode cX7_where 15 = .ok (.ireturn, 1) := by decide +kernel
set_option maxRecDepth 20000 in
theorem ggX7_round_X7_seek : GoodIn wsX7_round wsX7_seek := goodIn_r _ [7, 1, 8, 9, 10, 11, 12, 13, 14, 15, 16, 17, 18, 19, 20, 21, 22, 23, 24, 25, 26, 27, 28, 29, 30, 31, 32, 33, 34, 35, 36, 37, 38, 39, 40, 41, 42, 43, 44, 45, 46, 47, 48, 49, 50, 51, 52, 6, 53, 54, 55, 56, 57, 58, 59, 60, 61, 62, 63, 64, 65, 66, 67, 68, 69, 70, 71, 72, 73, 74, 75, 76, 77, 78, 79, 80, 81, 82, 83, 84, 85, 86, 87, 92, 93, 94, 95, 96, 97, 98, 99, 100, 101, 106, 107, 108, 109, 110, 111, 112, 113, 114, 115, 116, 117, 118, 119, 120, 121, 122, 123, 124, 125, 126, 127, 128, 129, 130, 131, 132, 133, 134, 102, 103, 104, 105] (by decide +kernel) (by decide +kernel)
set_option maxRecDepth 20000 in
theorem gX7_round_X7_seek : GoodIn wsX7_round (wsV RX7 172 RX7 yX7_seek wsX7_seek) := goodIn_app (goodIn_of _ (by decide +kernel)) ggX7_round_X7_seek
set_option maxRecDepth 20000 in
theorem ggX7_round_X3_cellsOf : GoodIn wsX7_round wsX3_cellsOf := goodIn_r _ [91, 64, 65, 72, 84, 85, 86, 62, 87, 52, 6, 53, 102, 103, 104, 105] (by decide +kernel) (by decide +kernel)
set_option maxRecDepth 20000 in
theorem gX7_round_X3_cellsOf : GoodIn wsX7_round (wsV RX7 178 RX3 yX3_cellsOf wsX3_cellsOf) := goodIn_app (goodIn_of _ (by decide +kernel)) ggX7_round_X3_cellsOf
theorem dX7_round_0 : decode cX7_round 0 = .ok (.iload_n 1, 1) := by decide +kernel
theorem dX7_round_1 : decode cX7_round 1 = .ok (.iconst (-1), 1) := by decide +kernel
theorem dX7_round_2 : decode cX7_round 2 = .ok (.if_icmp .ge 5, 3) := by decide +kernel
theorem dX7_round_5 : decode cX7_round 5 = .ok (.iconst (-1), 1) := by decide +kernel
theorem dX7_round_6 : decode cX7_round 6 = .ok (.ireturn, 1) := by decide +kernel
theorem dX7_round_7 : decode cX7_round 7 = .ok (.aload_n 0, 1) := by decide +kernel
theorem dX7_round_8 : decode cX7_round 8 = .ok (.invokevirtual 172, 3) := by decide +kernel
theorem dX7_round_11 : decode cX7_round 11 = .ok (.iload_n 1, 1) := by decide +kernel
theorem dX7_round_12 : decode cX7_round 12 = .ok (.iconst (-1), 1) := by decide +kernel
theorem dX7_round_13 : decode cX7_round 13 = .ok (.if_icmp .ne 11, 3) := by decide +kernel
theorem dX7_round_16 : decode cX7_round 16 = .ok (.aload_n 0, 1) := by decide +kernel
theorem dX7_round_17 : decode cX7_round 17 = .ok (.getfield 40, 3) := by decide +kernel
theorem dX7_round_20 : decode cX7_round 20 = .ok (.getfield 175, 3) := by decide +kernel
theorem dX7_round_23 : decode cX7_round 23 = .ok (.ireturn, 1) := by decide +kernel
theorem dX7_round_24 : decode cX7_round 24 = .ok (.iload_n 1, 1) := by decide +kernel
theorem dX7_round_25 : decode cX7_round 25 = .ok (.aload_n 0, 1) := by decide +kernel
theorem dX7_round_26 : decode cX7_round 26 = .ok (.getfield 40, 3) := by decide +kernel
theorem dX7_round_29 : decode cX7_round 29 = .ok (.getfield 175, 3) := by decide +kernel
theorem dX7_round_32 : decode cX7_round 32 = .ok (.if_icmp .ge 14, 3) := by decide +kernel
theorem dX7_round_35 : decode cX7_round 35 = .ok (.aload_n 0, 1) := by decide +kernel
theorem dX7_round_36 : decode cX7_round 36 = .ok (.getfield 40, 3) := by decide +kernel
theorem dX7_round_39 : decode cX7_round 39 = .ok (.iload_n 1, 1) := by decide +kernel
theorem dX7_round_40 : decode cX7_round 40 = .ok (.invokevirtual 178, 3) := by decide +kernel
theorem dX7_round_43 : decode cX7_round 43 = .ok (.goto 5, 3) := by decide +kernel
theorem dX7_round_46 : decode cX7_round 46 = .ok (.bipush (-4), 2) := by decide +kernel
theorem dX7_round_48 : decode cX7_round 48 = .ok (.ireturn, 1) := by decide +kernel
set_option maxRecDepth 20000 in
theorem ggX7_seek_X6_find : GoodIn wsX7_seek wsX6_find := goodIn_r _ [12, 13, 14, 15, 16, 17, 18, 19, 20, 21, 22, 23, 24, 11, 25, 26, 27, 28, 29, 30, 31, 32, 33, 34, 35, 36, 37, 38, 39, 40, 41, 42, 43, 44, 45, 46, 47, 48, 49, 50, 51, 52, 53, 111, 112, 113, 114, 115, 116, 117, 118, 119, 120, 121, 99, 100, 101, 102, 103, 104, 105, 106, 107, 108, 109, 110] (by decide +kernel) (by decide +kernel)
set_option maxRecDepth 20000 in
theorem gX7_seek_X6_find : GoodIn wsX7_seek (wsV RX7 214 RX6 yX6_find wsX6_find) := goodIn_app (goodIn_of _ (by decide +kernel)) ggX7_seek_X6_find
set_option maxRecDepth 20000 in
theorem ggX7_seek_X3_lineUp : GoodIn wsX7_seek wsX3_lineUp := goodIn_r _ [58, 59, 60, 46, 47, 48, 122, 123, 124, 125] (by decide +kernel) (by decide +kernel)
set_option maxRecDepth 20000 in
theorem gX7_seek_X3_lineUp : GoodIn wsX7_seek (wsV RX7 221 RX3 yX3_lineUp wsX3_lineUp) := goodIn_app (goodIn_of _ (by decide +kernel)) ggX7_seek_X3_lineUp
set_option maxRecDepth 20000 in
theorem ggX7_seek_X3_split : GoodIn wsX7_seek wsX3_split := goodIn_r _ [64, 65, 66, 67, 59, 68, 69, 70, 71, 72, 73, 74, 75, 76, 77, 57, 78, 60, 79, 80, 81, 82, 46, 47, 48, 122, 123, 124, 125] (by decide +kernel) (by decide +kernel)
set_option maxRecDepth 20000 in
theorem gX7_seek_X3_split : GoodIn wsX7_seek (wsV RX7 228 RX3 yX3_split wsX3_split) := goodIn_app (goodIn_of _ (by decide +kernel)) ggX7_seek_X3_split
theorem dX7_seek_0 : decode cX7_seek 0 = .ok (.aload_n 0, 1) := by decide +kernel
theorem dX7_seek_1 : decode cX7_seek 1 = .ok (.getfield 40, 3) := by decide +kernel
theorem dX7_seek_4 : decode cX7_seek 4 = .ok (.aload_n 0, 1) := by decide +kernel
theorem dX7_seek_5 : decode cX7_seek 5 = .ok (.getfield 33, 3) := by decide +kernel
theorem dX7_seek_8 : decode cX7_seek 8 = .ok (.aload_n 0, 1) := by decide +kernel
theorem dX7_seek_9 : decode cX7_seek 9 = .ok (.getfield 54, 3) := by decide +kernel
theorem dX7_seek_12 : decode cX7_seek 12 = .ok (.aload_n 0, 1) := by decide +kernel
theorem dX7_seek_13 : decode cX7_seek 13 = .ok (.getfield 58, 3) := by decide +kernel
theorem dX7_seek_16 : decode cX7_seek 16 = .ok (.invokevirtual 214, 3) := by decide +kernel
theorem dX7_seek_19 : decode cX7_seek 19 = .ok (.aload_n 0, 1) := by decide +kernel
theorem dX7_seek_20 : decode cX7_seek 20 = .ok (.getfield 26, 3) := by decide +kernel
theorem dX7_seek_23 : decode cX7_seek 23 = .ok (.getfield 217, 3) := by decide +kernel
theorem dX7_seek_26 : decode cX7_seek 26 = .ok (.invokevirtual 221, 3) := by decide +kernel
theorem dX7_seek_29 : decode cX7_seek 29 = .ok (.aload_n 0, 1) := by decide +kernel
theorem dX7_seek_30 : decode cX7_seek 30 = .ok (.getfield 40, 3) := by decide +kernel
theorem dX7_seek_33 : decode cX7_seek 33 = .ok (.aload_n 0, 1) := by decide +kernel
theorem dX7_seek_34 : decode cX7_seek 34 = .ok (.getfield 54, 3) := by decide +kernel
theorem dX7_seek_37 : decode cX7_seek 37 = .ok (.getfield 225, 3) := by decide +kernel
theorem dX7_seek_40 : decode cX7_seek 40 = .ok (.aload_n 0, 1) := by decide +kernel
theorem dX7_seek_41 : decode cX7_seek 41 = .ok (.getfield 26, 3) := by decide +kernel
theorem dX7_seek_44 : decode cX7_seek 44 = .ok (.getfield 217, 3) := by decide +kernel
theorem dX7_seek_47 : decode cX7_seek 47 = .ok (.invokevirtual 228, 3) := by decide +kernel
theorem dX7_seek_50 : decode cX7_seek 50 = .ok (.return_, 1) := by decide +kernel
set_option maxRecDepth 20000 in
theorem ggX7_chance_X7_isCell : GoodIn wsX7_chance wsX7_isCell := goodIn_r _ [9, 10, 11, 21, 22, 23, 24, 25, 26, 27, 28, 29, 30, 37, 38, 39, 40, 41, 42, 43, 44, 45, 46, 47, 48] (by decide +kernel) (by decide +kernel)
set_option maxRecDepth 20000 in
theorem gX7_chance_X7_isCell : GoodIn wsX7_chance (wsV RX7 110 RX7 yX7_isCell wsX7_isCell) := goodIn_app (goodIn_of _ (by decide +kernel)) ggX7_chance_X7_isCell
set_option maxRecDepth 20000 in
theorem ggX7_chance_X7_isPart : GoodIn wsX7_chance wsX7_isPart := goodIn_r _ [14] (by decide +kernel) (by decide +kernel)
set_option maxRecDepth 20000 in
theorem gX7_chance_X7_isPart : GoodIn wsX7_chance (va_wsS RX7 231 yX7_isPart wsX7_isPart) := goodIn_app (goodIn_of _ (by decide +kernel)) ggX7_chance_X7_isPart
set_option maxRecDepth 20000 in
theorem ggX7_chance_X7_lowest : GoodIn wsX7_chance wsX7_lowest := goodIn_r _ [17, 18, 19, 8, 20] (by decide +kernel) (by decide +kernel)
set_option maxRecDepth 20000 in
theorem gX7_chance_X7_lowest : GoodIn wsX7_chance (va_wsS RX7 240 yX7_lowest wsX7_lowest) := goodIn_app (goodIn_of _ (by decide +kernel)) ggX7_chance_X7_lowest
theorem dX7_chance_0 : decode cX7_chance 0 = .ok (.aload_n 0, 1) := by decide +kernel
theorem dX7_chance_1 : decode cX7_chance 1 = .ok (.iload_n 1, 1) := by decide +kernel
theorem dX7_chance_2 : decode cX7_chance 2 = .ok (.invokevirtual 110, 3) := by decide +kernel
theorem dX7_chance_5 : decode cX7_chance 5 = .ok (.ifCond .eq 10, 3) := by decide +kernel
theorem dX7_chance_8 : decode cX7_chance 8 = .ok (.iload_n 2, 1) := by decide +kernel
theorem dX7_chance_9 : decode cX7_chance 9 = .ok (.invokestatic 231, 3) := by decide +kernel
theorem dX7_chance_12 : decode cX7_chance 12 = .ok (.ifCond .ne 7, 3) := by decide +kernel
theorem dX7_chance_15 : decode cX7_chance 15 = .ok (.ldc2_w 234, 3) := by decide +kernel
theorem dX7_chance_18 : decode cX7_chance 18 = .ok (.lreturn, 1) := by decide +kernel
theorem dX7_chance_19 : decode cX7_chance 19 = .ok (.aload_n 0, 1) := by decide +kernel
theorem dX7_chance_20 : decode cX7_chance 20 = .ok (.getfield 26, 3) := by decide +kernel
theorem dX7_chance_23 : decode cX7_chance 23 = .ok (.getfield 217, 3) := by decide +kernel
theorem dX7_chance_26 : decode cX7_chance 26 = .ok (.iload_n 1, 1) := by decide +kernel
theorem dX7_chance_27 : decode cX7_chance 27 = .ok (.laload, 1) := by decide +kernel
theorem dX7_chance_28 : decode cX7_chance 28 = .ok (.aload_n 0, 1) := by decide +kernel
theorem dX7_chance_29 : decode cX7_chance 29 = .ok (.getfield 26, 3) := by decide +kernel
theorem dX7_chance_32 : decode cX7_chance 32 = .ok (.getfield 236, 3) := by decide +kernel
theorem dX7_chance_35 : decode cX7_chance 35 = .ok (.iload_n 2, 1) := by decide +kernel
theorem dX7_chance_36 : decode cX7_chance 36 = .ok (.invokestatic 240, 3) := by decide +kernel
theorem dX7_chance_39 : decode cX7_chance 39 = .ok (.lreturn, 1) := by decide +kernel
set_option maxRecDepth 20000 in
theorem ggX7_mean_X7_isPart : GoodIn wsX7_mean wsX7_isPart := goodIn_r _ [11] (by decide +kernel) (by decide +kernel)
set_option maxRecDepth 20000 in
theorem gX7_mean_X7_isPart : GoodIn wsX7_mean (va_wsS RX7 231 yX7_isPart wsX7_isPart) := goodIn_app (goodIn_of _ (by decide +kernel)) ggX7_mean_X7_isPart
set_option maxRecDepth 20000 in
theorem ggX7_mean_X0_crosses : GoodIn wsX7_mean wsX0_crosses := goodIn_r _ [16, 17, 18, 19, 75, 76, 77, 78, 79, 80, 81, 82, 83, 84, 85, 86] (by decide +kernel) (by decide +kernel)
set_option maxRecDepth 20000 in
theorem gX7_mean_X0_crosses : GoodIn wsX7_mean (wsV RX7 244 RX0 yX0_crosses wsX0_crosses) := goodIn_app (goodIn_of _ (by decide +kernel)) ggX7_mean_X0_crosses
set_option maxRecDepth 20000 in
theorem ggX7_mean_X7_lowest : GoodIn wsX7_mean wsX7_lowest := goodIn_r _ [22, 23, 24, 10, 25] (by decide +kernel) (by decide +kernel)
set_option maxRecDepth 20000 in
theorem gX7_mean_X7_lowest : GoodIn wsX7_mean (va_wsS RX7 240 yX7_lowest wsX7_lowest) := goodIn_app (goodIn_of _ (by decide +kernel)) ggX7_mean_X7_lowest
set_option maxRecDepth 20000 in
theorem ggX7_mean_X0_movesOn : GoodIn wsX7_mean wsX0_movesOn := goodIn_r _ [29, 17, 18, 30, 75, 76, 77, 78, 79, 80, 81, 82, 83, 84, 85, 86] (by decide +kernel) (by decide +kernel)
set_option maxRecDepth 20000 in
theorem gX7_mean_X0_movesOn : GoodIn wsX7_mean (wsV RX7 248 RX0 yX0_movesOn wsX0_movesOn) := goodIn_app (goodIn_of _ (by decide +kernel)) ggX7_mean_X0_movesOn
set_option maxRecDepth 20000 in
theorem ggX7_mean_X7_rate : GoodIn wsX7_mean wsX7_rate := goodIn_r _ [34, 4, 35, 2, 3, 5, 6, 36, 37, 12, 13, 14, 15, 16, 17, 18, 19, 20, 21, 10, 22, 23, 24, 25, 26, 27, 28, 29, 30, 49, 50, 51, 52, 53, 54, 55, 56, 57, 58, 59, 60, 61, 62, 63, 64, 65, 66, 67, 68, 69, 70, 71, 72, 73, 74, 75, 76, 77, 78, 79, 80, 81, 82, 83, 84, 85, 86] (by decide +kernel) (by decide +kernel)
set_option maxRecDepth 20000 in
theorem gX7_mean_X7_rate : GoodIn wsX7_mean (wsV RX7 252 RX7 yX7_rate wsX7_rate) := goodIn_app (goodIn_of _ (by decide +kernel)) ggX7_mean_X7_rate
set_option maxRecDepth 20000 in
theorem ggX7_mean_X0_expense : GoodIn wsX7_mean wsX0_expense := goodIn_r _ [41, 17, 42, 43, 44, 45, 46, 10, 47, 48, 13, 14, 15, 16, 18, 19, 75, 76, 77, 78, 79, 80, 81, 82, 83, 84, 85, 86, 69, 70, 71, 72, 73, 74] (by decide +kernel) (by decide +kernel)
set_option maxRecDepth 20000 in
theorem gX7_mean_X0_expense : GoodIn wsX7_mean (wsV RX7 256 RX0 yX0_expense wsX0_expense) := goodIn_app (goodIn_of _ (by decide +kernel)) ggX7_mean_X0_expense
theorem dX7_mean_0 : decode cX7_mean 0 = .ok (.iload_n 2, 1) := by decide +kernel
theorem dX7_mean_1 : decode cX7_mean 1 = .ok (.invokestatic 231, 3) := by decide +kernel
theorem dX7_mean_4 : decode cX7_mean 4 = .ok (.ifCond .ne 7, 3) := by decide +kernel
theorem dX7_mean_7 : decode cX7_mean 7 = .ok (.ldc2_w 234, 3) := by decide +kernel
theorem dX7_mean_10 : decode cX7_mean 10 = .ok (.lreturn, 1) := by decide +kernel
theorem dX7_mean_11 : decode cX7_mean 11 = .ok (.iload_n 1, 1) := by decide +kernel
theorem dX7_mean_12 : decode cX7_mean 12 = .ok (.tableswitch 125 0 3 #[32, 62, 85, 91], 32) := by decide +kernel
theorem dX7_mean_44 : decode cX7_mean 44 = .ok (.aload_n 0, 1) := by decide +kernel
theorem dX7_mean_45 : decode cX7_mean 45 = .ok (.getfield 26, 3) := by decide +kernel
theorem dX7_mean_48 : decode cX7_mean 48 = .ok (.aload_n 0, 1) := by decide +kernel
theorem dX7_mean_49 : decode cX7_mean 49 = .ok (.getfield 54, 3) := by decide +kernel
theorem dX7_mean_52 : decode cX7_mean 52 = .ok (.aload_n 0, 1) := by decide +kernel
theorem dX7_mean_53 : decode cX7_mean 53 = .ok (.getfield 58, 3) := by decide +kernel
theorem dX7_mean_56 : decode cX7_mean 56 = .ok (.getfield 117, 3) := by decide +kernel
theorem dX7_mean_59 : decode cX7_mean 59 = .ok (.invokevirtual 244, 3) := by decide +kernel
theorem dX7_mean_62 : decode cX7_mean 62 = .ok (.aload_n 0, 1) := by decide +kernel
theorem dX7_mean_63 : decode cX7_mean 63 = .ok (.getfield 26, 3) := by decide +kernel
theorem dX7_mean_66 : decode cX7_mean 66 = .ok (.getfield 236, 3) := by decide +kernel
theorem dX7_mean_69 : decode cX7_mean 69 = .ok (.iload_n 2, 1) := by decide +kernel
theorem dX7_mean_70 : decode cX7_mean 70 = .ok (.invokestatic 240, 3) := by decide +kernel
theorem dX7_mean_73 : decode cX7_mean 73 = .ok (.lreturn, 1) := by decide +kernel
theorem dX7_mean_74 : decode cX7_mean 74 = .ok (.aload_n 0, 1) := by decide +kernel
theorem dX7_mean_75 : decode cX7_mean 75 = .ok (.getfield 26, 3) := by decide +kernel
theorem dX7_mean_78 : decode cX7_mean 78 = .ok (.aload_n 0, 1) := by decide +kernel
theorem dX7_mean_79 : decode cX7_mean 79 = .ok (.getfield 54, 3) := by decide +kernel
theorem dX7_mean_82 : decode cX7_mean 82 = .ok (.invokevirtual 248, 3) := by decide +kernel
theorem dX7_mean_85 : decode cX7_mean 85 = .ok (.aload_n 0, 1) := by decide +kernel
theorem dX7_mean_86 : decode cX7_mean 86 = .ok (.getfield 26, 3) := by decide +kernel
theorem dX7_mean_89 : decode cX7_mean 89 = .ok (.getfield 236, 3) := by decide +kernel
theorem dX7_mean_92 : decode cX7_mean 92 = .ok (.iload_n 2, 1) := by decide +kernel
theorem dX7_mean_93 : decode cX7_mean 93 = .ok (.invokestatic 240, 3) := by decide +kernel
theorem dX7_mean_96 : decode cX7_mean 96 = .ok (.lreturn, 1) := by decide +kernel
theorem dX7_mean_97 : decode cX7_mean 97 = .ok (.aload_n 0, 1) := by decide +kernel
theorem dX7_mean_98 : decode cX7_mean 98 = .ok (.iload_n 2, 1) := by decide +kernel
theorem dX7_mean_99 : decode cX7_mean 99 = .ok (.invokevirtual 252, 3) := by decide +kernel
theorem dX7_mean_102 : decode cX7_mean 102 = .ok (.lreturn, 1) := by decide +kernel
theorem dX7_mean_103 : decode cX7_mean 103 = .ok (.aload_n 0, 1) := by decide +kernel
theorem dX7_mean_104 : decode cX7_mean 104 = .ok (.getfield 26, 3) := by decide +kernel
theorem dX7_mean_107 : decode cX7_mean 107 = .ok (.aload_n 0, 1) := by decide +kernel
theorem dX7_mean_108 : decode cX7_mean 108 = .ok (.getfield 54, 3) := by decide +kernel
theorem dX7_mean_111 : decode cX7_mean 111 = .ok (.aload_n 0, 1) := by decide +kernel
theorem dX7_mean_112 : decode cX7_mean 112 = .ok (.getfield 58, 3) := by decide +kernel
theorem dX7_mean_115 : decode cX7_mean 115 = .ok (.getfield 117, 3) := by decide +kernel
theorem dX7_mean_118 : decode cX7_mean 118 = .ok (.invokevirtual 256, 3) := by decide +kernel
theorem dX7_mean_121 : decode cX7_mean 121 = .ok (.ldc2_w 259, 3) := by decide +kernel
theorem dX7_mean_124 : decode cX7_mean 124 = .ok (.aload_n 0, 1) := by decide +kernel
theorem dX7_mean_125 : decode cX7_mean 125 = .ok (.getfield 26, 3) := by decide +kernel
theorem dX7_mean_128 : decode cX7_mean 128 = .ok (.getfield 236, 3) := by decide +kernel
theorem dX7_mean_131 : decode cX7_mean 131 = .ok (.lmul, 1) := by decide +kernel
theorem dX7_mean_132 : decode cX7_mean 132 = .ok (.iload_n 2, 1) := by decide +kernel
theorem dX7_mean_133 : decode cX7_mean 133 = .ok (.invokestatic 240, 3) := by decide +kernel
theorem dX7_mean_136 : decode cX7_mean 136 = .ok (.lreturn, 1) := by decide +kernel
theorem dX7_mean_137 : decode cX7_mean 137 = .ok (.ldc2_w 234, 3) := by decide +kernel
theorem dX7_mean_140 : decode cX7_mean 140 = .ok (.lreturn, 1) := by decide +kernel
set_option maxRecDepth 20000 in
theorem ggX7_rate_X0_crosses : GoodIn wsX7_rate wsX0_crosses := goodIn_r _ [13, 14, 15, 16, 55, 56, 57, 58, 59, 60, 61, 62, 63, 64, 65, 66] (by decide +kernel) (by decide +kernel)
set_option maxRecDepth 20000 in
theorem gX7_rate_X0_crosses : GoodIn wsX7_rate (wsV RX7 244 RX0 yX0_crosses wsX0_crosses) := goodIn_app (goodIn_of _ (by decide +kernel)) ggX7_rate_X0_crosses
set_option maxRecDepth 20000 in
theorem ggX7_rate_X7_lowest : GoodIn wsX7_rate wsX7_lowest := goodIn_r _ [20, 21, 22, 19, 23] (by decide +kernel) (by decide +kernel)
set_option maxRecDepth 20000 in
theorem gX7_rate_X7_lowest : GoodIn wsX7_rate (va_wsS RX7 240 yX7_lowest wsX7_lowest) := goodIn_app (goodIn_of _ (by decide +kernel)) ggX7_rate_X7_lowest
set_option maxRecDepth 20000 in
theorem ggX7_rate_X0_movesOn : GoodIn wsX7_rate wsX0_movesOn := goodIn_r _ [27, 14, 15, 28, 55, 56, 57, 58, 59, 60, 61, 62, 63, 64, 65, 66] (by decide +kernel) (by decide +kernel)
set_option maxRecDepth 20000 in
theorem gX7_rate_X0_movesOn : GoodIn wsX7_rate (wsV RX7 248 RX0 yX0_movesOn wsX0_movesOn) := goodIn_app (goodIn_of _ (by decide +kernel)) ggX7_rate_X0_movesOn
theorem dX7_rate_0 : decode cX7_rate 0 = .ok (.aload_n 0, 1) := by decide +kernel
theorem dX7_rate_1 : decode cX7_rate 1 = .ok (.getfield 58, 3) := by decide +kernel
theorem dX7_rate_4 : decode cX7_rate 4 = .ok (.getfield 131, 3) := by decide +kernel
theorem dX7_rate_7 : decode cX7_rate 7 = .ok (.tableswitch 101 0 2 #[25, 55, 87], 25) := by decide +kernel
theorem dX7_rate_32 : decode cX7_rate 32 = .ok (.aload_n 0, 1) := by decide +kernel
theorem dX7_rate_33 : decode cX7_rate 33 = .ok (.getfield 26, 3) := by decide +kernel
theorem dX7_rate_36 : decode cX7_rate 36 = .ok (.aload_n 0, 1) := by decide +kernel
theorem dX7_rate_37 : decode cX7_rate 37 = .ok (.getfield 54, 3) := by decide +kernel
theorem dX7_rate_40 : decode cX7_rate 40 = .ok (.aload_n 0, 1) := by decide +kernel
theorem dX7_rate_41 : decode cX7_rate 41 = .ok (.getfield 58, 3) := by decide +kernel
theorem dX7_rate_44 : decode cX7_rate 44 = .ok (.getfield 117, 3) := by decide +kernel
theorem dX7_rate_47 : decode cX7_rate 47 = .ok (.invokevirtual 244, 3) := by decide +kernel
theorem dX7_rate_50 : decode cX7_rate 50 = .ok (.aload_n 0, 1) := by decide +kernel
theorem dX7_rate_51 : decode cX7_rate 51 = .ok (.getfield 26, 3) := by decide +kernel
theorem dX7_rate_54 : decode cX7_rate 54 = .ok (.getfield 236, 3) := by decide +kernel
theorem dX7_rate_57 : decode cX7_rate 57 = .ok (.iload_n 1, 1) := by decide +kernel
theorem dX7_rate_58 : decode cX7_rate 58 = .ok (.invokestatic 240, 3) := by decide +kernel
theorem dX7_rate_61 : decode cX7_rate 61 = .ok (.lreturn, 1) := by decide +kernel
theorem dX7_rate_62 : decode cX7_rate 62 = .ok (.aload_n 0, 1) := by decide +kernel
theorem dX7_rate_63 : decode cX7_rate 63 = .ok (.getfield 26, 3) := by decide +kernel
theorem dX7_rate_66 : decode cX7_rate 66 = .ok (.aload_n 0, 1) := by decide +kernel
theorem dX7_rate_67 : decode cX7_rate 67 = .ok (.getfield 54, 3) := by decide +kernel
theorem dX7_rate_70 : decode cX7_rate 70 = .ok (.invokevirtual 248, 3) := by decide +kernel
theorem dX7_rate_73 : decode cX7_rate 73 = .ok (.aload_n 0, 1) := by decide +kernel
theorem dX7_rate_74 : decode cX7_rate 74 = .ok (.getfield 58, 3) := by decide +kernel
theorem dX7_rate_77 : decode cX7_rate 77 = .ok (.getfield 134, 3) := by decide +kernel
theorem dX7_rate_80 : decode cX7_rate 80 = .ok (.i2l, 1) := by decide +kernel
theorem dX7_rate_81 : decode cX7_rate 81 = .ok (.aload_n 0, 1) := by decide +kernel
theorem dX7_rate_82 : decode cX7_rate 82 = .ok (.getfield 26, 3) := by decide +kernel
theorem dX7_rate_85 : decode cX7_rate 85 = .ok (.getfield 236, 3) := by decide +kernel
theorem dX7_rate_88 : decode cX7_rate 88 = .ok (.lmul, 1) := by decide +kernel
theorem dX7_rate_89 : decode cX7_rate 89 = .ok (.iload_n 1, 1) := by decide +kernel
theorem dX7_rate_90 : decode cX7_rate 90 = .ok (.invokestatic 240, 3) := by decide +kernel
theorem dX7_rate_93 : decode cX7_rate 93 = .ok (.lreturn, 1) := by decide +kernel
theorem dX7_rate_94 : decode cX7_rate 94 = .ok (.lconst 1, 1) := by decide +kernel
theorem dX7_rate_95 : decode cX7_rate 95 = .ok (.aload_n 0, 1) := by decide +kernel
theorem dX7_rate_96 : decode cX7_rate 96 = .ok (.getfield 58, 3) := by decide +kernel
theorem dX7_rate_99 : decode cX7_rate 99 = .ok (.getfield 134, 3) := by decide +kernel
theorem dX7_rate_102 : decode cX7_rate 102 = .ok (.i2l, 1) := by decide +kernel
theorem dX7_rate_103 : decode cX7_rate 103 = .ok (.iload_n 1, 1) := by decide +kernel
theorem dX7_rate_104 : decode cX7_rate 104 = .ok (.invokestatic 240, 3) := by decide +kernel
theorem dX7_rate_107 : decode cX7_rate 107 = .ok (.lreturn, 1) := by decide +kernel
theorem dX7_rate_108 : decode cX7_rate 108 = .ok (.ldc2_w 261, 3) := by decide +kernel
theorem dX7_rate_111 : decode cX7_rate 111 = .ok (.lreturn, 1) := by decide +kernel
set_option maxRecDepth 20000 in
theorem ggX7_best_X7_isCell : GoodIn wsX7_best wsX7_isCell := goodIn_r _ [8, 2, 9, 56, 57, 58, 59, 60, 61, 62, 63, 64, 65, 72, 73, 74, 75, 76, 77, 78, 79, 80, 81, 82, 83] (by decide +kernel) (by decide +kernel)
set_option maxRecDepth 20000 in
theorem gX7_best_X7_isCell : GoodIn wsX7_best (wsV RX7 110 RX7 yX7_isCell wsX7_isCell) := goodIn_app (goodIn_of _ (by decide +kernel)) ggX7_best_X7_isCell
set_option maxRecDepth 20000 in
theorem ggX7_best_X0_findBest : GoodIn wsX7_best wsX0_findBest := goodIn_r _ [14, 15, 16, 17, 18, 19, 20, 21, 13, 22, 23, 24, 25, 26, 27, 7, 28, 29, 30, 31, 32, 33, 34, 35, 36, 37, 38, 39, 40, 41, 42, 43, 44, 45, 46, 47, 48, 49, 50, 51, 52, 53, 54, 55, 66, 67, 68, 69, 70, 71, 72, 73, 74, 75, 76, 77, 78, 79, 80, 81, 82, 83] (by decide +kernel) (by decide +kernel)
set_option maxRecDepth 20000 in
theorem gX7_best_X0_findBest : GoodIn wsX7_best (wsV RX7 137 RX0 yX0_findBest wsX0_findBest) := goodIn_app (goodIn_of _ (by decide +kernel)) ggX7_best_X0_findBest
theorem dX7_best_0 : decode cX7_best 0 = .ok (.aload_n 0, 1) := by decide +kernel
theorem dX7_best_1 : decode cX7_best 1 = .ok (.iload_n 1, 1) := by decide +kernel
theorem dX7_best_2 : decode cX7_best 2 = .ok (.invokevirtual 110, 3) := by decide +kernel
theorem dX7_best_5 : decode cX7_best 5 = .ok (.ifCond .ne 5, 3) := by decide +kernel
theorem dX7_best_8 : decode cX7_best 8 = .ok (.iconst (-1), 1) := by decide +kernel
theorem dX7_best_9 : decode cX7_best 9 = .ok (.ireturn, 1) := by decide +kernel
theorem dX7_best_10 : decode cX7_best 10 = .ok (.aload_n 0, 1) := by decide +kernel
theorem dX7_best_11 : decode cX7_best 11 = .ok (.getfield 26, 3) := by decide +kernel
theorem dX7_best_14 : decode cX7_best 14 = .ok (.aload_n 0, 1) := by decide +kernel
theorem dX7_best_15 : decode cX7_best 15 = .ok (.getfield 54, 3) := by decide +kernel
theorem dX7_best_18 : decode cX7_best 18 = .ok (.invokevirtual 137, 3) := by decide +kernel
theorem dX7_best_21 : decode cX7_best 21 = .ok (.aload_n 0, 1) := by decide +kernel
theorem dX7_best_22 : decode cX7_best 22 = .ok (.getfield 26, 3) := by decide +kernel
theorem dX7_best_25 : decode cX7_best 25 = .ok (.getfield 141, 3) := by decide +kernel
theorem dX7_best_28 : decode cX7_best 28 = .ok (.iload_n 1, 1) := by decide +kernel
theorem dX7_best_29 : decode cX7_best 29 = .ok (.iaload, 1) := by decide +kernel
theorem dX7_best_30 : decode cX7_best 30 = .ok (.ireturn, 1) := by decide +kernel
set_option maxRecDepth 20000 in
theorem ggX7_least_X7_isPart : GoodIn wsX7_least wsX7_isPart := goodIn_r _ [10] (by decide +kernel) (by decide +kernel)
set_option maxRecDepth 20000 in
theorem gX7_least_X7_isPart : GoodIn wsX7_least (va_wsS RX7 231 yX7_isPart wsX7_isPart) := goodIn_app (goodIn_of _ (by decide +kernel)) ggX7_least_X7_isPart
set_option maxRecDepth 20000 in
theorem ggX7_least_X0_findBest : GoodIn wsX7_least wsX0_findBest := goodIn_r _ [15, 16, 17, 18, 19, 20, 21, 22, 14, 23, 24, 25, 26, 27, 28, 9, 29, 30, 31, 32, 33, 34, 35, 36, 37, 38, 39, 40, 41, 42, 43, 44, 45, 46, 47, 48, 49, 50, 51, 52, 53, 54, 55, 56, 73, 74, 75, 76, 77, 78, 79, 80, 81, 82, 83, 84, 85, 86, 87, 88, 89, 90] (by decide +kernel) (by decide +kernel)
set_option maxRecDepth 20000 in
theorem gX7_least_X0_findBest : GoodIn wsX7_least (wsV RX7 137 RX0 yX0_findBest wsX0_findBest) := goodIn_app (goodIn_of _ (by decide +kernel)) ggX7_least_X0_findBest
set_option maxRecDepth 20000 in
theorem ggX7_least_X7_lowest : GoodIn wsX7_least wsX7_lowest := goodIn_r _ [59, 60, 61, 9, 62] (by decide +kernel) (by decide +kernel)
set_option maxRecDepth 20000 in
theorem gX7_least_X7_lowest : GoodIn wsX7_least (va_wsS RX7 240 yX7_lowest wsX7_lowest) := goodIn_app (goodIn_of _ (by decide +kernel)) ggX7_least_X7_lowest
theorem dX7_least_0 : decode cX7_least 0 = .ok (.iload_n 1, 1) := by decide +kernel
theorem dX7_least_1 : decode cX7_least 1 = .ok (.invokestatic 231, 3) := by decide +kernel
theorem dX7_least_4 : decode cX7_least 4 = .ok (.ifCond .ne 7, 3) := by decide +kernel
theorem dX7_least_7 : decode cX7_least 7 = .ok (.ldc2_w 234, 3) := by decide +kernel
theorem dX7_least_10 : decode cX7_least 10 = .ok (.lreturn, 1) := by decide +kernel
theorem dX7_least_11 : decode cX7_least 11 = .ok (.aload_n 0, 1) := by decide +kernel
theorem dX7_least_12 : decode cX7_least 12 = .ok (.getfield 26, 3) := by decide +kernel
theorem dX7_least_15 : decode cX7_least 15 = .ok (.aload_n 0, 1) := by decide +kernel
theorem dX7_least_16 : decode cX7_least 16 = .ok (.getfield 54, 3) := by decide +kernel
theorem dX7_least_19 : decode cX7_least 19 = .ok (.invokevirtual 137, 3) := by decide +kernel
theorem dX7_least_22 : decode cX7_least 22 = .ok (.aload_n 0, 1) := by decide +kernel
theorem dX7_least_23 : decode cX7_least 23 = .ok (.getfield 26, 3) := by decide +kernel
theorem dX7_least_26 : decode cX7_least 26 = .ok (.getfield 263, 3) := by decide +kernel
theorem dX7_least_29 : decode cX7_least 29 = .ok (.ldc2_w 259, 3) := by decide +kernel
theorem dX7_least_32 : decode cX7_least 32 = .ok (.aload_n 0, 1) := by decide +kernel
theorem dX7_least_33 : decode cX7_least 33 = .ok (.getfield 26, 3) := by decide +kernel
end
section
theorem dX7_least_36 : decode cX7_least 36 = .ok (.getfield 236, 3) := by decide +kernel
theorem dX7_least_39 : decode cX7_least 39 = .ok (.lmul, 1) := by decide +kernel
theorem dX7_least_40 : decode cX7_least 40 = .ok (.iload_n 1, 1) := by decide +kernel
theorem dX7_least_41 : decode cX7_least 41 = .ok (.invokestatic 240, 3) := by decide +kernel
theorem dX7_least_44 : decode cX7_least 44 = .ok (.lreturn, 1) := by decide +kernel
set_option maxRecDepth 20000 in
theorem ggX7_walk_X4_copyFrom : GoodIn wsX7_walk wsX4_copyFrom := goodIn_r _ [9, 10, 11, 12, 13, 14, 15, 16, 17, 18, 19, 20, 21, 22, 23, 65, 66, 67, 68, 69, 70, 71, 72, 73, 74] (by decide +kernel) (by decide +kernel)
set_option maxRecDepth 20000 in
theorem gX7_walk_X4_copyFrom : GoodIn wsX7_walk (wsV RX7 266 RX4 yX4_copyFrom wsX4_copyFrom) := goodIn_app (goodIn_of _ (by decide +kernel)) ggX7_walk_X4_copyFrom
set_option maxRecDepth 20000 in
theorem ggX7_walk_X7_draw : GoodIn wsX7_walk wsX7_draw := goodIn_r _ [27, 28, 29, 30] (by decide +kernel) (by decide +kernel)
set_option maxRecDepth 20000 in
theorem gX7_walk_X7_draw : GoodIn wsX7_walk (va_wsS RX7 269 yX7_draw wsX7_draw) := goodIn_app (goodIn_of _ (by decide +kernel)) ggX7_walk_X7_draw
set_option maxRecDepth 20000 in
theorem ggX7_walk_X4_drawnCell : GoodIn wsX7_walk wsX4_drawnCell := goodIn_r _ [34, 10, 18, 35, 36, 37, 65, 66, 67, 68, 69, 70, 71, 72, 73, 74, 75, 76, 77, 78, 79, 80, 81, 82, 83, 84, 85, 86] (by decide +kernel) (by decide +kernel)
set_option maxRecDepth 20000 in
theorem gX7_walk_X4_drawnCell : GoodIn wsX7_walk (wsV RX7 273 RX4 yX4_drawnCell wsX4_drawnCell) := goodIn_app (goodIn_of _ (by decide +kernel)) ggX7_walk_X4_drawnCell
set_option maxRecDepth 20000 in
theorem ggX7_walk_X4_go : GoodIn wsX7_walk wsX4_go := goodIn_r _ [41, 18, 20, 21, 22, 42, 43, 44, 8, 45, 16, 17, 46, 47, 48, 49, 15, 19, 50, 51, 52, 53, 54, 65, 66, 67, 68, 69, 70, 71, 72, 73, 74, 75, 76, 77, 78, 79, 80, 81, 82, 83, 84, 85, 86] (by decide +kernel) (by decide +kernel)
set_option maxRecDepth 20000 in
theorem gX7_walk_X4_go : GoodIn wsX7_walk (wsV RX7 169 RX4 yX4_go wsX4_go) := goodIn_app (goodIn_of _ (by decide +kernel)) ggX7_walk_X4_go
theorem dX7_walk_0 : decode cX7_walk 0 = .ok (.iload_n 1, 1) := by decide +kernel
theorem dX7_walk_1 : decode cX7_walk 1 = .ok (.ifCond .lt 30, 3) := by decide +kernel
theorem dX7_walk_4 : decode cX7_walk 4 = .ok (.iload_n 1, 1) := by decide +kernel
theorem dX7_walk_5 : decode cX7_walk 5 = .ok (.sipush 9999, 3) := by decide +kernel
theorem dX7_walk_8 : decode cX7_walk 8 = .ok (.if_icmp .gt 23, 3) := by decide +kernel
theorem dX7_walk_11 : decode cX7_walk 11 = .ok (.iload_n 2, 1) := by decide +kernel
theorem dX7_walk_12 : decode cX7_walk 12 = .ok (.iconst 1, 1) := by decide +kernel
theorem dX7_walk_13 : decode cX7_walk 13 = .ok (.if_icmp .lt 18, 3) := by decide +kernel
theorem dX7_walk_16 : decode cX7_walk 16 = .ok (.iload_n 2, 1) := by decide +kernel
theorem dX7_walk_17 : decode cX7_walk 17 = .ok (.bipush 60, 2) := by decide +kernel
theorem dX7_walk_19 : decode cX7_walk 19 = .ok (.if_icmp .gt 12, 3) := by decide +kernel
theorem dX7_walk_22 : decode cX7_walk 22 = .ok (.iload_n 3, 1) := by decide +kernel
theorem dX7_walk_23 : decode cX7_walk 23 = .ok (.ifCond .lt 8, 3) := by decide +kernel
theorem dX7_walk_26 : decode cX7_walk 26 = .ok (.iload_n 3, 1) := by decide +kernel
theorem dX7_walk_27 : decode cX7_walk 27 = .ok (.iconst 2, 1) := by decide +kernel
theorem dX7_walk_28 : decode cX7_walk 28 = .ok (.if_icmp .le 5, 3) := by decide +kernel
theorem dX7_walk_31 : decode cX7_walk 31 = .ok (.iconst (-1), 1) := by decide +kernel
theorem dX7_walk_32 : decode cX7_walk 32 = .ok (.ireturn, 1) := by decide +kernel
theorem dX7_walk_33 : decode cX7_walk 33 = .ok (.aload_n 0, 1) := by decide +kernel
theorem dX7_walk_34 : decode cX7_walk 34 = .ok (.getfield 47, 3) := by decide +kernel
theorem dX7_walk_37 : decode cX7_walk 37 = .ok (.aload_n 0, 1) := by decide +kernel
theorem dX7_walk_38 : decode cX7_walk 38 = .ok (.getfield 58, 3) := by decide +kernel
theorem dX7_walk_41 : decode cX7_walk 41 = .ok (.invokevirtual 266, 3) := by decide +kernel
theorem dX7_walk_44 : decode cX7_walk 44 = .ok (.iconst 0, 1) := by decide +kernel
theorem dX7_walk_45 : decode cX7_walk 45 = .ok (.istore 4, 2) := by decide +kernel
theorem dX7_walk_47 : decode cX7_walk 47 = .ok (.iconst 0, 1) := by decide +kernel
theorem dX7_walk_48 : decode cX7_walk 48 = .ok (.istore 5, 2) := by decide +kernel
theorem dX7_walk_50 : decode cX7_walk 50 = .ok (.iconst 0, 1) := by decide +kernel
theorem dX7_walk_51 : decode cX7_walk 51 = .ok (.istore 6, 2) := by decide +kernel
theorem dX7_walk_53 : decode cX7_walk 53 = .ok (.iload 6, 2) := by decide +kernel
theorem dX7_walk_55 : decode cX7_walk 55 = .ok (.iload_n 2, 1) := by decide +kernel
theorem dX7_walk_56 : decode cX7_walk 56 = .ok (.if_icmp .ge 62, 3) := by decide +kernel
theorem dX7_walk_59 : decode cX7_walk 59 = .ok (.aload_n 0, 1) := by decide +kernel
theorem dX7_walk_60 : decode cX7_walk 60 = .ok (.getfield 47, 3) := by decide +kernel
theorem dX7_walk_63 : decode cX7_walk 63 = .ok (.aload_n 0, 1) := by decide +kernel
theorem dX7_walk_64 : decode cX7_walk 64 = .ok (.getfield 54, 3) := by decide +kernel
theorem dX7_walk_67 : decode cX7_walk 67 = .ok (.iload_n 1, 1) := by decide +kernel
theorem dX7_walk_68 : decode cX7_walk 68 = .ok (.iload 6, 2) := by decide +kernel
theorem dX7_walk_70 : decode cX7_walk 70 = .ok (.invokestatic 269, 3) := by decide +kernel
theorem dX7_walk_73 : decode cX7_walk 73 = .ok (.invokevirtual 273, 3) := by decide +kernel
theorem dX7_walk_76 : decode cX7_walk 76 = .ok (.istore 7, 2) := by decide +kernel
theorem dX7_walk_78 : decode cX7_walk 78 = .ok (.iload 7, 2) := by decide +kernel
theorem dX7_walk_80 : decode cX7_walk 80 = .ok (.aload_n 0, 1) := by decide +kernel
theorem dX7_walk_81 : decode cX7_walk 81 = .ok (.getfield 47, 3) := by decide +kernel
theorem dX7_walk_84 : decode cX7_walk 84 = .ok (.getfield 187, 3) := by decide +kernel
theorem dX7_walk_87 : decode cX7_walk 87 = .ok (.if_icmp .eq 6, 3) := by decide +kernel
theorem dX7_walk_90 : decode cX7_walk 90 = .ok (.iinc 5 1, 3) := by decide +kernel
theorem dX7_walk_93 : decode cX7_walk 93 = .ok (.aload_n 0, 1) := by decide +kernel
theorem dX7_walk_94 : decode cX7_walk 94 = .ok (.getfield 47, 3) := by decide +kernel
theorem dX7_walk_97 : decode cX7_walk 97 = .ok (.aload_n 0, 1) := by decide +kernel
theorem dX7_walk_98 : decode cX7_walk 98 = .ok (.getfield 54, 3) := by decide +kernel
theorem dX7_walk_101 : decode cX7_walk 101 = .ok (.iload 7, 2) := by decide +kernel
theorem dX7_walk_103 : decode cX7_walk 103 = .ok (.invokevirtual 169, 3) := by decide +kernel
theorem dX7_walk_106 : decode cX7_walk 106 = .ok (.ifCond .eq 6, 3) := by decide +kernel
theorem dX7_walk_109 : decode cX7_walk 109 = .ok (.iinc 4 1, 3) := by decide +kernel
theorem dX7_walk_112 : decode cX7_walk 112 = .ok (.iinc 6 1, 3) := by decide +kernel
theorem dX7_walk_115 : decode cX7_walk 115 = .ok (.goto (-62), 3) := by decide +kernel
theorem dX7_walk_118 : decode cX7_walk 118 = .ok (.iload_n 3, 1) := by decide +kernel
theorem dX7_walk_119 : decode cX7_walk 119 = .ok (.ifCond .ne 11, 3) := by decide +kernel
theorem dX7_walk_122 : decode cX7_walk 122 = .ok (.aload_n 0, 1) := by decide +kernel
theorem dX7_walk_123 : decode cX7_walk 123 = .ok (.getfield 47, 3) := by decide +kernel
theorem dX7_walk_126 : decode cX7_walk 126 = .ok (.getfield 187, 3) := by decide +kernel
theorem dX7_walk_129 : decode cX7_walk 129 = .ok (.ireturn, 1) := by decide +kernel
theorem dX7_walk_130 : decode cX7_walk 130 = .ok (.iload_n 3, 1) := by decide +kernel
theorem dX7_walk_131 : decode cX7_walk 131 = .ok (.iconst 1, 1) := by decide +kernel
theorem dX7_walk_132 : decode cX7_walk 132 = .ok (.if_icmp .ne 8, 3) := by decide +kernel
theorem dX7_walk_135 : decode cX7_walk 135 = .ok (.iload 4, 2) := by decide +kernel
theorem dX7_walk_137 : decode cX7_walk 137 = .ok (.goto 5, 3) := by decide +kernel
theorem dX7_walk_140 : decode cX7_walk 140 = .ok (.iload 5, 2) := by decide +kernel
theorem dX7_walk_142 : decode cX7_walk 142 = .ok (.ireturn, 1) := by decide +kernel
theorem dX7_count_0 : decode cX7_count 0 = .ok (.iload_n 1, 1) := by decide +kernel
theorem dX7_count_1 : decode cX7_count 1 = .ok (.tableswitch 135 0 9 #[55, 63, 71, 79, 87, 95, 103, 111, 119, 127], 55) := by decide +kernel
theorem dX7_count_56 : decode cX7_count 56 = .ok (.aload_n 0, 1) := by decide +kernel
theorem dX7_count_57 : decode cX7_count 57 = .ok (.getfield 54, 3) := by decide +kernel
theorem dX7_count_60 : decode cX7_count 60 = .ok (.getfield 94, 3) := by decide +kernel
theorem dX7_count_63 : decode cX7_count 63 = .ok (.ireturn, 1) := by decide +kernel
theorem dX7_count_64 : decode cX7_count 64 = .ok (.aload_n 0, 1) := by decide +kernel
theorem dX7_count_65 : decode cX7_count 65 = .ok (.getfield 54, 3) := by decide +kernel
theorem dX7_count_68 : decode cX7_count 68 = .ok (.getfield 277, 3) := by decide +kernel
theorem dX7_count_71 : decode cX7_count 71 = .ok (.ireturn, 1) := by decide +kernel
theorem dX7_count_72 : decode cX7_count 72 = .ok (.aload_n 0, 1) := by decide +kernel
theorem dX7_count_73 : decode cX7_count 73 = .ok (.getfield 58, 3) := by decide +kernel
theorem dX7_count_76 : decode cX7_count 76 = .ok (.getfield 131, 3) := by decide +kernel
theorem dX7_count_79 : decode cX7_count 79 = .ok (.ireturn, 1) := by decide +kernel
theorem dX7_count_80 : decode cX7_count 80 = .ok (.aload_n 0, 1) := by decide +kernel
theorem dX7_count_81 : decode cX7_count 81 = .ok (.getfield 58, 3) := by decide +kernel
theorem dX7_count_84 : decode cX7_count 84 = .ok (.getfield 134, 3) := by decide +kernel
theorem dX7_count_87 : decode cX7_count 87 = .ok (.ireturn, 1) := by decide +kernel
theorem dX7_count_88 : decode cX7_count 88 = .ok (.aload_n 0, 1) := by decide +kernel
theorem dX7_count_89 : decode cX7_count 89 = .ok (.getfield 54, 3) := by decide +kernel
theorem dX7_count_92 : decode cX7_count 92 = .ok (.getfield 225, 3) := by decide +kernel
theorem dX7_count_95 : decode cX7_count 95 = .ok (.ireturn, 1) := by decide +kernel
theorem dX7_count_96 : decode cX7_count 96 = .ok (.aload_n 0, 1) := by decide +kernel
theorem dX7_count_97 : decode cX7_count 97 = .ok (.getfield 54, 3) := by decide +kernel
theorem dX7_count_100 : decode cX7_count 100 = .ok (.getfield 208, 3) := by decide +kernel
theorem dX7_count_103 : decode cX7_count 103 = .ok (.ireturn, 1) := by decide +kernel
theorem dX7_count_104 : decode cX7_count 104 = .ok (.aload_n 0, 1) := by decide +kernel
theorem dX7_count_105 : decode cX7_count 105 = .ok (.getfield 54, 3) := by decide +kernel
theorem dX7_count_108 : decode cX7_count 108 = .ok (.getfield 211, 3) := by decide +kernel
theorem dX7_count_111 : decode cX7_count 111 = .ok (.ireturn, 1) := by decide +kernel
theorem dX7_count_112 : decode cX7_count 112 = .ok (.aload_n 0, 1) := by decide +kernel
theorem dX7_count_113 : decode cX7_count 113 = .ok (.getfield 54, 3) := by decide +kernel
theorem dX7_count_116 : decode cX7_count 116 = .ok (.getfield 280, 3) := by decide +kernel
theorem dX7_count_119 : decode cX7_count 119 = .ok (.ireturn, 1) := by decide +kernel
theorem dX7_count_120 : decode cX7_count 120 = .ok (.aload_n 0, 1) := by decide +kernel
theorem dX7_count_121 : decode cX7_count 121 = .ok (.getfield 19, 3) := by decide +kernel
theorem dX7_count_124 : decode cX7_count 124 = .ok (.getfield 103, 3) := by decide +kernel
theorem dX7_count_127 : decode cX7_count 127 = .ok (.ireturn, 1) := by decide +kernel
theorem dX7_count_128 : decode cX7_count 128 = .ok (.aload_n 0, 1) := by decide +kernel
theorem dX7_count_129 : decode cX7_count 129 = .ok (.getfield 10, 3) := by decide +kernel
theorem dX7_count_132 : decode cX7_count 132 = .ok (.getfield 87, 3) := by decide +kernel
theorem dX7_count_135 : decode cX7_count 135 = .ok (.ireturn, 1) := by decide +kernel
theorem dX7_count_136 : decode cX7_count 136 = .ok (.iconst (-1), 1) := by decide +kernel
theorem dX7_count_137 : decode cX7_count 137 = .ok (.ireturn, 1) := by decide +kernel
theorem dX7_isCell_0 : decode cX7_isCell 0 = .ok (.iload_n 1, 1) := by decide +kernel
theorem dX7_isCell_1 : decode cX7_isCell 1 = .ok (.ifCond .lt 18, 3) := by decide +kernel
theorem dX7_isCell_4 : decode cX7_isCell 4 = .ok (.iload_n 1, 1) := by decide +kernel
theorem dX7_isCell_5 : decode cX7_isCell 5 = .ok (.aload_n 0, 1) := by decide +kernel
theorem dX7_isCell_6 : decode cX7_isCell 6 = .ok (.getfield 54, 3) := by decide +kernel
theorem dX7_isCell_9 : decode cX7_isCell 9 = .ok (.getfield 94, 3) := by decide +kernel
theorem dX7_isCell_12 : decode cX7_isCell 12 = .ok (.if_icmp .ge 7, 3) := by decide +kernel
theorem dX7_isCell_15 : decode cX7_isCell 15 = .ok (.iconst 1, 1) := by decide +kernel
theorem dX7_isCell_16 : decode cX7_isCell 16 = .ok (.goto 4, 3) := by decide +kernel
theorem dX7_isCell_19 : decode cX7_isCell 19 = .ok (.iconst 0, 1) := by decide +kernel
theorem dX7_isCell_20 : decode cX7_isCell 20 = .ok (.ireturn, 1) := by decide +kernel
theorem dX7_isPart_0 : decode cX7_isPart 0 = .ok (.iload_n 0, 1) := by decide +kernel
theorem dX7_isPart_1 : decode cX7_isPart 1 = .ok (.ifCond .eq 8, 3) := by decide +kernel
theorem dX7_isPart_4 : decode cX7_isPart 4 = .ok (.iload_n 0, 1) := by decide +kernel
theorem dX7_isPart_5 : decode cX7_isPart 5 = .ok (.iconst 1, 1) := by decide +kernel
theorem dX7_isPart_6 : decode cX7_isPart 6 = .ok (.if_icmp .ne 7, 3) := by decide +kernel
theorem dX7_isPart_9 : decode cX7_isPart 9 = .ok (.iconst 1, 1) := by decide +kernel
theorem dX7_isPart_10 : decode cX7_isPart 10 = .ok (.goto 4, 3) := by decide +kernel
theorem dX7_isPart_13 : decode cX7_isPart 13 = .ok (.iconst 0, 1) := by decide +kernel
theorem dX7_isPart_14 : decode cX7_isPart 14 = .ok (.ireturn, 1) := by decide +kernel
theorem dX7_isLaw_0 : decode cX7_isLaw 0 = .ok (.iload_n 0, 1) := by decide +kernel
theorem dX7_isLaw_1 : decode cX7_isLaw 1 = .ok (.ifCond .ne 13, 3) := by decide +kernel
theorem dX7_isLaw_4 : decode cX7_isLaw 4 = .ok (.iload_n 1, 1) := by decide +kernel
theorem dX7_isLaw_5 : decode cX7_isLaw 5 = .ok (.ifCond .ne 7, 3) := by decide +kernel
theorem dX7_isLaw_8 : decode cX7_isLaw 8 = .ok (.iconst 1, 1) := by decide +kernel
theorem dX7_isLaw_9 : decode cX7_isLaw 9 = .ok (.goto 4, 3) := by decide +kernel
theorem dX7_isLaw_12 : decode cX7_isLaw 12 = .ok (.iconst 0, 1) := by decide +kernel
theorem dX7_isLaw_13 : decode cX7_isLaw 13 = .ok (.ireturn, 1) := by decide +kernel
theorem dX7_isLaw_14 : decode cX7_isLaw 14 = .ok (.iload_n 0, 1) := by decide +kernel
theorem dX7_isLaw_15 : decode cX7_isLaw 15 = .ok (.iconst 1, 1) := by decide +kernel
theorem dX7_isLaw_16 : decode cX7_isLaw 16 = .ok (.if_icmp .lt 23, 3) := by decide +kernel
theorem dX7_isLaw_19 : decode cX7_isLaw 19 = .ok (.iload_n 0, 1) := by decide +kernel
theorem dX7_isLaw_20 : decode cX7_isLaw 20 = .ok (.iconst 3, 1) := by decide +kernel
theorem dX7_isLaw_21 : decode cX7_isLaw 21 = .ok (.if_icmp .gt 18, 3) := by decide +kernel
theorem dX7_isLaw_24 : decode cX7_isLaw 24 = .ok (.iload_n 1, 1) := by decide +kernel
theorem dX7_isLaw_25 : decode cX7_isLaw 25 = .ok (.iconst 1, 1) := by decide +kernel
theorem dX7_isLaw_26 : decode cX7_isLaw 26 = .ok (.if_icmp .lt 13, 3) := by decide +kernel
theorem dX7_isLaw_29 : decode cX7_isLaw 29 = .ok (.iload_n 1, 1) := by decide +kernel
theorem dX7_isLaw_30 : decode cX7_isLaw 30 = .ok (.bipush 9, 2) := by decide +kernel
theorem dX7_isLaw_32 : decode cX7_isLaw 32 = .ok (.if_icmp .gt 7, 3) := by decide +kernel
theorem dX7_isLaw_35 : decode cX7_isLaw 35 = .ok (.iconst 1, 1) := by decide +kernel
theorem dX7_isLaw_36 : decode cX7_isLaw 36 = .ok (.goto 4, 3) := by decide +kernel
theorem dX7_isLaw_39 : decode cX7_isLaw 39 = .ok (.iconst 0, 1) := by decide +kernel
theorem dX7_isLaw_40 : decode cX7_isLaw 40 = .ok (.ireturn, 1) := by decide +kernel
theorem dX7_holds_0 : decode cX7_holds 0 = .ok (.iload_n 0, 1) := by decide +kernel
theorem dX7_holds_1 : decode cX7_holds 1 = .ok (.iload_n 1, 1) := by decide +kernel
theorem dX7_holds_2 : decode cX7_holds 2 = .ok (.ishr, 1) := by decide +kernel
theorem dX7_holds_3 : decode cX7_holds 3 = .ok (.iconst 1, 1) := by decide +kernel
theorem dX7_holds_4 : decode cX7_holds 4 = .ok (.iand, 1) := by decide +kernel
theorem dX7_holds_5 : decode cX7_holds 5 = .ok (.ifCond .eq 7, 3) := by decide +kernel
theorem dX7_holds_8 : decode cX7_holds 8 = .ok (.iconst 1, 1) := by decide +kernel
theorem dX7_holds_9 : decode cX7_holds 9 = .ok (.goto 4, 3) := by decide +kernel
theorem dX7_holds_12 : decode cX7_holds 12 = .ok (.iconst 0, 1) := by decide +kernel
theorem dX7_holds_13 : decode cX7_holds 13 = .ok (.ireturn, 1) := by decide +kernel
theorem dX7_sameArea_0 : decode cX7_sameArea 0 = .ok (.iconst 0, 1) := by decide +kernel
theorem dX7_sameArea_1 : decode cX7_sameArea 1 = .ok (.istore_n 3, 1) := by decide +kernel
theorem dX7_sameArea_2 : decode cX7_sameArea 2 = .ok (.iconst 0, 1) := by decide +kernel
theorem dX7_sameArea_3 : decode cX7_sameArea 3 = .ok (.istore 4, 2) := by decide +kernel
theorem dX7_sameArea_5 : decode cX7_sameArea 5 = .ok (.iload 4, 2) := by decide +kernel
theorem dX7_sameArea_7 : decode cX7_sameArea 7 = .ok (.iload_n 0, 1) := by decide +kernel
theorem dX7_sameArea_8 : decode cX7_sameArea 8 = .ok (.if_icmp .ge 22, 3) := by decide +kernel
theorem dX7_sameArea_11 : decode cX7_sameArea 11 = .ok (.aload_n 1, 1) := by decide +kernel
theorem dX7_sameArea_12 : decode cX7_sameArea 12 = .ok (.iload 4, 2) := by decide +kernel
theorem dX7_sameArea_14 : decode cX7_sameArea 14 = .ok (.iaload, 1) := by decide +kernel
theorem dX7_sameArea_15 : decode cX7_sameArea 15 = .ok (.aload_n 1, 1) := by decide +kernel
theorem dX7_sameArea_16 : decode cX7_sameArea 16 = .ok (.iload_n 2, 1) := by decide +kernel
theorem dX7_sameArea_17 : decode cX7_sameArea 17 = .ok (.iaload, 1) := by decide +kernel
theorem dX7_sameArea_18 : decode cX7_sameArea 18 = .ok (.if_icmp .ne 6, 3) := by decide +kernel
theorem dX7_sameArea_21 : decode cX7_sameArea 21 = .ok (.iinc 3 1, 3) := by decide +kernel
theorem dX7_sameArea_24 : decode cX7_sameArea 24 = .ok (.iinc 4 1, 3) := by decide +kernel
theorem dX7_sameArea_27 : decode cX7_sameArea 27 = .ok (.goto (-22), 3) := by decide +kernel
theorem dX7_sameArea_30 : decode cX7_sameArea 30 = .ok (.iload_n 3, 1) := by decide +kernel
theorem dX7_sameArea_31 : decode cX7_sameArea 31 = .ok (.ireturn, 1) := by decide +kernel
theorem dX7_draw_0 : decode cX7_draw 0 = .ok (.ldc2_w 283, 3) := by decide +kernel
theorem dX7_draw_3 : decode cX7_draw 3 = .ok (.iload_n 0, 1) := by decide +kernel
theorem dX7_draw_4 : decode cX7_draw 4 = .ok (.i2l, 1) := by decide +kernel
theorem dX7_draw_5 : decode cX7_draw 5 = .ok (.lmul, 1) := by decide +kernel
theorem dX7_draw_6 : decode cX7_draw 6 = .ok (.ldc2_w 285, 3) := by decide +kernel
theorem dX7_draw_9 : decode cX7_draw 9 = .ok (.iload_n 1, 1) := by decide +kernel
theorem dX7_draw_10 : decode cX7_draw 10 = .ok (.i2l, 1) := by decide +kernel
theorem dX7_draw_11 : decode cX7_draw 11 = .ok (.lmul, 1) := by decide +kernel
theorem dX7_draw_12 : decode cX7_draw 12 = .ok (.ladd, 1) := by decide +kernel
theorem dX7_draw_13 : decode cX7_draw 13 = .ok (.lconst 1, 1) := by decide +kernel
theorem dX7_draw_14 : decode cX7_draw 14 = .ok (.ladd, 1) := by decide +kernel
theorem dX7_draw_15 : decode cX7_draw 15 = .ok (.lstore_n 2, 1) := by decide +kernel
theorem dX7_draw_16 : decode cX7_draw 16 = .ok (.lload_n 2, 1) := by decide +kernel
theorem dX7_draw_17 : decode cX7_draw 17 = .ok (.lload_n 2, 1) := by decide +kernel
theorem dX7_draw_18 : decode cX7_draw 18 = .ok (.lmul, 1) := by decide +kernel
theorem dX7_draw_19 : decode cX7_draw 19 = .ok (.ldc2_w 287, 3) := by decide +kernel
theorem dX7_draw_22 : decode cX7_draw 22 = .ok (.lrem, 1) := by decide +kernel
theorem dX7_draw_23 : decode cX7_draw 23 = .ok (.l2i, 1) := by decide +kernel
theorem dX7_draw_24 : decode cX7_draw 24 = .ok (.ireturn, 1) := by decide +kernel
set_option maxRecDepth 20000 in
theorem ggX7_lowest_X7_greatestShared : GoodIn wsX7_lowest wsX7_greatestShared := goodIn_r _ [4] (by decide +kernel) (by decide +kernel)
set_option maxRecDepth 20000 in
theorem gX7_lowest_X7_greatestShared : GoodIn wsX7_lowest (va_wsS RX7 289 yX7_greatestShared wsX7_greatestShared) := goodIn_app (goodIn_of _ (by decide +kernel)) ggX7_lowest_X7_greatestShared
theorem dX7_lowest_0 : decode cX7_lowest 0 = .ok (.lload_n 0, 1) := by decide +kernel
theorem dX7_lowest_1 : decode cX7_lowest 1 = .ok (.lload_n 2, 1) := by decide +kernel
theorem dX7_lowest_2 : decode cX7_lowest 2 = .ok (.invokestatic 289, 3) := by decide +kernel
theorem dX7_lowest_5 : decode cX7_lowest 5 = .ok (.lstore 5, 2) := by decide +kernel
theorem dX7_lowest_7 : decode cX7_lowest 7 = .ok (.lload 5, 2) := by decide +kernel
theorem dX7_lowest_9 : decode cX7_lowest 9 = .ok (.lconst 0, 1) := by decide +kernel
theorem dX7_lowest_10 : decode cX7_lowest 10 = .ok (.lcmp, 1) := by decide +kernel
theorem dX7_lowest_11 : decode cX7_lowest 11 = .ok (.ifCond .ne 7, 3) := by decide +kernel
theorem dX7_lowest_14 : decode cX7_lowest 14 = .ok (.iload 4, 2) := by decide +kernel
theorem dX7_lowest_16 : decode cX7_lowest 16 = .ok (.i2l, 1) := by decide +kernel
theorem dX7_lowest_17 : decode cX7_lowest 17 = .ok (.lreturn, 1) := by decide +kernel
theorem dX7_lowest_18 : decode cX7_lowest 18 = .ok (.iload 4, 2) := by decide +kernel
theorem dX7_lowest_20 : decode cX7_lowest 20 = .ok (.ifCond .ne 7, 3) := by decide +kernel
theorem dX7_lowest_23 : decode cX7_lowest 23 = .ok (.lload_n 0, 1) := by decide +kernel
theorem dX7_lowest_24 : decode cX7_lowest 24 = .ok (.goto 4, 3) := by decide +kernel
theorem dX7_lowest_27 : decode cX7_lowest 27 = .ok (.lload_n 2, 1) := by decide +kernel
theorem dX7_lowest_28 : decode cX7_lowest 28 = .ok (.lload 5, 2) := by decide +kernel
theorem dX7_lowest_30 : decode cX7_lowest 30 = .ok (.ldiv, 1) := by decide +kernel
theorem dX7_lowest_31 : decode cX7_lowest 31 = .ok (.lreturn, 1) := by decide +kernel
theorem dX7_greatestShared_0 : decode cX7_greatestShared 0 = .ok (.iconst 0, 1) := by decide +kernel
theorem dX7_greatestShared_1 : decode cX7_greatestShared 1 = .ok (.istore 4, 2) := by decide +kernel
theorem dX7_greatestShared_3 : decode cX7_greatestShared 3 = .ok (.iload 4, 2) := by decide +kernel
theorem dX7_greatestShared_5 : decode cX7_greatestShared 5 = .ok (.sipush 200, 3) := by decide +kernel
theorem dX7_greatestShared_8 : decode cX7_greatestShared 8 = .ok (.if_icmp .ge 25, 3) := by decide +kernel
theorem dX7_greatestShared_11 : decode cX7_greatestShared 11 = .ok (.lload_n 2, 1) := by decide +kernel
theorem dX7_greatestShared_12 : decode cX7_greatestShared 12 = .ok (.lconst 0, 1) := by decide +kernel
theorem dX7_greatestShared_13 : decode cX7_greatestShared 13 = .ok (.lcmp, 1) := by decide +kernel
theorem dX7_greatestShared_14 : decode cX7_greatestShared 14 = .ok (.ifCond .eq 19, 3) := by decide +kernel
theorem dX7_greatestShared_17 : decode cX7_greatestShared 17 = .ok (.lload_n 0, 1) := by decide +kernel
theorem dX7_greatestShared_18 : decode cX7_greatestShared 18 = .ok (.lload_n 2, 1) := by decide +kernel
theorem dX7_greatestShared_19 : decode cX7_greatestShared 19 = .ok (.lrem, 1) := by decide +kernel
theorem dX7_greatestShared_20 : decode cX7_greatestShared 20 = .ok (.lstore 5, 2) := by decide +kernel
theorem dX7_greatestShared_22 : decode cX7_greatestShared 22 = .ok (.lload_n 2, 1) := by decide +kernel
theorem dX7_greatestShared_23 : decode cX7_greatestShared 23 = .ok (.lstore_n 0, 1) := by decide +kernel
theorem dX7_greatestShared_24 : decode cX7_greatestShared 24 = .ok (.lload 5, 2) := by decide +kernel
theorem dX7_greatestShared_26 : decode cX7_greatestShared 26 = .ok (.lstore_n 2, 1) := by decide +kernel
theorem dX7_greatestShared_27 : decode cX7_greatestShared 27 = .ok (.iinc 4 1, 3) := by decide +kernel
theorem dX7_greatestShared_30 : decode cX7_greatestShared 30 = .ok (.goto (-27), 3) := by decide +kernel
theorem dX7_greatestShared_33 : decode cX7_greatestShared 33 = .ok (.lload_n 0, 1) := by decide +kernel
theorem dX7_greatestShared_34 : decode cX7_greatestShared 34 = .ok (.lreturn, 1) := by decide +kernel
set_option maxRecDepth 20000 in
theorem ggX8_init_X8_clears : GoodIn wsX8_init wsX8_clears := goodIn_r _ [27, 22, 28, 10, 12, 11, 40, 41, 42, 43, 44, 45, 46, 47, 48, 49, 50, 51, 52, 53, 54, 55, 56, 57, 58, 59, 60, 61, 62, 63, 64, 65] (by decide +kernel) (by decide +kernel)
set_option maxRecDepth 20000 in
theorem gX8_init_X8_clears : GoodIn wsX8_init (wsV RX8 59 RX8 yX8_clears wsX8_clears) := goodIn_app (goodIn_of _ (by decide +kernel)) ggX8_init_X8_clears
set_option maxRecDepth 20000 in
theorem ggX8_init_X8_joinOf : GoodIn wsX8_init wsX8_joinOf := goodIn_r _ [32, 10, 28, 40, 41, 42, 43, 44, 45, 46, 47, 48, 49, 50, 51, 52, 53, 54, 55, 56, 57, 58, 59, 60, 61, 62, 63, 64, 65] (by decide +kernel) (by decide +kernel)
set_option maxRecDepth 20000 in
theorem gX8_init_X8_joinOf : GoodIn wsX8_init (wsV RX8 66 RX8 yX8_joinOf wsX8_joinOf) := goodIn_app (goodIn_of _ (by decide +kernel)) ggX8_init_X8_joinOf
set_option maxRecDepth 20000 in
theorem ggX8_init_X8_takes : GoodIn wsX8_init wsX8_takes := goodIn_r _ [36, 22, 37, 28, 38, 6, 10, 8, 12, 7, 11, 39, 40, 41, 42, 43, 44, 45, 46, 47, 48, 49, 50, 51, 52, 53, 54, 55, 56, 57, 58, 59, 60, 61, 62, 63, 64, 65] (by decide +kernel) (by decide +kernel)
set_option maxRecDepth 20000 in
theorem gX8_init_X8_takes : GoodIn wsX8_init (wsV RX8 70 RX8 yX8_takes wsX8_takes) := goodIn_app (goodIn_of _ (by decide +kernel)) ggX8_init_X8_takes
theorem dX8_init_0 : decode cX8_init 0 = .ok (.aload_n 0, 1) := by decide +kernel
theorem dX8_init_1 : decode cX8_init 1 = .ok (.invokespecial 1, 3) := by decide +kernel
theorem dX8_init_4 : decode cX8_init 4 = .ok (.aload_n 0, 1) := by decide +kernel
theorem dX8_init_5 : decode cX8_init 5 = .ok (.sipush 200, 3) := by decide +kernel
theorem dX8_init_8 : decode cX8_init 8 = .ok (.newarray .int, 2) := by decide +kernel
theorem dX8_init_10 : decode cX8_init 10 = .ok (.putfield 7, 3) := by decide +kernel
theorem dX8_init_13 : decode cX8_init 13 = .ok (.aload_n 0, 1) := by decide +kernel
theorem dX8_init_14 : decode cX8_init 14 = .ok (.bipush 36, 2) := by decide +kernel
theorem dX8_init_16 : decode cX8_init 16 = .ok (.newarray .int, 2) := by decide +kernel
theorem dX8_init_18 : decode cX8_init 18 = .ok (.putfield 13, 3) := by decide +kernel
theorem dX8_init_21 : decode cX8_init 21 = .ok (.aload_n 0, 1) := by decide +kernel
theorem dX8_init_22 : decode cX8_init 22 = .ok (.iconst 4, 1) := by decide +kernel
theorem dX8_init_23 : decode cX8_init 23 = .ok (.newarray .int, 2) := by decide +kernel
theorem dX8_init_25 : decode cX8_init 25 = .ok (.putfield 16, 3) := by decide +kernel
theorem dX8_init_28 : decode cX8_init 28 = .ok (.aload_n 0, 1) := by decide +kernel
theorem dX8_init_29 : decode cX8_init 29 = .ok (.bipush 20, 2) := by decide +kernel
theorem dX8_init_31 : decode cX8_init 31 = .ok (.newarray .int, 2) := by decide +kernel
theorem dX8_init_33 : decode cX8_init 33 = .ok (.putfield 19, 3) := by decide +kernel
theorem dX8_init_36 : decode cX8_init 36 = .ok (.aload_n 0, 1) := by decide +kernel
theorem dX8_init_37 : decode cX8_init 37 = .ok (.bipush 120, 2) := by decide +kernel
theorem dX8_init_39 : decode cX8_init 39 = .ok (.newarray .int, 2) := by decide +kernel
theorem dX8_init_41 : decode cX8_init 41 = .ok (.putfield 22, 3) := by decide +kernel
theorem dX8_init_44 : decode cX8_init 44 = .ok (.aload_n 0, 1) := by decide +kernel
theorem dX8_init_45 : decode cX8_init 45 = .ok (.bipush 36, 2) := by decide +kernel
theorem dX8_init_47 : decode cX8_init 47 = .ok (.newarray .int, 2) := by decide +kernel
theorem dX8_init_49 : decode cX8_init 49 = .ok (.putfield 25, 3) := by decide +kernel
theorem dX8_init_52 : decode cX8_init 52 = .ok (.aload_n 0, 1) := by decide +kernel
theorem dX8_init_53 : decode cX8_init 53 = .ok (.iconst 4, 1) := by decide +kernel
theorem dX8_init_54 : decode cX8_init 54 = .ok (.newarray .int, 2) := by decide +kernel
theorem dX8_init_56 : decode cX8_init 56 = .ok (.putfield 28, 3) := by decide +kernel
theorem dX8_init_59 : decode cX8_init 59 = .ok (.aload_n 0, 1) := by decide +kernel
theorem dX8_init_60 : decode cX8_init 60 = .ok (.bipush 20, 2) := by decide +kernel
theorem dX8_init_62 : decode cX8_init 62 = .ok (.newarray .int, 2) := by decide +kernel
theorem dX8_init_64 : decode cX8_init 64 = .ok (.putfield 31, 3) := by decide +kernel
theorem dX8_init_67 : decode cX8_init 67 = .ok (.aload_n 0, 1) := by decide +kernel
theorem dX8_init_68 : decode cX8_init 68 = .ok (.bipush 10, 2) := by decide +kernel
theorem dX8_init_70 : decode cX8_init 70 = .ok (.newarray .int, 2) := by decide +kernel
theorem dX8_init_72 : decode cX8_init 72 = .ok (.putfield 34, 3) := by decide +kernel
theorem dX8_init_75 : decode cX8_init 75 = .ok (.aload_n 0, 1) := by decide +kernel
theorem dX8_init_76 : decode cX8_init 76 = .ok (.bipush 10, 2) := by decide +kernel
theorem dX8_init_78 : decode cX8_init 78 = .ok (.newarray .int, 2) := by decide +kernel
theorem dX8_init_80 : decode cX8_init 80 = .ok (.putfield 37, 3) := by decide +kernel
theorem dX8_init_83 : decode cX8_init 83 = .ok (.aload_n 0, 1) := by decide +kernel
theorem dX8_init_84 : decode cX8_init 84 = .ok (.bipush 6, 2) := by decide +kernel
theorem dX8_init_86 : decode cX8_init 86 = .ok (.newarray .long, 2) := by decide +kernel
theorem dX8_init_88 : decode cX8_init 88 = .ok (.putfield 40, 3) := by decide +kernel
theorem dX8_init_91 : decode cX8_init 91 = .ok (.aload_n 0, 1) := by decide +kernel
theorem dX8_init_92 : decode cX8_init 92 = .ok (.bipush 25, 2) := by decide +kernel
theorem dX8_init_94 : decode cX8_init 94 = .ok (.newarray .long, 2) := by decide +kernel
theorem dX8_init_96 : decode cX8_init 96 = .ok (.putfield 44, 3) := by decide +kernel
theorem dX8_init_99 : decode cX8_init 99 = .ok (.aload_n 0, 1) := by decide +kernel
theorem dX8_init_100 : decode cX8_init 100 = .ok (.bipush 6, 2) := by decide +kernel
theorem dX8_init_102 : decode cX8_init 102 = .ok (.newarray .int, 2) := by decide +kernel
theorem dX8_init_104 : decode cX8_init 104 = .ok (.putfield 47, 3) := by decide +kernel
theorem dX8_init_107 : decode cX8_init 107 = .ok (.aload_n 0, 1) := by decide +kernel
theorem dX8_init_108 : decode cX8_init 108 = .ok (.bipush 6, 2) := by decide +kernel
theorem dX8_init_110 : decode cX8_init 110 = .ok (.newarray .int, 2) := by decide +kernel
theorem dX8_init_112 : decode cX8_init 112 = .ok (.putfield 50, 3) := by decide +kernel
theorem dX8_init_115 : decode cX8_init 115 = .ok (.aload_n 0, 1) := by decide +kernel
theorem dX8_init_116 : decode cX8_init 116 = .ok (.bipush 6, 2) := by decide +kernel
theorem dX8_init_118 : decode cX8_init 118 = .ok (.newarray .int, 2) := by decide +kernel
theorem dX8_init_120 : decode cX8_init 120 = .ok (.putfield 53, 3) := by decide +kernel
theorem dX8_init_123 : decode cX8_init 123 = .ok (.aload_n 0, 1) := by decide +kernel
theorem dX8_init_124 : decode cX8_init 124 = .ok (.bipush 20, 2) := by decide +kernel
theorem dX8_init_126 : decode cX8_init 126 = .ok (.newarray .int, 2) := by decide +kernel
theorem dX8_init_128 : decode cX8_init 128 = .ok (.putfield 56, 3) := by decide +kernel
theorem dX8_init_131 : decode cX8_init 131 = .ok (.aload_n 0, 1) := by decide +kernel
theorem dX8_init_132 : decode cX8_init 132 = .ok (.invokevirtual 59, 3) := by decide +kernel
theorem dX8_init_135 : decode cX8_init 135 = .ok (.aload_n 0, 1) := by decide +kernel
theorem dX8_init_136 : decode cX8_init 136 = .ok (.bipush 6, 2) := by decide +kernel
theorem dX8_init_138 : decode cX8_init 138 = .ok (.putfield 62, 3) := by decide +kernel
theorem dX8_init_141 : decode cX8_init 141 = .ok (.aload_n 0, 1) := by decide +kernel
theorem dX8_init_142 : decode cX8_init 142 = .ok (.iconst 0, 1) := by decide +kernel
theorem dX8_init_143 : decode cX8_init 143 = .ok (.iconst 1, 1) := by decide +kernel
theorem dX8_init_144 : decode cX8_init 144 = .ok (.iconst 2, 1) := by decide +kernel
theorem dX8_init_145 : decode cX8_init 145 = .ok (.iconst 1, 1) := by decide +kernel
theorem dX8_init_146 : decode cX8_init 146 = .ok (.invokevirtual 66, 3) := by decide +kernel
theorem dX8_init_149 : decode cX8_init 149 = .ok (.aload_n 0, 1) := by decide +kernel
theorem dX8_init_150 : decode cX8_init 150 = .ok (.iconst 1, 1) := by decide +kernel
theorem dX8_init_151 : decode cX8_init 151 = .ok (.iconst 2, 1) := by decide +kernel
theorem dX8_init_152 : decode cX8_init 152 = .ok (.iconst 1, 1) := by decide +kernel
theorem dX8_init_153 : decode cX8_init 153 = .ok (.iconst 1, 1) := by decide +kernel
theorem dX8_init_154 : decode cX8_init 154 = .ok (.invokevirtual 66, 3) := by decide +kernel
theorem dX8_init_157 : decode cX8_init 157 = .ok (.aload_n 0, 1) := by decide +kernel
theorem dX8_init_158 : decode cX8_init 158 = .ok (.iconst 2, 1) := by decide +kernel
theorem dX8_init_159 : decode cX8_init 159 = .ok (.iconst 3, 1) := by decide +kernel
theorem dX8_init_160 : decode cX8_init 160 = .ok (.iconst 3, 1) := by decide +kernel
theorem dX8_init_161 : decode cX8_init 161 = .ok (.iconst 1, 1) := by decide +kernel
theorem dX8_init_162 : decode cX8_init 162 = .ok (.invokevirtual 66, 3) := by decide +kernel
theorem dX8_init_165 : decode cX8_init 165 = .ok (.aload_n 0, 1) := by decide +kernel
theorem dX8_init_166 : decode cX8_init 166 = .ok (.iconst 3, 1) := by decide +kernel
theorem dX8_init_167 : decode cX8_init 167 = .ok (.iconst 4, 1) := by decide +kernel
theorem dX8_init_168 : decode cX8_init 168 = .ok (.iconst 1, 1) := by decide +kernel
theorem dX8_init_169 : decode cX8_init 169 = .ok (.iconst 2, 1) := by decide +kernel
theorem dX8_init_170 : decode cX8_init 170 = .ok (.invokevirtual 66, 3) := by decide +kernel
theorem dX8_init_173 : decode cX8_init 173 = .ok (.aload_n 0, 1) := by decide +kernel
theorem dX8_init_174 : decode cX8_init 174 = .ok (.iconst 4, 1) := by decide +kernel
theorem dX8_init_175 : decode cX8_init 175 = .ok (.iconst 5, 1) := by decide +kernel
theorem dX8_init_176 : decode cX8_init 176 = .ok (.iconst 1, 1) := by decide +kernel
theorem dX8_init_177 : decode cX8_init 177 = .ok (.iconst 1, 1) := by decide +kernel
theorem dX8_init_178 : decode cX8_init 178 = .ok (.invokevirtual 66, 3) := by decide +kernel
theorem dX8_init_181 : decode cX8_init 181 = .ok (.aload_n 0, 1) := by decide +kernel
theorem dX8_init_182 : decode cX8_init 182 = .ok (.iconst 5, 1) := by decide +kernel
theorem dX8_init_183 : decode cX8_init 183 = .ok (.iconst 0, 1) := by decide +kernel
theorem dX8_init_184 : decode cX8_init 184 = .ok (.iconst 2, 1) := by decide +kernel
theorem dX8_init_185 : decode cX8_init 185 = .ok (.iconst 2, 1) := by decide +kernel
theorem dX8_init_186 : decode cX8_init 186 = .ok (.invokevirtual 66, 3) := by decide +kernel
theorem dX8_init_189 : decode cX8_init 189 = .ok (.aload_n 0, 1) := by decide +kernel
theorem dX8_init_190 : decode cX8_init 190 = .ok (.iconst 1, 1) := by decide +kernel
theorem dX8_init_191 : decode cX8_init 191 = .ok (.iconst 4, 1) := by decide +kernel
theorem dX8_init_192 : decode cX8_init 192 = .ok (.iconst 1, 1) := by decide +kernel
theorem dX8_init_193 : decode cX8_init 193 = .ok (.iconst 1, 1) := by decide +kernel
theorem dX8_init_194 : decode cX8_init 194 = .ok (.invokevirtual 66, 3) := by decide +kernel
theorem dX8_init_197 : decode cX8_init 197 = .ok (.aload_n 0, 1) := by decide +kernel
theorem dX8_init_198 : decode cX8_init 198 = .ok (.getfield 31, 3) := by decide +kernel
theorem dX8_init_201 : decode cX8_init 201 = .ok (.iconst 2, 1) := by decide +kernel
theorem dX8_init_202 : decode cX8_init 202 = .ok (.iconst 4, 1) := by decide +kernel
theorem dX8_init_203 : decode cX8_init 203 = .ok (.iastore, 1) := by decide +kernel
theorem dX8_init_204 : decode cX8_init 204 = .ok (.aload_n 0, 1) := by decide +kernel
theorem dX8_init_205 : decode cX8_init 205 = .ok (.getfield 31, 3) := by decide +kernel
theorem dX8_init_208 : decode cX8_init 208 = .ok (.bipush 9, 2) := by decide +kernel
theorem dX8_init_210 : decode cX8_init 210 = .ok (.iconst 1, 1) := by decide +kernel
theorem dX8_init_211 : decode cX8_init 211 = .ok (.iastore, 1) := by decide +kernel
theorem dX8_init_212 : decode cX8_init 212 = .ok (.aload_n 0, 1) := by decide +kernel
theorem dX8_init_213 : decode cX8_init 213 = .ok (.getfield 31, 3) := by decide +kernel
theorem dX8_init_216 : decode cX8_init 216 = .ok (.bipush 10, 2) := by decide +kernel
theorem dX8_init_218 : decode cX8_init 218 = .ok (.iconst 1, 1) := by decide +kernel
theorem dX8_init_219 : decode cX8_init 219 = .ok (.iastore, 1) := by decide +kernel
theorem dX8_init_220 : decode cX8_init 220 = .ok (.aload_n 0, 1) := by decide +kernel
theorem dX8_init_221 : decode cX8_init 221 = .ok (.getfield 31, 3) := by decide +kernel
theorem dX8_init_224 : decode cX8_init 224 = .ok (.bipush 11, 2) := by decide +kernel
theorem dX8_init_226 : decode cX8_init 226 = .ok (.iconst 1, 1) := by decide +kernel
theorem dX8_init_227 : decode cX8_init 227 = .ok (.iastore, 1) := by decide +kernel
theorem dX8_init_228 : decode cX8_init 228 = .ok (.aload_n 0, 1) := by decide +kernel
theorem dX8_init_229 : decode cX8_init 229 = .ok (.invokevirtual 70, 3) := by decide +kernel
theorem dX8_init_232 : decode cX8_init 232 = .ok (.return_, 1) := by decide +kernel
theorem dX8_joinOf_0 : decode cX8_joinOf 0 = .ok (.aload_n 0, 1) := by decide +kernel
theorem dX8_joinOf_1 : decode cX8_joinOf 1 = .ok (.getfield 25, 3) := by decide +kernel
theorem dX8_joinOf_4 : decode cX8_joinOf 4 = .ok (.bipush 6, 2) := by decide +kernel
theorem dX8_joinOf_6 : decode cX8_joinOf 6 = .ok (.iload_n 1, 1) := by decide +kernel
theorem dX8_joinOf_7 : decode cX8_joinOf 7 = .ok (.imul, 1) := by decide +kernel
theorem dX8_joinOf_8 : decode cX8_joinOf 8 = .ok (.iload_n 2, 1) := by decide +kernel
theorem dX8_joinOf_9 : decode cX8_joinOf 9 = .ok (.iadd, 1) := by decide +kernel
theorem dX8_joinOf_10 : decode cX8_joinOf 10 = .ok (.iload_n 3, 1) := by decide +kernel
theorem dX8_joinOf_11 : decode cX8_joinOf 11 = .ok (.iastore, 1) := by decide +kernel
theorem dX8_joinOf_12 : decode cX8_joinOf 12 = .ok (.aload_n 0, 1) := by decide +kernel
theorem dX8_joinOf_13 : decode cX8_joinOf 13 = .ok (.getfield 25, 3) := by decide +kernel
theorem dX8_joinOf_16 : decode cX8_joinOf 16 = .ok (.bipush 6, 2) := by decide +kernel
theorem dX8_joinOf_18 : decode cX8_joinOf 18 = .ok (.iload_n 2, 1) := by decide +kernel
theorem dX8_joinOf_19 : decode cX8_joinOf 19 = .ok (.imul, 1) := by decide +kernel
theorem dX8_joinOf_20 : decode cX8_joinOf 20 = .ok (.iload_n 1, 1) := by decide +kernel
theorem dX8_joinOf_21 : decode cX8_joinOf 21 = .ok (.iadd, 1) := by decide +kernel
theorem dX8_joinOf_22 : decode cX8_joinOf 22 = .ok (.iload 4, 2) := by decide +kernel
theorem dX8_joinOf_24 : decode cX8_joinOf 24 = .ok (.iastore, 1) := by decide +kernel
theorem dX8_joinOf_25 : decode cX8_joinOf 25 = .ok (.aload_n 0, 1) := by decide +kernel
theorem dX8_joinOf_26 : decode cX8_joinOf 26 = .ok (.dup, 1) := by decide +kernel
theorem dX8_joinOf_27 : decode cX8_joinOf 27 = .ok (.getfield 73, 3) := by decide +kernel
theorem dX8_joinOf_30 : decode cX8_joinOf 30 = .ok (.iconst 1, 1) := by decide +kernel
theorem dX8_joinOf_31 : decode cX8_joinOf 31 = .ok (.iadd, 1) := by decide +kernel
theorem dX8_joinOf_32 : decode cX8_joinOf 32 = .ok (.putfield 73, 3) := by decide +kernel
theorem dX8_joinOf_35 : decode cX8_joinOf 35 = .ok (.return_, 1) := by decide +kernel
theorem dX8_isIn_0 : decode cX8_isIn 0 = .ok (.iload_n 0, 1) := by decide +kernel
theorem dX8_isIn_1 : decode cX8_isIn 1 = .ok (.iload_n 1, 1) := by decide +kernel
theorem dX8_isIn_2 : decode cX8_isIn 2 = .ok (.if_icmp .lt 12, 3) := by decide +kernel
theorem dX8_isIn_5 : decode cX8_isIn 5 = .ok (.iload_n 0, 1) := by decide +kernel
theorem dX8_isIn_6 : decode cX8_isIn 6 = .ok (.iload_n 2, 1) := by decide +kernel
theorem dX8_isIn_7 : decode cX8_isIn 7 = .ok (.if_icmp .gt 7, 3) := by decide +kernel
theorem dX8_isIn_10 : decode cX8_isIn 10 = .ok (.iconst 1, 1) := by decide +kernel
theorem dX8_isIn_11 : decode cX8_isIn 11 = .ok (.goto 4, 3) := by decide +kernel
theorem dX8_isIn_14 : decode cX8_isIn 14 = .ok (.iconst 0, 1) := by decide +kernel
theorem dX8_isIn_15 : decode cX8_isIn 15 = .ok (.ireturn, 1) := by decide +kernel
theorem dX8_clears_0 : decode cX8_clears 0 = .ok (.aload_n 0, 1) := by decide +kernel
theorem dX8_clears_1 : decode cX8_clears 1 = .ok (.iconst 0, 1) := by decide +kernel
theorem dX8_clears_2 : decode cX8_clears 2 = .ok (.putfield 62, 3) := by decide +kernel
theorem dX8_clears_5 : decode cX8_clears 5 = .ok (.aload_n 0, 1) := by decide +kernel
theorem dX8_clears_6 : decode cX8_clears 6 = .ok (.iconst 0, 1) := by decide +kernel
theorem dX8_clears_7 : decode cX8_clears 7 = .ok (.putfield 73, 3) := by decide +kernel
theorem dX8_clears_10 : decode cX8_clears 10 = .ok (.iconst 0, 1) := by decide +kernel
theorem dX8_clears_11 : decode cX8_clears 11 = .ok (.istore_n 1, 1) := by decide +kernel
theorem dX8_clears_12 : decode cX8_clears 12 = .ok (.iload_n 1, 1) := by decide +kernel
theorem dX8_clears_13 : decode cX8_clears 13 = .ok (.bipush 36, 2) := by decide +kernel
theorem dX8_clears_15 : decode cX8_clears 15 = .ok (.if_icmp .ge 16, 3) := by decide +kernel
theorem dX8_clears_18 : decode cX8_clears 18 = .ok (.aload_n 0, 1) := by decide +kernel
theorem dX8_clears_19 : decode cX8_clears 19 = .ok (.getfield 25, 3) := by decide +kernel
theorem dX8_clears_22 : decode cX8_clears 22 = .ok (.iload_n 1, 1) := by decide +kernel
theorem dX8_clears_23 : decode cX8_clears 23 = .ok (.iconst 0, 1) := by decide +kernel
theorem dX8_clears_24 : decode cX8_clears 24 = .ok (.iastore, 1) := by decide +kernel
theorem dX8_clears_25 : decode cX8_clears 25 = .ok (.iinc 1 1, 3) := by decide +kernel
theorem dX8_clears_28 : decode cX8_clears 28 = .ok (.goto (-16), 3) := by decide +kernel
theorem dX8_clears_31 : decode cX8_clears 31 = .ok (.iconst 0, 1) := by decide +kernel
theorem dX8_clears_32 : decode cX8_clears 32 = .ok (.istore_n 1, 1) := by decide +kernel
theorem dX8_clears_33 : decode cX8_clears 33 = .ok (.iload_n 1, 1) := by decide +kernel
theorem dX8_clears_34 : decode cX8_clears 34 = .ok (.bipush 20, 2) := by decide +kernel
theorem dX8_clears_36 : decode cX8_clears 36 = .ok (.if_icmp .ge 26, 3) := by decide +kernel
theorem dX8_clears_39 : decode cX8_clears 39 = .ok (.aload_n 0, 1) := by decide +kernel
theorem dX8_clears_40 : decode cX8_clears 40 = .ok (.getfield 31, 3) := by decide +kernel
theorem dX8_clears_43 : decode cX8_clears 43 = .ok (.iload_n 1, 1) := by decide +kernel
theorem dX8_clears_44 : decode cX8_clears 44 = .ok (.iload_n 1, 1) := by decide +kernel
theorem dX8_clears_45 : decode cX8_clears 45 = .ok (.bipush 6, 2) := by decide +kernel
theorem dX8_clears_47 : decode cX8_clears 47 = .ok (.if_icmp .ge 7, 3) := by decide +kernel
theorem dX8_clears_50 : decode cX8_clears 50 = .ok (.iconst 1, 1) := by decide +kernel
theorem dX8_clears_51 : decode cX8_clears 51 = .ok (.goto 4, 3) := by decide +kernel
theorem dX8_clears_54 : decode cX8_clears 54 = .ok (.iconst 0, 1) := by decide +kernel
theorem dX8_clears_55 : decode cX8_clears 55 = .ok (.iastore, 1) := by decide +kernel
theorem dX8_clears_56 : decode cX8_clears 56 = .ok (.iinc 1 1, 3) := by decide +kernel
theorem dX8_clears_59 : decode cX8_clears 59 = .ok (.goto (-26), 3) := by decide +kernel
theorem dX8_clears_62 : decode cX8_clears 62 = .ok (.aload_n 0, 1) := by decide +kernel
theorem dX8_clears_63 : decode cX8_clears 63 = .ok (.getfield 28, 3) := by decide +kernel
theorem dX8_clears_66 : decode cX8_clears 66 = .ok (.iconst 0, 1) := by decide +kernel
theorem dX8_clears_67 : decode cX8_clears 67 = .ok (.iconst 2, 1) := by decide +kernel
theorem dX8_clears_68 : decode cX8_clears 68 = .ok (.iastore, 1) := by decide +kernel
theorem dX8_clears_69 : decode cX8_clears 69 = .ok (.aload_n 0, 1) := by decide +kernel
theorem dX8_clears_70 : decode cX8_clears 70 = .ok (.getfield 28, 3) := by decide +kernel
theorem dX8_clears_73 : decode cX8_clears 73 = .ok (.iconst 1, 1) := by decide +kernel
theorem dX8_clears_74 : decode cX8_clears 74 = .ok (.iconst 1, 1) := by decide +kernel
theorem dX8_clears_75 : decode cX8_clears 75 = .ok (.iastore, 1) := by decide +kernel
theorem dX8_clears_76 : decode cX8_clears 76 = .ok (.aload_n 0, 1) := by decide +kernel
theorem dX8_clears_77 : decode cX8_clears 77 = .ok (.getfield 28, 3) := by decide +kernel
theorem dX8_clears_80 : decode cX8_clears 80 = .ok (.iconst 2, 1) := by decide +kernel
theorem dX8_clears_81 : decode cX8_clears 81 = .ok (.iconst 5, 1) := by decide +kernel
theorem dX8_clears_82 : decode cX8_clears 82 = .ok (.iastore, 1) := by decide +kernel
theorem dX8_clears_83 : decode cX8_clears 83 = .ok (.aload_n 0, 1) := by decide +kernel
theorem dX8_clears_84 : decode cX8_clears 84 = .ok (.getfield 28, 3) := by decide +kernel
theorem dX8_clears_87 : decode cX8_clears 87 = .ok (.iconst 3, 1) := by decide +kernel
theorem dX8_clears_88 : decode cX8_clears 88 = .ok (.bipush 10, 2) := by decide +kernel
theorem dX8_clears_90 : decode cX8_clears 90 = .ok (.iastore, 1) := by decide +kernel
theorem dX8_clears_91 : decode cX8_clears 91 = .ok (.return_, 1) := by decide +kernel
theorem dX8_takes_0 : decode cX8_takes 0 = .ok (.aload_n 0, 1) := by decide +kernel
theorem dX8_takes_1 : decode cX8_takes 1 = .ok (.aload_n 0, 1) := by decide +kernel
theorem dX8_takes_2 : decode cX8_takes 2 = .ok (.getfield 62, 3) := by decide +kernel
theorem dX8_takes_5 : decode cX8_takes 5 = .ok (.putfield 76, 3) := by decide +kernel
theorem dX8_takes_8 : decode cX8_takes 8 = .ok (.aload_n 0, 1) := by decide +kernel
theorem dX8_takes_9 : decode cX8_takes 9 = .ok (.aload_n 0, 1) := by decide +kernel
theorem dX8_takes_10 : decode cX8_takes 10 = .ok (.getfield 73, 3) := by decide +kernel
theorem dX8_takes_13 : decode cX8_takes 13 = .ok (.putfield 79, 3) := by decide +kernel
theorem dX8_takes_16 : decode cX8_takes 16 = .ok (.iconst 0, 1) := by decide +kernel
theorem dX8_takes_17 : decode cX8_takes 17 = .ok (.istore_n 1, 1) := by decide +kernel
theorem dX8_takes_18 : decode cX8_takes 18 = .ok (.iload_n 1, 1) := by decide +kernel
theorem dX8_takes_19 : decode cX8_takes 19 = .ok (.bipush 36, 2) := by decide +kernel
theorem dX8_takes_21 : decode cX8_takes 21 = .ok (.if_icmp .ge 21, 3) := by decide +kernel
theorem dX8_takes_24 : decode cX8_takes 24 = .ok (.aload_n 0, 1) := by decide +kernel
theorem dX8_takes_25 : decode cX8_takes 25 = .ok (.getfield 13, 3) := by decide +kernel
theorem dX8_takes_28 : decode cX8_takes 28 = .ok (.iload_n 1, 1) := by decide +kernel
theorem dX8_takes_29 : decode cX8_takes 29 = .ok (.aload_n 0, 1) := by decide +kernel
theorem dX8_takes_30 : decode cX8_takes 30 = .ok (.getfield 25, 3) := by decide +kernel
theorem dX8_takes_33 : decode cX8_takes 33 = .ok (.iload_n 1, 1) := by decide +kernel
theorem dX8_takes_34 : decode cX8_takes 34 = .ok (.iaload, 1) := by decide +kernel
theorem dX8_takes_35 : decode cX8_takes 35 = .ok (.iastore, 1) := by decide +kernel
theorem dX8_takes_36 : decode cX8_takes 36 = .ok (.iinc 1 1, 3) := by decide +kernel
theorem dX8_takes_39 : decode cX8_takes 39 = .ok (.goto (-21), 3) := by decide +kernel
theorem dX8_takes_42 : decode cX8_takes 42 = .ok (.iconst 0, 1) := by decide +kernel
theorem dX8_takes_43 : decode cX8_takes 43 = .ok (.istore_n 1, 1) := by decide +kernel
theorem dX8_takes_44 : decode cX8_takes 44 = .ok (.iload_n 1, 1) := by decide +kernel
theorem dX8_takes_45 : decode cX8_takes 45 = .ok (.bipush 20, 2) := by decide +kernel
theorem dX8_takes_47 : decode cX8_takes 47 = .ok (.if_icmp .ge 21, 3) := by decide +kernel
theorem dX8_takes_50 : decode cX8_takes 50 = .ok (.aload_n 0, 1) := by decide +kernel
theorem dX8_takes_51 : decode cX8_takes 51 = .ok (.getfield 19, 3) := by decide +kernel
theorem dX8_takes_54 : decode cX8_takes 54 = .ok (.iload_n 1, 1) := by decide +kernel
theorem dX8_takes_55 : decode cX8_takes 55 = .ok (.aload_n 0, 1) := by decide +kernel
theorem dX8_takes_56 : decode cX8_takes 56 = .ok (.getfield 31, 3) := by decide +kernel
theorem dX8_takes_59 : decode cX8_takes 59 = .ok (.iload_n 1, 1) := by decide +kernel
theorem dX8_takes_60 : decode cX8_takes 60 = .ok (.iaload, 1) := by decide +kernel
theorem dX8_takes_61 : decode cX8_takes 61 = .ok (.iastore, 1) := by decide +kernel
theorem dX8_takes_62 : decode cX8_takes 62 = .ok (.iinc 1 1, 3) := by decide +kernel
theorem dX8_takes_65 : decode cX8_takes 65 = .ok (.goto (-21), 3) := by decide +kernel
theorem dX8_takes_68 : decode cX8_takes 68 = .ok (.iconst 0, 1) := by decide +kernel
theorem dX8_takes_69 : decode cX8_takes 69 = .ok (.istore_n 1, 1) := by decide +kernel
theorem dX8_takes_70 : decode cX8_takes 70 = .ok (.iload_n 1, 1) := by decide +kernel
theorem dX8_takes_71 : decode cX8_takes 71 = .ok (.iconst 4, 1) := by decide +kernel
theorem dX8_takes_72 : decode cX8_takes 72 = .ok (.if_icmp .ge 21, 3) := by decide +kernel
theorem dX8_takes_75 : decode cX8_takes 75 = .ok (.aload_n 0, 1) := by decide +kernel
theorem dX8_takes_76 : decode cX8_takes 76 = .ok (.getfield 16, 3) := by decide +kernel
theorem dX8_takes_79 : decode cX8_takes 79 = .ok (.iload_n 1, 1) := by decide +kernel
theorem dX8_takes_80 : decode cX8_takes 80 = .ok (.aload_n 0, 1) := by decide +kernel
theorem dX8_takes_81 : decode cX8_takes 81 = .ok (.getfield 28, 3) := by decide +kernel
theorem dX8_takes_84 : decode cX8_takes 84 = .ok (.iload_n 1, 1) := by decide +kernel
theorem dX8_takes_85 : decode cX8_takes 85 = .ok (.iaload, 1) := by decide +kernel
theorem dX8_takes_86 : decode cX8_takes 86 = .ok (.iastore, 1) := by decide +kernel
theorem dX8_takes_87 : decode cX8_takes 87 = .ok (.iinc 1 1, 3) := by decide +kernel
theorem dX8_takes_90 : decode cX8_takes 90 = .ok (.goto (-20), 3) := by decide +kernel
theorem dX8_takes_93 : decode cX8_takes 93 = .ok (.aload_n 0, 1) := by decide +kernel
theorem dX8_takes_94 : decode cX8_takes 94 = .ok (.iconst 0, 1) := by decide +kernel
theorem dX8_takes_95 : decode cX8_takes 95 = .ok (.putfield 82, 3) := by decide +kernel
theorem dX8_takes_98 : decode cX8_takes 98 = .ok (.return_, 1) := by decide +kernel
theorem dX8_letterAt_0 : decode cX8_letterAt 0 = .ok (.iload_n 1, 1) := by decide +kernel
theorem dX8_letterAt_1 : decode cX8_letterAt 1 = .ok (.aload_n 0, 1) := by decide +kernel
theorem dX8_letterAt_2 : decode cX8_letterAt 2 = .ok (.getfield 85, 3) := by decide +kernel
theorem dX8_letterAt_5 : decode cX8_letterAt 5 = .ok (.if_icmp .ge 12, 3) := by decide +kernel
theorem dX8_letterAt_8 : decode cX8_letterAt 8 = .ok (.aload_n 0, 1) := by decide +kernel
theorem dX8_letterAt_9 : decode cX8_letterAt 9 = .ok (.getfield 7, 3) := by decide +kernel
theorem dX8_letterAt_12 : decode cX8_letterAt 12 = .ok (.iload_n 1, 1) := by decide +kernel
theorem dX8_letterAt_13 : decode cX8_letterAt 13 = .ok (.iaload, 1) := by decide +kernel
theorem dX8_letterAt_14 : decode cX8_letterAt 14 = .ok (.goto 4, 3) := by decide +kernel
theorem dX8_letterAt_17 : decode cX8_letterAt 17 = .ok (.iconst 0, 1) := by decide +kernel
theorem dX8_letterAt_18 : decode cX8_letterAt 18 = .ok (.ireturn, 1) := by decide +kernel
set_option maxRecDepth 20000 in
theorem ggX8_number_X8_letterAt : GoodIn wsX8_number wsX8_letterAt := goodIn_r _ [8, 9, 3, 13, 14, 15, 16, 17, 18, 19, 20, 21, 22, 23, 24, 25, 26, 27, 28, 29, 30, 31, 32, 33, 34, 35, 36, 37, 38] (by decide +kernel) (by decide +kernel)
set_option maxRecDepth 20000 in
theorem gX8_number_X8_letterAt : GoodIn wsX8_number (wsV RX8 94 RX8 yX8_letterAt wsX8_letterAt) := goodIn_app (goodIn_of _ (by decide +kernel)) ggX8_number_X8_letterAt
set_option maxRecDepth 20000 in
theorem ggX8_number_X8_isIn : GoodIn wsX8_number wsX8_isIn := goodIn_r _ [12] (by decide +kernel) (by decide +kernel)
set_option maxRecDepth 20000 in
theorem gX8_number_X8_isIn : GoodIn wsX8_number (va_wsS RX8 98 yX8_isIn wsX8_isIn) := goodIn_app (goodIn_of _ (by decide +kernel)) ggX8_number_X8_isIn
theorem dX8_number_0 : decode cX8_number 0 = .ok (.aload_n 0, 1) := by decide +kernel
theorem dX8_number_1 : decode cX8_number 1 = .ok (.iconst 0, 1) := by decide +kernel
theorem dX8_number_2 : decode cX8_number 2 = .ok (.putfield 88, 3) := by decide +kernel
theorem dX8_number_5 : decode cX8_number 5 = .ok (.aload_n 0, 1) := by decide +kernel
theorem dX8_number_6 : decode cX8_number 6 = .ok (.iload_n 1, 1) := by decide +kernel
theorem dX8_number_7 : decode cX8_number 7 = .ok (.putfield 91, 3) := by decide +kernel
theorem dX8_number_10 : decode cX8_number 10 = .ok (.aload_n 0, 1) := by decide +kernel
theorem dX8_number_11 : decode cX8_number 11 = .ok (.getfield 91, 3) := by decide +kernel
theorem dX8_number_14 : decode cX8_number 14 = .ok (.iload_n 1, 1) := by decide +kernel
theorem dX8_number_15 : decode cX8_number 15 = .ok (.iconst 2, 1) := by decide +kernel
theorem dX8_number_16 : decode cX8_number 16 = .ok (.iadd, 1) := by decide +kernel
theorem dX8_number_17 : decode cX8_number 17 = .ok (.if_icmp .ge 66, 3) := by decide +kernel
theorem dX8_number_20 : decode cX8_number 20 = .ok (.aload_n 0, 1) := by decide +kernel
theorem dX8_number_21 : decode cX8_number 21 = .ok (.aload_n 0, 1) := by decide +kernel
theorem dX8_number_22 : decode cX8_number 22 = .ok (.getfield 91, 3) := by decide +kernel
theorem dX8_number_25 : decode cX8_number 25 = .ok (.invokevirtual 94, 3) := by decide +kernel
theorem dX8_number_28 : decode cX8_number 28 = .ok (.bipush 48, 2) := by decide +kernel
theorem dX8_number_30 : decode cX8_number 30 = .ok (.if_icmp .lt 53, 3) := by decide +kernel
theorem dX8_number_33 : decode cX8_number 33 = .ok (.aload_n 0, 1) := by decide +kernel
theorem dX8_number_34 : decode cX8_number 34 = .ok (.aload_n 0, 1) := by decide +kernel
theorem dX8_number_35 : decode cX8_number 35 = .ok (.getfield 91, 3) := by decide +kernel
theorem dX8_number_38 : decode cX8_number 38 = .ok (.invokevirtual 94, 3) := by decide +kernel
theorem dX8_number_41 : decode cX8_number 41 = .ok (.bipush 57, 2) := by decide +kernel
theorem dX8_number_43 : decode cX8_number 43 = .ok (.if_icmp .gt 40, 3) := by decide +kernel
theorem dX8_number_46 : decode cX8_number 46 = .ok (.aload_n 0, 1) := by decide +kernel
theorem dX8_number_47 : decode cX8_number 47 = .ok (.bipush 10, 2) := by decide +kernel
theorem dX8_number_49 : decode cX8_number 49 = .ok (.aload_n 0, 1) := by decide +kernel
theorem dX8_number_50 : decode cX8_number 50 = .ok (.getfield 88, 3) := by decide +kernel
theorem dX8_number_53 : decode cX8_number 53 = .ok (.imul, 1) := by decide +kernel
theorem dX8_number_54 : decode cX8_number 54 = .ok (.aload_n 0, 1) := by decide +kernel
theorem dX8_number_55 : decode cX8_number 55 = .ok (.getfield 7, 3) := by decide +kernel
theorem dX8_number_58 : decode cX8_number 58 = .ok (.aload_n 0, 1) := by decide +kernel
theorem dX8_number_59 : decode cX8_number 59 = .ok (.getfield 91, 3) := by decide +kernel
theorem dX8_number_62 : decode cX8_number 62 = .ok (.iaload, 1) := by decide +kernel
theorem dX8_number_63 : decode cX8_number 63 = .ok (.iadd, 1) := by decide +kernel
theorem dX8_number_64 : decode cX8_number 64 = .ok (.bipush 48, 2) := by decide +kernel
theorem dX8_number_66 : decode cX8_number 66 = .ok (.isub, 1) := by decide +kernel
theorem dX8_number_67 : decode cX8_number 67 = .ok (.putfield 88, 3) := by decide +kernel
theorem dX8_number_70 : decode cX8_number 70 = .ok (.aload_n 0, 1) := by decide +kernel
theorem dX8_number_71 : decode cX8_number 71 = .ok (.dup, 1) := by decide +kernel
theorem dX8_number_72 : decode cX8_number 72 = .ok (.getfield 91, 3) := by decide +kernel
theorem dX8_number_75 : decode cX8_number 75 = .ok (.iconst 1, 1) := by decide +kernel
theorem dX8_number_76 : decode cX8_number 76 = .ok (.iadd, 1) := by decide +kernel
theorem dX8_number_77 : decode cX8_number 77 = .ok (.putfield 91, 3) := by decide +kernel
theorem dX8_number_80 : decode cX8_number 80 = .ok (.goto (-70), 3) := by decide +kernel
theorem dX8_number_83 : decode cX8_number 83 = .ok (.aload_n 0, 1) := by decide +kernel
theorem dX8_number_84 : decode cX8_number 84 = .ok (.getfield 91, 3) := by decide +kernel
theorem dX8_number_87 : decode cX8_number 87 = .ok (.iload_n 1, 1) := by decide +kernel
theorem dX8_number_88 : decode cX8_number 88 = .ok (.if_icmp .le 19, 3) := by decide +kernel
theorem dX8_number_91 : decode cX8_number 91 = .ok (.aload_n 0, 1) := by decide +kernel
theorem dX8_number_92 : decode cX8_number 92 = .ok (.getfield 88, 3) := by decide +kernel
theorem dX8_number_95 : decode cX8_number 95 = .ok (.iload_n 2, 1) := by decide +kernel
theorem dX8_number_96 : decode cX8_number 96 = .ok (.iload_n 3, 1) := by decide +kernel
theorem dX8_number_97 : decode cX8_number 97 = .ok (.invokestatic 98, 3) := by decide +kernel
theorem dX8_number_100 : decode cX8_number 100 = .ok (.ifCond .eq 7, 3) := by decide +kernel
theorem dX8_number_103 : decode cX8_number 103 = .ok (.iconst 1, 1) := by decide +kernel
theorem dX8_number_104 : decode cX8_number 104 = .ok (.goto 4, 3) := by decide +kernel
theorem dX8_number_107 : decode cX8_number 107 = .ok (.iconst 0, 1) := by decide +kernel
theorem dX8_number_108 : decode cX8_number 108 = .ok (.ireturn, 1) := by decide +kernel
set_option maxRecDepth 20000 in
theorem ggX8_more_X8_letterAt : GoodIn wsX8_more wsX8_letterAt := goodIn_r _ [6, 7, 8, 17, 18, 19, 20, 21, 22, 23, 24, 25, 26, 27, 28, 29, 30, 31, 32, 33, 34, 35, 36, 37, 38, 39, 40, 41, 42] (by decide +kernel) (by decide +kernel)
set_option maxRecDepth 20000 in
theorem gX8_more_X8_letterAt : GoodIn wsX8_more (wsV RX8 94 RX8 yX8_letterAt wsX8_letterAt) := goodIn_app (goodIn_of _ (by decide +kernel)) ggX8_more_X8_letterAt
set_option maxRecDepth 20000 in
theorem ggX8_more_X8_number : GoodIn wsX8_more wsX8_number := goodIn_r _ [12, 13, 1, 8, 2, 3, 4, 5, 6, 7, 14, 15, 16, 17, 18, 19, 20, 21, 22, 23, 24, 25, 26, 27, 28, 29, 30, 31, 32, 33, 34, 35, 36, 37, 38, 39, 40, 41, 42] (by decide +kernel) (by decide +kernel)
set_option maxRecDepth 20000 in
theorem gX8_more_X8_number : GoodIn wsX8_more (wsV RX8 102 RX8 yX8_number wsX8_number) := goodIn_app (goodIn_of _ (by decide +kernel)) ggX8_more_X8_number
theorem dX8_more_0 : decode cX8_more 0 = .ok (.aload_n 0, 1) := by decide +kernel
theorem dX8_more_1 : decode cX8_more 1 = .ok (.aload_n 0, 1) := by decide +kernel
theorem dX8_more_2 : decode cX8_more 2 = .ok (.getfield 91, 3) := by decide +kernel
theorem dX8_more_5 : decode cX8_more 5 = .ok (.invokevirtual 94, 3) := by decide +kernel
theorem dX8_more_8 : decode cX8_more 8 = .ok (.bipush 44, 2) := by decide +kernel
theorem dX8_more_10 : decode cX8_more 10 = .ok (.if_icmp .ne 22, 3) := by decide +kernel
theorem dX8_more_13 : decode cX8_more 13 = .ok (.aload_n 0, 1) := by decide +kernel
theorem dX8_more_14 : decode cX8_more 14 = .ok (.aload_n 0, 1) := by decide +kernel
theorem dX8_more_15 : decode cX8_more 15 = .ok (.getfield 91, 3) := by decide +kernel
theorem dX8_more_18 : decode cX8_more 18 = .ok (.iconst 1, 1) := by decide +kernel
theorem dX8_more_19 : decode cX8_more 19 = .ok (.iadd, 1) := by decide +kernel
theorem dX8_more_20 : decode cX8_more 20 = .ok (.iload_n 1, 1) := by decide +kernel
theorem dX8_more_21 : decode cX8_more 21 = .ok (.iload_n 2, 1) := by decide +kernel
theorem dX8_more_22 : decode cX8_more 22 = .ok (.invokevirtual 102, 3) := by decide +kernel
theorem dX8_more_25 : decode cX8_more 25 = .ok (.ifCond .eq 7, 3) := by decide +kernel
theorem dX8_more_28 : decode cX8_more 28 = .ok (.iconst 1, 1) := by decide +kernel
theorem dX8_more_29 : decode cX8_more 29 = .ok (.goto 4, 3) := by decide +kernel
theorem dX8_more_32 : decode cX8_more 32 = .ok (.iconst 0, 1) := by decide +kernel
theorem dX8_more_33 : decode cX8_more 33 = .ok (.ireturn, 1) := by decide +kernel
set_option maxRecDepth 20000 in
theorem ggX8_readsJoin_X8_number : GoodIn wsX8_readsJoin wsX8_number := goodIn_r _ [8, 2, 9, 10, 11, 12, 13, 7, 14, 15, 16, 17, 18, 28, 29, 30, 31, 32, 33, 34, 35, 36, 37, 38, 39, 40, 41, 42, 43, 44, 45, 46, 47, 48, 49, 50, 51, 52, 53] (by decide +kernel) (by decide +kernel)
set_option maxRecDepth 20000 in
theorem gX8_readsJoin_X8_number : GoodIn wsX8_readsJoin (wsV RX8 102 RX8 yX8_number wsX8_number) := goodIn_app (goodIn_of _ (by decide +kernel)) ggX8_readsJoin_X8_number
set_option maxRecDepth 20000 in
theorem ggX8_readsJoin_X8_more : GoodIn wsX8_readsJoin wsX8_more := goodIn_r _ [22, 9, 11, 12, 13, 7, 14, 15, 10, 4, 5, 6, 8, 2, 16, 17, 18, 28, 29, 30, 31, 32, 33, 34, 35, 36, 37, 38, 39, 40, 41, 42, 43, 44, 45, 46, 47, 48, 49, 50, 51, 52, 53] (by decide +kernel) (by decide +kernel)
set_option maxRecDepth 20000 in
theorem gX8_readsJoin_X8_more : GoodIn wsX8_readsJoin (wsV RX8 105 RX8 yX8_more wsX8_more) := goodIn_app (goodIn_of _ (by decide +kernel)) ggX8_readsJoin_X8_more
set_option maxRecDepth 20000 in
theorem ggX8_readsJoin_X8_joinOf : GoodIn wsX8_readsJoin wsX8_joinOf := goodIn_r _ [26, 3, 27, 28, 29, 30, 31, 32, 33, 34, 35, 36, 37, 38, 39, 40, 41, 42, 43, 44, 45, 46, 47, 48, 49, 50, 51, 52, 53] (by decide +kernel) (by decide +kernel)
set_option maxRecDepth 20000 in
theorem gX8_readsJoin_X8_joinOf : GoodIn wsX8_readsJoin (wsV RX8 66 RX8 yX8_joinOf wsX8_joinOf) := goodIn_app (goodIn_of _ (by decide +kernel)) ggX8_readsJoin_X8_joinOf
theorem dX8_readsJoin_0 : decode cX8_readsJoin 0 = .ok (.aload_n 0, 1) := by decide +kernel
theorem dX8_readsJoin_1 : decode cX8_readsJoin 1 = .ok (.iload_n 1, 1) := by decide +kernel
theorem dX8_readsJoin_2 : decode cX8_readsJoin 2 = .ok (.iconst 0, 1) := by decide +kernel
theorem dX8_readsJoin_3 : decode cX8_readsJoin 3 = .ok (.aload_n 0, 1) := by decide +kernel
theorem dX8_readsJoin_4 : decode cX8_readsJoin 4 = .ok (.getfield 62, 3) := by decide +kernel
theorem dX8_readsJoin_7 : decode cX8_readsJoin 7 = .ok (.iconst 1, 1) := by decide +kernel
theorem dX8_readsJoin_8 : decode cX8_readsJoin 8 = .ok (.isub, 1) := by decide +kernel
theorem dX8_readsJoin_9 : decode cX8_readsJoin 9 = .ok (.invokevirtual 102, 3) := by decide +kernel
theorem dX8_readsJoin_12 : decode cX8_readsJoin 12 = .ok (.ifCond .ne 5, 3) := by decide +kernel
theorem dX8_readsJoin_15 : decode cX8_readsJoin 15 = .ok (.iconst 0, 1) := by decide +kernel
theorem dX8_readsJoin_16 : decode cX8_readsJoin 16 = .ok (.ireturn, 1) := by decide +kernel
theorem dX8_readsJoin_17 : decode cX8_readsJoin 17 = .ok (.aload_n 0, 1) := by decide +kernel
theorem dX8_readsJoin_18 : decode cX8_readsJoin 18 = .ok (.getfield 88, 3) := by decide +kernel
theorem dX8_readsJoin_21 : decode cX8_readsJoin 21 = .ok (.istore_n 2, 1) := by decide +kernel
theorem dX8_readsJoin_22 : decode cX8_readsJoin 22 = .ok (.aload_n 0, 1) := by decide +kernel
theorem dX8_readsJoin_23 : decode cX8_readsJoin 23 = .ok (.iconst 0, 1) := by decide +kernel
theorem dX8_readsJoin_24 : decode cX8_readsJoin 24 = .ok (.aload_n 0, 1) := by decide +kernel
theorem dX8_readsJoin_25 : decode cX8_readsJoin 25 = .ok (.getfield 62, 3) := by decide +kernel
theorem dX8_readsJoin_28 : decode cX8_readsJoin 28 = .ok (.iconst 1, 1) := by decide +kernel
theorem dX8_readsJoin_29 : decode cX8_readsJoin 29 = .ok (.isub, 1) := by decide +kernel
theorem dX8_readsJoin_30 : decode cX8_readsJoin 30 = .ok (.invokevirtual 105, 3) := by decide +kernel
theorem dX8_readsJoin_33 : decode cX8_readsJoin 33 = .ok (.ifCond .ne 5, 3) := by decide +kernel
theorem dX8_readsJoin_36 : decode cX8_readsJoin 36 = .ok (.iconst 0, 1) := by decide +kernel
theorem dX8_readsJoin_37 : decode cX8_readsJoin 37 = .ok (.ireturn, 1) := by decide +kernel
theorem dX8_readsJoin_38 : decode cX8_readsJoin 38 = .ok (.aload_n 0, 1) := by decide +kernel
theorem dX8_readsJoin_39 : decode cX8_readsJoin 39 = .ok (.getfield 88, 3) := by decide +kernel
theorem dX8_readsJoin_42 : decode cX8_readsJoin 42 = .ok (.istore_n 3, 1) := by decide +kernel
theorem dX8_readsJoin_43 : decode cX8_readsJoin 43 = .ok (.iload_n 2, 1) := by decide +kernel
theorem dX8_readsJoin_44 : decode cX8_readsJoin 44 = .ok (.iload_n 3, 1) := by decide +kernel
theorem dX8_readsJoin_45 : decode cX8_readsJoin 45 = .ok (.if_icmp .eq 26, 3) := by decide +kernel
theorem dX8_readsJoin_48 : decode cX8_readsJoin 48 = .ok (.aload_n 0, 1) := by decide +kernel
theorem dX8_readsJoin_49 : decode cX8_readsJoin 49 = .ok (.getfield 25, 3) := by decide +kernel
theorem dX8_readsJoin_52 : decode cX8_readsJoin 52 = .ok (.bipush 6, 2) := by decide +kernel
theorem dX8_readsJoin_54 : decode cX8_readsJoin 54 = .ok (.iload_n 2, 1) := by decide +kernel
theorem dX8_readsJoin_55 : decode cX8_readsJoin 55 = .ok (.imul, 1) := by decide +kernel
theorem dX8_readsJoin_56 : decode cX8_readsJoin 56 = .ok (.iload_n 3, 1) := by decide +kernel
theorem dX8_readsJoin_57 : decode cX8_readsJoin 57 = .ok (.iadd, 1) := by decide +kernel
theorem dX8_readsJoin_58 : decode cX8_readsJoin 58 = .ok (.iaload, 1) := by decide +kernel
theorem dX8_readsJoin_59 : decode cX8_readsJoin 59 = .ok (.ifCond .gt 12, 3) := by decide +kernel
theorem dX8_readsJoin_62 : decode cX8_readsJoin 62 = .ok (.aload_n 0, 1) := by decide +kernel
theorem dX8_readsJoin_63 : decode cX8_readsJoin 63 = .ok (.iconst 1, 1) := by decide +kernel
theorem dX8_readsJoin_64 : decode cX8_readsJoin 64 = .ok (.iconst 4, 1) := by decide +kernel
theorem dX8_readsJoin_65 : decode cX8_readsJoin 65 = .ok (.invokevirtual 105, 3) := by decide +kernel
theorem dX8_readsJoin_68 : decode cX8_readsJoin 68 = .ok (.ifCond .ne 5, 3) := by decide +kernel
theorem dX8_readsJoin_71 : decode cX8_readsJoin 71 = .ok (.iconst 0, 1) := by decide +kernel
theorem dX8_readsJoin_72 : decode cX8_readsJoin 72 = .ok (.ireturn, 1) := by decide +kernel
theorem dX8_readsJoin_73 : decode cX8_readsJoin 73 = .ok (.aload_n 0, 1) := by decide +kernel
theorem dX8_readsJoin_74 : decode cX8_readsJoin 74 = .ok (.getfield 88, 3) := by decide +kernel
theorem dX8_readsJoin_77 : decode cX8_readsJoin 77 = .ok (.istore 4, 2) := by decide +kernel
theorem dX8_readsJoin_79 : decode cX8_readsJoin 79 = .ok (.aload_n 0, 1) := by decide +kernel
theorem dX8_readsJoin_80 : decode cX8_readsJoin 80 = .ok (.iconst 1, 1) := by decide +kernel
theorem dX8_readsJoin_81 : decode cX8_readsJoin 81 = .ok (.iconst 4, 1) := by decide +kernel
theorem dX8_readsJoin_82 : decode cX8_readsJoin 82 = .ok (.invokevirtual 105, 3) := by decide +kernel
theorem dX8_readsJoin_85 : decode cX8_readsJoin 85 = .ok (.ifCond .ne 5, 3) := by decide +kernel
theorem dX8_readsJoin_88 : decode cX8_readsJoin 88 = .ok (.iconst 0, 1) := by decide +kernel
theorem dX8_readsJoin_89 : decode cX8_readsJoin 89 = .ok (.ireturn, 1) := by decide +kernel
theorem dX8_readsJoin_90 : decode cX8_readsJoin 90 = .ok (.aload_n 0, 1) := by decide +kernel
theorem dX8_readsJoin_91 : decode cX8_readsJoin 91 = .ok (.iload_n 2, 1) := by decide +kernel
theorem dX8_readsJoin_92 : decode cX8_readsJoin 92 = .ok (.iload_n 3, 1) := by decide +kernel
theorem dX8_readsJoin_93 : decode cX8_readsJoin 93 = .ok (.iload 4, 2) := by decide +kernel
theorem dX8_readsJoin_95 : decode cX8_readsJoin 95 = .ok (.aload_n 0, 1) := by decide +kernel
theorem dX8_readsJoin_96 : decode cX8_readsJoin 96 = .ok (.getfield 88, 3) := by decide +kernel
theorem dX8_readsJoin_99 : decode cX8_readsJoin 99 = .ok (.invokevirtual 66, 3) := by decide +kernel
theorem dX8_readsJoin_102 : decode cX8_readsJoin 102 = .ok (.iconst 1, 1) := by decide +kernel
theorem dX8_readsJoin_103 : decode cX8_readsJoin 103 = .ok (.ireturn, 1) := by decide +kernel
set_option maxRecDepth 20000 in
theorem ggX8_readsCell_X8_number : GoodIn wsX8_readsCell wsX8_number := goodIn_r _ [8, 2, 9, 10, 11, 12, 13, 7, 14, 15, 16, 17, 18, 23, 24, 25, 26, 27, 28, 29, 30, 31, 32, 33, 34, 35, 36, 37, 38, 39, 40, 41, 42, 43, 44, 45, 46, 47, 48] (by decide +kernel) (by decide +kernel)
set_option maxRecDepth 20000 in
theorem gX8_readsCell_X8_number : GoodIn wsX8_readsCell (wsV RX8 102 RX8 yX8_number wsX8_number) := goodIn_app (goodIn_of _ (by decide +kernel)) ggX8_readsCell_X8_number
set_option maxRecDepth 20000 in
theorem ggX8_readsCell_X8_more : GoodIn wsX8_readsCell wsX8_more := goodIn_r _ [22, 9, 11, 12, 13, 7, 14, 15, 10, 4, 5, 6, 8, 2, 16, 17, 18, 23, 24, 25, 26, 27, 28, 29, 30, 31, 32, 33, 34, 35, 36, 37, 38, 39, 40, 41, 42, 43, 44, 45, 46, 47, 48] (by decide +kernel) (by decide +kernel)
set_option maxRecDepth 20000 in
theorem gX8_readsCell_X8_more : GoodIn wsX8_readsCell (wsV RX8 105 RX8 yX8_more wsX8_more) := goodIn_app (goodIn_of _ (by decide +kernel)) ggX8_readsCell_X8_more
theorem dX8_readsCell_0 : decode cX8_readsCell 0 = .ok (.aload_n 0, 1) := by decide +kernel
theorem dX8_readsCell_1 : decode cX8_readsCell 1 = .ok (.iload_n 1, 1) := by decide +kernel
theorem dX8_readsCell_2 : decode cX8_readsCell 2 = .ok (.iconst 0, 1) := by decide +kernel
theorem dX8_readsCell_3 : decode cX8_readsCell 3 = .ok (.aload_n 0, 1) := by decide +kernel
theorem dX8_readsCell_4 : decode cX8_readsCell 4 = .ok (.getfield 62, 3) := by decide +kernel
theorem dX8_readsCell_7 : decode cX8_readsCell 7 = .ok (.iconst 1, 1) := by decide +kernel
theorem dX8_readsCell_8 : decode cX8_readsCell 8 = .ok (.isub, 1) := by decide +kernel
theorem dX8_readsCell_9 : decode cX8_readsCell 9 = .ok (.invokevirtual 102, 3) := by decide +kernel
theorem dX8_readsCell_12 : decode cX8_readsCell 12 = .ok (.ifCond .ne 5, 3) := by decide +kernel
theorem dX8_readsCell_15 : decode cX8_readsCell 15 = .ok (.iconst 0, 1) := by decide +kernel
theorem dX8_readsCell_16 : decode cX8_readsCell 16 = .ok (.ireturn, 1) := by decide +kernel
theorem dX8_readsCell_17 : decode cX8_readsCell 17 = .ok (.aload_n 0, 1) := by decide +kernel
theorem dX8_readsCell_18 : decode cX8_readsCell 18 = .ok (.getfield 88, 3) := by decide +kernel
theorem dX8_readsCell_21 : decode cX8_readsCell 21 = .ok (.istore_n 3, 1) := by decide +kernel
theorem dX8_readsCell_22 : decode cX8_readsCell 22 = .ok (.aload_n 0, 1) := by decide +kernel
theorem dX8_readsCell_23 : decode cX8_readsCell 23 = .ok (.iconst 0, 1) := by decide +kernel
theorem dX8_readsCell_24 : decode cX8_readsCell 24 = .ok (.iload_n 2, 1) := by decide +kernel
theorem dX8_readsCell_25 : decode cX8_readsCell 25 = .ok (.ifCond .ne 8, 3) := by decide +kernel
theorem dX8_readsCell_28 : decode cX8_readsCell 28 = .ok (.bipush 9, 2) := by decide +kernel
theorem dX8_readsCell_30 : decode cX8_readsCell 30 = .ok (.goto 4, 3) := by decide +kernel
theorem dX8_readsCell_33 : decode cX8_readsCell 33 = .ok (.iconst 5, 1) := by decide +kernel
theorem dX8_readsCell_34 : decode cX8_readsCell 34 = .ok (.invokevirtual 105, 3) := by decide +kernel
theorem dX8_readsCell_37 : decode cX8_readsCell 37 = .ok (.istore 4, 2) := by decide +kernel
theorem dX8_readsCell_39 : decode cX8_readsCell 39 = .ok (.aload_n 0, 1) := by decide +kernel
theorem dX8_readsCell_40 : decode cX8_readsCell 40 = .ok (.getfield 31, 3) := by decide +kernel
theorem dX8_readsCell_43 : decode cX8_readsCell 43 = .ok (.bipush 6, 2) := by decide +kernel
theorem dX8_readsCell_45 : decode cX8_readsCell 45 = .ok (.iload_n 2, 1) := by decide +kernel
theorem dX8_readsCell_46 : decode cX8_readsCell 46 = .ok (.imul, 1) := by decide +kernel
theorem dX8_readsCell_47 : decode cX8_readsCell 47 = .ok (.iload_n 3, 1) := by decide +kernel
theorem dX8_readsCell_48 : decode cX8_readsCell 48 = .ok (.iadd, 1) := by decide +kernel
theorem dX8_readsCell_49 : decode cX8_readsCell 49 = .ok (.aload_n 0, 1) := by decide +kernel
theorem dX8_readsCell_50 : decode cX8_readsCell 50 = .ok (.getfield 88, 3) := by decide +kernel
theorem dX8_readsCell_53 : decode cX8_readsCell 53 = .ok (.iastore, 1) := by decide +kernel
theorem dX8_readsCell_54 : decode cX8_readsCell 54 = .ok (.iload 4, 2) := by decide +kernel
theorem dX8_readsCell_56 : decode cX8_readsCell 56 = .ok (.ireturn, 1) := by decide +kernel
set_option maxRecDepth 20000 in
theorem ggX8_isLaw_X8_isIn : GoodIn wsX8_isLaw wsX8_isIn := goodIn_r _ [4] (by decide +kernel) (by decide +kernel)
set_option maxRecDepth 20000 in
theorem gX8_isLaw_X8_isIn : GoodIn wsX8_isLaw (va_wsS RX8 98 yX8_isIn wsX8_isIn) := goodIn_app (goodIn_of _ (by decide +kernel)) ggX8_isLaw_X8_isIn
theorem dX8_isLaw_0 : decode cX8_isLaw 0 = .ok (.iload_n 0, 1) := by decide +kernel
theorem dX8_isLaw_1 : decode cX8_isLaw 1 = .ok (.ifCond .ne 15, 3) := by decide +kernel
theorem dX8_isLaw_4 : decode cX8_isLaw 4 = .ok (.iload_n 1, 1) := by decide +kernel
theorem dX8_isLaw_5 : decode cX8_isLaw 5 = .ok (.ifCond .ne 7, 3) := by decide +kernel
theorem dX8_isLaw_8 : decode cX8_isLaw 8 = .ok (.iconst 1, 1) := by decide +kernel
theorem dX8_isLaw_9 : decode cX8_isLaw 9 = .ok (.goto 31, 3) := by decide +kernel
theorem dX8_isLaw_12 : decode cX8_isLaw 12 = .ok (.iconst 0, 1) := by decide +kernel
theorem dX8_isLaw_13 : decode cX8_isLaw 13 = .ok (.goto 27, 3) := by decide +kernel
theorem dX8_isLaw_16 : decode cX8_isLaw 16 = .ok (.iload_n 0, 1) := by decide +kernel
theorem dX8_isLaw_17 : decode cX8_isLaw 17 = .ok (.iconst 1, 1) := by decide +kernel
theorem dX8_isLaw_18 : decode cX8_isLaw 18 = .ok (.iconst 3, 1) := by decide +kernel
theorem dX8_isLaw_19 : decode cX8_isLaw 19 = .ok (.invokestatic 98, 3) := by decide +kernel
theorem dX8_isLaw_22 : decode cX8_isLaw 22 = .ok (.ifCond .eq 17, 3) := by decide +kernel
theorem dX8_isLaw_25 : decode cX8_isLaw 25 = .ok (.iload_n 1, 1) := by decide +kernel
theorem dX8_isLaw_26 : decode cX8_isLaw 26 = .ok (.iconst 1, 1) := by decide +kernel
theorem dX8_isLaw_27 : decode cX8_isLaw 27 = .ok (.bipush 9, 2) := by decide +kernel
theorem dX8_isLaw_29 : decode cX8_isLaw 29 = .ok (.invokestatic 98, 3) := by decide +kernel
theorem dX8_isLaw_32 : decode cX8_isLaw 32 = .ok (.ifCond .eq 7, 3) := by decide +kernel
theorem dX8_isLaw_35 : decode cX8_isLaw 35 = .ok (.iconst 1, 1) := by decide +kernel
theorem dX8_isLaw_36 : decode cX8_isLaw 36 = .ok (.goto 4, 3) := by decide +kernel
theorem dX8_isLaw_39 : decode cX8_isLaw 39 = .ok (.iconst 0, 1) := by decide +kernel
theorem dX8_isLaw_40 : decode cX8_isLaw 40 = .ok (.ireturn, 1) := by decide +kernel
set_option maxRecDepth 20000 in
theorem ggX8_readsLaw_X8_number : GoodIn wsX8_readsLaw wsX8_number := goodIn_r _ [7, 1, 8, 9, 10, 11, 12, 6, 13, 14, 15, 16, 17, 25, 26, 27, 28, 29, 30, 31, 32, 33, 34, 35, 36, 37, 38, 39, 40, 41, 42, 43, 44, 45, 46, 47, 48, 49, 50] (by decide +kernel) (by decide +kernel)
set_option maxRecDepth 20000 in
theorem gX8_readsLaw_X8_number : GoodIn wsX8_readsLaw (wsV RX8 102 RX8 yX8_number wsX8_number) := goodIn_app (goodIn_of _ (by decide +kernel)) ggX8_readsLaw_X8_number
set_option maxRecDepth 20000 in
theorem ggX8_readsLaw_X8_more : GoodIn wsX8_readsLaw wsX8_more := goodIn_r _ [21, 8, 10, 11, 12, 6, 13, 14, 9, 3, 4, 5, 7, 1, 15, 16, 17, 25, 26, 27, 28, 29, 30, 31, 32, 33, 34, 35, 36, 37, 38, 39, 40, 41, 42, 43, 44, 45, 46, 47, 48, 49, 50] (by decide +kernel) (by decide +kernel)
set_option maxRecDepth 20000 in
theorem gX8_readsLaw_X8_more : GoodIn wsX8_readsLaw (wsV RX8 105 RX8 yX8_more wsX8_more) := goodIn_app (goodIn_of _ (by decide +kernel)) ggX8_readsLaw_X8_more
set_option maxRecDepth 20000 in
theorem ggX8_readsLaw_X8_isLaw : GoodIn wsX8_readsLaw wsX8_isLaw := goodIn_r _ [24, 15, 16, 6, 17] (by decide +kernel) (by decide +kernel)
set_option maxRecDepth 20000 in
theorem gX8_readsLaw_X8_isLaw : GoodIn wsX8_readsLaw (va_wsS RX8 109 yX8_isLaw wsX8_isLaw) := goodIn_app (goodIn_of _ (by decide +kernel)) ggX8_readsLaw_X8_isLaw
theorem dX8_readsLaw_0 : decode cX8_readsLaw 0 = .ok (.aload_n 0, 1) := by decide +kernel
theorem dX8_readsLaw_1 : decode cX8_readsLaw 1 = .ok (.iload_n 1, 1) := by decide +kernel
theorem dX8_readsLaw_2 : decode cX8_readsLaw 2 = .ok (.iconst 0, 1) := by decide +kernel
theorem dX8_readsLaw_3 : decode cX8_readsLaw 3 = .ok (.iconst 3, 1) := by decide +kernel
theorem dX8_readsLaw_4 : decode cX8_readsLaw 4 = .ok (.invokevirtual 102, 3) := by decide +kernel
theorem dX8_readsLaw_7 : decode cX8_readsLaw 7 = .ok (.ifCond .ne 5, 3) := by decide +kernel
theorem dX8_readsLaw_10 : decode cX8_readsLaw 10 = .ok (.iconst 0, 1) := by decide +kernel
theorem dX8_readsLaw_11 : decode cX8_readsLaw 11 = .ok (.ireturn, 1) := by decide +kernel
theorem dX8_readsLaw_12 : decode cX8_readsLaw 12 = .ok (.aload_n 0, 1) := by decide +kernel
theorem dX8_readsLaw_13 : decode cX8_readsLaw 13 = .ok (.getfield 88, 3) := by decide +kernel
theorem dX8_readsLaw_16 : decode cX8_readsLaw 16 = .ok (.istore_n 2, 1) := by decide +kernel
theorem dX8_readsLaw_17 : decode cX8_readsLaw 17 = .ok (.aload_n 0, 1) := by decide +kernel
theorem dX8_readsLaw_18 : decode cX8_readsLaw 18 = .ok (.iconst 0, 1) := by decide +kernel
theorem dX8_readsLaw_19 : decode cX8_readsLaw 19 = .ok (.bipush 9, 2) := by decide +kernel
theorem dX8_readsLaw_21 : decode cX8_readsLaw 21 = .ok (.invokevirtual 105, 3) := by decide +kernel
theorem dX8_readsLaw_24 : decode cX8_readsLaw 24 = .ok (.ifCond .eq 18, 3) := by decide +kernel
theorem dX8_readsLaw_27 : decode cX8_readsLaw 27 = .ok (.iload_n 2, 1) := by decide +kernel
theorem dX8_readsLaw_28 : decode cX8_readsLaw 28 = .ok (.aload_n 0, 1) := by decide +kernel
theorem dX8_readsLaw_29 : decode cX8_readsLaw 29 = .ok (.getfield 88, 3) := by decide +kernel
theorem dX8_readsLaw_32 : decode cX8_readsLaw 32 = .ok (.invokestatic 109, 3) := by decide +kernel
theorem dX8_readsLaw_35 : decode cX8_readsLaw 35 = .ok (.ifCond .eq 7, 3) := by decide +kernel
theorem dX8_readsLaw_38 : decode cX8_readsLaw 38 = .ok (.iconst 1, 1) := by decide +kernel
theorem dX8_readsLaw_39 : decode cX8_readsLaw 39 = .ok (.goto 4, 3) := by decide +kernel
theorem dX8_readsLaw_42 : decode cX8_readsLaw 42 = .ok (.iconst 0, 1) := by decide +kernel
theorem dX8_readsLaw_43 : decode cX8_readsLaw 43 = .ok (.istore_n 3, 1) := by decide +kernel
theorem dX8_readsLaw_44 : decode cX8_readsLaw 44 = .ok (.aload_n 0, 1) := by decide +kernel
theorem dX8_readsLaw_45 : decode cX8_readsLaw 45 = .ok (.getfield 31, 3) := by decide +kernel
theorem dX8_readsLaw_48 : decode cX8_readsLaw 48 = .ok (.bipush 12, 2) := by decide +kernel
theorem dX8_readsLaw_50 : decode cX8_readsLaw 50 = .ok (.iload_n 2, 1) := by decide +kernel
theorem dX8_readsLaw_51 : decode cX8_readsLaw 51 = .ok (.iastore, 1) := by decide +kernel
theorem dX8_readsLaw_52 : decode cX8_readsLaw 52 = .ok (.aload_n 0, 1) := by decide +kernel
theorem dX8_readsLaw_53 : decode cX8_readsLaw 53 = .ok (.getfield 31, 3) := by decide +kernel
theorem dX8_readsLaw_56 : decode cX8_readsLaw 56 = .ok (.bipush 13, 2) := by decide +kernel
theorem dX8_readsLaw_58 : decode cX8_readsLaw 58 = .ok (.aload_n 0, 1) := by decide +kernel
theorem dX8_readsLaw_59 : decode cX8_readsLaw 59 = .ok (.getfield 88, 3) := by decide +kernel
theorem dX8_readsLaw_62 : decode cX8_readsLaw 62 = .ok (.iastore, 1) := by decide +kernel
theorem dX8_readsLaw_63 : decode cX8_readsLaw 63 = .ok (.iload_n 3, 1) := by decide +kernel
theorem dX8_readsLaw_64 : decode cX8_readsLaw 64 = .ok (.ireturn, 1) := by decide +kernel
set_option maxRecDepth 20000 in
theorem ggX8_readsPrice_X8_number : GoodIn wsX8_readsPrice wsX8_number := goodIn_r _ [7, 2, 8, 9, 10, 11, 12, 6, 13, 14, 15, 16, 17, 22, 23, 24, 25, 26, 27, 28, 29, 30, 31, 32, 33, 34, 35, 36, 37, 38, 39, 40, 41, 42, 43, 44, 45, 46, 47] (by decide +kernel) (by decide +kernel)
set_option maxRecDepth 20000 in
theorem gX8_readsPrice_X8_number : GoodIn wsX8_readsPrice (wsV RX8 102 RX8 yX8_number wsX8_number) := goodIn_app (goodIn_of _ (by decide +kernel)) ggX8_readsPrice_X8_number
set_option maxRecDepth 20000 in
theorem ggX8_readsPrice_X8_more : GoodIn wsX8_readsPrice wsX8_more := goodIn_r _ [21, 8, 10, 11, 12, 6, 13, 14, 9, 3, 4, 5, 7, 2, 15, 16, 17, 22, 23, 24, 25, 26, 27, 28, 29, 30, 31, 32, 33, 34, 35, 36, 37, 38, 39, 40, 41, 42, 43, 44, 45, 46, 47] (by decide +kernel) (by decide +kernel)
set_option maxRecDepth 20000 in
theorem gX8_readsPrice_X8_more : GoodIn wsX8_readsPrice (wsV RX8 105 RX8 yX8_more wsX8_more) := goodIn_app (goodIn_of _ (by decide +kernel)) ggX8_readsPrice_X8_more
theorem dX8_readsPrice_0 : decode cX8_readsPrice 0 = .ok (.iconst 0, 1) := by decide +kernel
theorem dX8_readsPrice_1 : decode cX8_readsPrice 1 = .ok (.istore_n 2, 1) := by decide +kernel
theorem dX8_readsPrice_2 : decode cX8_readsPrice 2 = .ok (.iload_n 2, 1) := by decide +kernel
theorem dX8_readsPrice_3 : decode cX8_readsPrice 3 = .ok (.iconst 4, 1) := by decide +kernel
theorem dX8_readsPrice_4 : decode cX8_readsPrice 4 = .ok (.if_icmp .ge 71, 3) := by decide +kernel
theorem dX8_readsPrice_7 : decode cX8_readsPrice 7 = .ok (.iload_n 2, 1) := by decide +kernel
theorem dX8_readsPrice_8 : decode cX8_readsPrice 8 = .ok (.ifCond .ne 7, 3) := by decide +kernel
theorem dX8_readsPrice_11 : decode cX8_readsPrice 11 = .ok (.iconst 1, 1) := by decide +kernel
theorem dX8_readsPrice_12 : decode cX8_readsPrice 12 = .ok (.goto 4, 3) := by decide +kernel
theorem dX8_readsPrice_15 : decode cX8_readsPrice 15 = .ok (.iconst 0, 1) := by decide +kernel
theorem dX8_readsPrice_16 : decode cX8_readsPrice 16 = .ok (.istore_n 3, 1) := by decide +kernel
theorem dX8_readsPrice_17 : decode cX8_readsPrice 17 = .ok (.iload_n 2, 1) := by decide +kernel
theorem dX8_readsPrice_18 : decode cX8_readsPrice 18 = .ok (.ifCond .ne 7, 3) := by decide +kernel
theorem dX8_readsPrice_21 : decode cX8_readsPrice 21 = .ok (.iconst 4, 1) := by decide +kernel
theorem dX8_readsPrice_22 : decode cX8_readsPrice 22 = .ok (.goto 5, 3) := by decide +kernel
theorem dX8_readsPrice_25 : decode cX8_readsPrice 25 = .ok (.bipush 99, 2) := by decide +kernel
theorem dX8_readsPrice_27 : decode cX8_readsPrice 27 = .ok (.istore 4, 2) := by decide +kernel
theorem dX8_readsPrice_29 : decode cX8_readsPrice 29 = .ok (.iload_n 2, 1) := by decide +kernel
theorem dX8_readsPrice_30 : decode cX8_readsPrice 30 = .ok (.ifCond .ne 17, 3) := by decide +kernel
theorem dX8_readsPrice_33 : decode cX8_readsPrice 33 = .ok (.aload_n 0, 1) := by decide +kernel
theorem dX8_readsPrice_34 : decode cX8_readsPrice 34 = .ok (.iload_n 1, 1) := by decide +kernel
theorem dX8_readsPrice_35 : decode cX8_readsPrice 35 = .ok (.iload_n 3, 1) := by decide +kernel
theorem dX8_readsPrice_36 : decode cX8_readsPrice 36 = .ok (.iload 4, 2) := by decide +kernel
theorem dX8_readsPrice_38 : decode cX8_readsPrice 38 = .ok (.invokevirtual 102, 3) := by decide +kernel
theorem dX8_readsPrice_41 : decode cX8_readsPrice 41 = .ok (.ifCond .eq 16, 3) := by decide +kernel
theorem dX8_readsPrice_44 : decode cX8_readsPrice 44 = .ok (.goto 15, 3) := by decide +kernel
theorem dX8_readsPrice_47 : decode cX8_readsPrice 47 = .ok (.aload_n 0, 1) := by decide +kernel
theorem dX8_readsPrice_48 : decode cX8_readsPrice 48 = .ok (.iload_n 3, 1) := by decide +kernel
theorem dX8_readsPrice_49 : decode cX8_readsPrice 49 = .ok (.iload 4, 2) := by decide +kernel
theorem dX8_readsPrice_51 : decode cX8_readsPrice 51 = .ok (.invokevirtual 105, 3) := by decide +kernel
theorem dX8_readsPrice_54 : decode cX8_readsPrice 54 = .ok (.ifCond .ne 5, 3) := by decide +kernel
theorem dX8_readsPrice_57 : decode cX8_readsPrice 57 = .ok (.iconst 0, 1) := by decide +kernel
theorem dX8_readsPrice_58 : decode cX8_readsPrice 58 = .ok (.ireturn, 1) := by decide +kernel
theorem dX8_readsPrice_59 : decode cX8_readsPrice 59 = .ok (.aload_n 0, 1) := by decide +kernel
theorem dX8_readsPrice_60 : decode cX8_readsPrice 60 = .ok (.getfield 28, 3) := by decide +kernel
theorem dX8_readsPrice_63 : decode cX8_readsPrice 63 = .ok (.iload_n 2, 1) := by decide +kernel
theorem dX8_readsPrice_64 : decode cX8_readsPrice 64 = .ok (.aload_n 0, 1) := by decide +kernel
theorem dX8_readsPrice_65 : decode cX8_readsPrice 65 = .ok (.getfield 88, 3) := by decide +kernel
theorem dX8_readsPrice_68 : decode cX8_readsPrice 68 = .ok (.iastore, 1) := by decide +kernel
theorem dX8_readsPrice_69 : decode cX8_readsPrice 69 = .ok (.iinc 2 1, 3) := by decide +kernel
theorem dX8_readsPrice_72 : decode cX8_readsPrice 72 = .ok (.goto (-70), 3) := by decide +kernel
theorem dX8_readsPrice_75 : decode cX8_readsPrice 75 = .ok (.iconst 1, 1) := by decide +kernel
theorem dX8_readsPrice_76 : decode cX8_readsPrice 76 = .ok (.ireturn, 1) := by decide +kernel
set_option maxRecDepth 20000 in
theorem ggX8_readsItem_X8_number : GoodIn wsX8_readsItem wsX8_number := goodIn_r _ [7, 1, 8, 9, 10, 11, 12, 6, 13, 14, 15, 16, 17, 49, 50, 51, 52, 53, 54, 55, 56, 57, 58, 59, 60, 61, 62, 63, 64, 65, 66, 67, 68, 69, 70, 71, 72, 73, 74] (by decide +kernel) (by decide +kernel)
set_option maxRecDepth 20000 in
theorem gX8_readsItem_X8_number : GoodIn wsX8_readsItem (wsV RX8 102 RX8 yX8_number wsX8_number) := goodIn_app (goodIn_of _ (by decide +kernel)) ggX8_readsItem_X8_number
set_option maxRecDepth 20000 in
theorem ggX8_readsItem_X8_readsJoin : GoodIn wsX8_readsItem wsX8_readsJoin := goodIn_r _ [21, 2, 1, 22, 3, 4, 5, 6, 7, 8, 9, 10, 11, 12, 13, 14, 15, 16, 17, 23, 24, 25, 26, 27, 28, 29, 30, 31, 49, 50, 51, 52, 53, 54, 55, 56, 57, 58, 59, 60, 61, 62, 63, 64, 65, 66, 67, 68, 69, 70, 71, 72, 73, 74] (by decide +kernel) (by decide +kernel)
set_option maxRecDepth 20000 in
theorem gX8_readsItem_X8_readsJoin : GoodIn wsX8_readsItem (wsV RX8 112 RX8 yX8_readsJoin wsX8_readsJoin) := goodIn_app (goodIn_of _ (by decide +kernel)) ggX8_readsItem_X8_readsJoin
set_option maxRecDepth 20000 in
theorem ggX8_readsItem_X8_readsCell : GoodIn wsX8_readsItem wsX8_readsCell := goodIn_r _ [35, 2, 1, 36, 3, 4, 5, 6, 7, 8, 9, 10, 11, 12, 13, 14, 15, 16, 17, 23, 24, 25, 26, 49, 50, 51, 52, 53, 54, 55, 56, 57, 58, 59, 60, 61, 62, 63, 64, 65, 66, 67, 68, 69, 70, 71, 72, 73, 74] (by decide +kernel) (by decide +kernel)
set_option maxRecDepth 20000 in
theorem gX8_readsItem_X8_readsCell : GoodIn wsX8_readsItem (wsV RX8 116 RX8 yX8_readsCell wsX8_readsCell) := goodIn_app (goodIn_of _ (by decide +kernel)) ggX8_readsItem_X8_readsCell
set_option maxRecDepth 20000 in
theorem ggX8_readsItem_X8_readsLaw : GoodIn wsX8_readsItem wsX8_readsLaw := goodIn_r _ [40, 1, 36, 3, 4, 5, 6, 7, 8, 9, 10, 11, 12, 13, 14, 15, 16, 17, 23, 24, 25, 26, 41, 42, 43, 49, 50, 51, 52, 53, 54, 55, 56, 57, 58, 59, 60, 61, 62, 63, 64, 65, 66, 67, 68, 69, 70, 71, 72, 73, 74] (by decide +kernel) (by decide +kernel)
set_option maxRecDepth 20000 in
theorem gX8_readsItem_X8_readsLaw : GoodIn wsX8_readsItem (wsV RX8 119 RX8 yX8_readsLaw wsX8_readsLaw) := goodIn_app (goodIn_of _ (by decide +kernel)) ggX8_readsItem_X8_readsLaw
set_option maxRecDepth 20000 in
theorem ggX8_readsItem_X8_readsPrice : GoodIn wsX8_readsItem wsX8_readsPrice := goodIn_r _ [47, 48, 1, 3, 4, 5, 6, 7, 8, 9, 10, 11, 12, 13, 14, 15, 16, 17, 23, 24, 25, 26, 49, 50, 51, 52, 53, 54, 55, 56, 57, 58, 59, 60, 61, 62, 63, 64, 65, 66, 67, 68, 69, 70, 71, 72, 73, 74] (by decide +kernel) (by decide +kernel)
set_option maxRecDepth 20000 in
theorem gX8_readsItem_X8_readsPrice : GoodIn wsX8_readsItem (wsV RX8 122 RX8 yX8_readsPrice wsX8_readsPrice) := goodIn_app (goodIn_of _ (by decide +kernel)) ggX8_readsItem_X8_readsPrice
theorem dX8_readsItem_0 : decode cX8_readsItem 0 = .ok (.iload_n 1, 1) := by decide +kernel
theorem dX8_readsItem_1 : decode cX8_readsItem 1 = .ok (.bipush 110, 2) := by decide +kernel
theorem dX8_readsItem_3 : decode cX8_readsItem 3 = .ok (.if_icmp .ne 46, 3) := by decide +kernel
theorem dX8_readsItem_6 : decode cX8_readsItem 6 = .ok (.iload_n 2, 1) := by decide +kernel
theorem dX8_readsItem_7 : decode cX8_readsItem 7 = .ok (.iconst 1, 1) := by decide +kernel
theorem dX8_readsItem_8 : decode cX8_readsItem 8 = .ok (.if_icmp .ne 18, 3) := by decide +kernel
theorem dX8_readsItem_11 : decode cX8_readsItem 11 = .ok (.aload_n 0, 1) := by decide +kernel
theorem dX8_readsItem_12 : decode cX8_readsItem 12 = .ok (.iload_n 2, 1) := by decide +kernel
theorem dX8_readsItem_13 : decode cX8_readsItem 13 = .ok (.iconst 2, 1) := by decide +kernel
theorem dX8_readsItem_14 : decode cX8_readsItem 14 = .ok (.bipush 6, 2) := by decide +kernel
theorem dX8_readsItem_16 : decode cX8_readsItem 16 = .ok (.invokevirtual 102, 3) := by decide +kernel
theorem dX8_readsItem_19 : decode cX8_readsItem 19 = .ok (.ifCond .eq 7, 3) := by decide +kernel
theorem dX8_readsItem_22 : decode cX8_readsItem 22 = .ok (.iconst 1, 1) := by decide +kernel
theorem dX8_readsItem_23 : decode cX8_readsItem 23 = .ok (.goto 4, 3) := by decide +kernel
theorem dX8_readsItem_26 : decode cX8_readsItem 26 = .ok (.iconst 0, 1) := by decide +kernel
theorem dX8_readsItem_27 : decode cX8_readsItem 27 = .ok (.istore_n 3, 1) := by decide +kernel
theorem dX8_readsItem_28 : decode cX8_readsItem 28 = .ok (.aload_n 0, 1) := by decide +kernel
theorem dX8_readsItem_29 : decode cX8_readsItem 29 = .ok (.iload_n 3, 1) := by decide +kernel
theorem dX8_readsItem_30 : decode cX8_readsItem 30 = .ok (.ifCond .eq 10, 3) := by decide +kernel
theorem dX8_readsItem_33 : decode cX8_readsItem 33 = .ok (.aload_n 0, 1) := by decide +kernel
theorem dX8_readsItem_34 : decode cX8_readsItem 34 = .ok (.getfield 88, 3) := by decide +kernel
theorem dX8_readsItem_37 : decode cX8_readsItem 37 = .ok (.goto 7, 3) := by decide +kernel
theorem dX8_readsItem_40 : decode cX8_readsItem 40 = .ok (.aload_n 0, 1) := by decide +kernel
theorem dX8_readsItem_41 : decode cX8_readsItem 41 = .ok (.getfield 62, 3) := by decide +kernel
theorem dX8_readsItem_44 : decode cX8_readsItem 44 = .ok (.putfield 62, 3) := by decide +kernel
theorem dX8_readsItem_47 : decode cX8_readsItem 47 = .ok (.iload_n 3, 1) := by decide +kernel
theorem dX8_readsItem_48 : decode cX8_readsItem 48 = .ok (.ireturn, 1) := by decide +kernel
theorem dX8_readsItem_49 : decode cX8_readsItem 49 = .ok (.aload_n 0, 1) := by decide +kernel
theorem dX8_readsItem_50 : decode cX8_readsItem 50 = .ok (.getfield 62, 3) := by decide +kernel
theorem dX8_readsItem_53 : decode cX8_readsItem 53 = .ok (.ifCond .ne 5, 3) := by decide +kernel
theorem dX8_readsItem_56 : decode cX8_readsItem 56 = .ok (.iconst 0, 1) := by decide +kernel
theorem dX8_readsItem_57 : decode cX8_readsItem 57 = .ok (.ireturn, 1) := by decide +kernel
theorem dX8_readsItem_58 : decode cX8_readsItem 58 = .ok (.iload_n 1, 1) := by decide +kernel
theorem dX8_readsItem_59 : decode cX8_readsItem 59 = .ok (.lookupswitch 81 #[(97, 62), (106, 49), (108, 69), (112, 75), (115, 55)], 49) := by decide +kernel
theorem dX8_readsItem_108 : decode cX8_readsItem 108 = .ok (.aload_n 0, 1) := by decide +kernel
theorem dX8_readsItem_109 : decode cX8_readsItem 109 = .ok (.iload_n 2, 1) := by decide +kernel
theorem dX8_readsItem_110 : decode cX8_readsItem 110 = .ok (.invokevirtual 112, 3) := by decide +kernel
theorem dX8_readsItem_113 : decode cX8_readsItem 113 = .ok (.ireturn, 1) := by decide +kernel
theorem dX8_readsItem_114 : decode cX8_readsItem 114 = .ok (.aload_n 0, 1) := by decide +kernel
theorem dX8_readsItem_115 : decode cX8_readsItem 115 = .ok (.iload_n 2, 1) := by decide +kernel
theorem dX8_readsItem_116 : decode cX8_readsItem 116 = .ok (.iconst 0, 1) := by decide +kernel
theorem dX8_readsItem_117 : decode cX8_readsItem 117 = .ok (.invokevirtual 116, 3) := by decide +kernel
theorem dX8_readsItem_120 : decode cX8_readsItem 120 = .ok (.ireturn, 1) := by decide +kernel
theorem dX8_readsItem_121 : decode cX8_readsItem 121 = .ok (.aload_n 0, 1) := by decide +kernel
theorem dX8_readsItem_122 : decode cX8_readsItem 122 = .ok (.iload_n 2, 1) := by decide +kernel
theorem dX8_readsItem_123 : decode cX8_readsItem 123 = .ok (.iconst 1, 1) := by decide +kernel
theorem dX8_readsItem_124 : decode cX8_readsItem 124 = .ok (.invokevirtual 116, 3) := by decide +kernel
theorem dX8_readsItem_127 : decode cX8_readsItem 127 = .ok (.ireturn, 1) := by decide +kernel
theorem dX8_readsItem_128 : decode cX8_readsItem 128 = .ok (.aload_n 0, 1) := by decide +kernel
theorem dX8_readsItem_129 : decode cX8_readsItem 129 = .ok (.iload_n 2, 1) := by decide +kernel
theorem dX8_readsItem_130 : decode cX8_readsItem 130 = .ok (.invokevirtual 119, 3) := by decide +kernel
theorem dX8_readsItem_133 : decode cX8_readsItem 133 = .ok (.ireturn, 1) := by decide +kernel
theorem dX8_readsItem_134 : decode cX8_readsItem 134 = .ok (.aload_n 0, 1) := by decide +kernel
theorem dX8_readsItem_135 : decode cX8_readsItem 135 = .ok (.iload_n 2, 1) := by decide +kernel
theorem dX8_readsItem_136 : decode cX8_readsItem 136 = .ok (.invokevirtual 122, 3) := by decide +kernel
theorem dX8_readsItem_139 : decode cX8_readsItem 139 = .ok (.ireturn, 1) := by decide +kernel
theorem dX8_readsItem_140 : decode cX8_readsItem 140 = .ok (.iconst 0, 1) := by decide +kernel
theorem dX8_readsItem_141 : decode cX8_readsItem 141 = .ok (.ireturn, 1) := by decide +kernel
set_option maxRecDepth 20000 in
theorem ggX8_reads_X8_clears : GoodIn wsX8_reads wsX8_clears := goodIn_r _ [8, 9, 10, 11, 12, 13, 57, 58, 59, 60, 61, 62, 63, 64, 65, 66, 67, 68, 69, 70, 71, 72, 73, 74, 75, 76, 77, 78, 79, 80, 81, 82] (by decide +kernel) (by decide +kernel)
set_option maxRecDepth 20000 in
theorem gX8_reads_X8_clears : GoodIn wsX8_reads (wsV RX8 59 RX8 yX8_clears wsX8_clears) := goodIn_app (goodIn_of _ (by decide +kernel)) ggX8_reads_X8_clears
set_option maxRecDepth 20000 in
theorem ggX8_reads_X8_readsItem : GoodIn wsX8_reads wsX8_readsItem := goodIn_r _ [17, 18, 9, 19, 20, 21, 7, 22, 3, 2, 23, 24, 25, 26, 1, 27, 28, 29, 30, 31, 32, 33, 11, 34, 35, 36, 37, 38, 39, 40, 41, 10, 42, 43, 44, 45, 12, 46, 47, 48, 49, 50, 51, 52, 53, 54, 55, 56, 13, 57, 58, 59, 60, 61, 62, 63, 64, 65, 66, 67, 68, 69, 70, 71, 72, 73, 74, 75, 76, 77, 78, 79, 80, 81, 82] (by decide +kernel) (by decide +kernel)
set_option maxRecDepth 20000 in
theorem gX8_reads_X8_readsItem : GoodIn wsX8_reads (wsV RX8 125 RX8 yX8_readsItem wsX8_readsItem) := goodIn_app (goodIn_of _ (by decide +kernel)) ggX8_reads_X8_readsItem
set_option maxRecDepth 20000 in
theorem ggX8_reads_X8_letterAt : GoodIn wsX8_reads wsX8_letterAt := goodIn_r _ [26, 1, 2, 57, 58, 59, 60, 61, 62, 63, 64, 65, 66, 67, 68, 69, 70, 71, 72, 73, 74, 75, 76, 77, 78, 79, 80, 81, 82] (by decide +kernel) (by decide +kernel)
set_option maxRecDepth 20000 in
theorem gX8_reads_X8_letterAt : GoodIn wsX8_reads (wsV RX8 94 RX8 yX8_letterAt wsX8_letterAt) := goodIn_app (goodIn_of _ (by decide +kernel)) ggX8_reads_X8_letterAt
theorem dX8_reads_0 : decode cX8_reads 0 = .ok (.aload_n 0, 1) := by decide +kernel
theorem dX8_reads_1 : decode cX8_reads 1 = .ok (.invokevirtual 59, 3) := by decide +kernel
theorem dX8_reads_4 : decode cX8_reads 4 = .ok (.iconst 0, 1) := by decide +kernel
theorem dX8_reads_5 : decode cX8_reads 5 = .ok (.istore_n 1, 1) := by decide +kernel
theorem dX8_reads_6 : decode cX8_reads 6 = .ok (.iload_n 1, 1) := by decide +kernel
theorem dX8_reads_7 : decode cX8_reads 7 = .ok (.aload_n 0, 1) := by decide +kernel
theorem dX8_reads_8 : decode cX8_reads 8 = .ok (.getfield 85, 3) := by decide +kernel
theorem dX8_reads_11 : decode cX8_reads 11 = .ok (.if_icmp .ge 44, 3) := by decide +kernel
theorem dX8_reads_14 : decode cX8_reads 14 = .ok (.aload_n 0, 1) := by decide +kernel
theorem dX8_reads_15 : decode cX8_reads 15 = .ok (.aload_n 0, 1) := by decide +kernel
theorem dX8_reads_16 : decode cX8_reads 16 = .ok (.getfield 7, 3) := by decide +kernel
theorem dX8_reads_19 : decode cX8_reads 19 = .ok (.iload_n 1, 1) := by decide +kernel
theorem dX8_reads_20 : decode cX8_reads 20 = .ok (.iaload, 1) := by decide +kernel
theorem dX8_reads_21 : decode cX8_reads 21 = .ok (.iload_n 1, 1) := by decide +kernel
theorem dX8_reads_22 : decode cX8_reads 22 = .ok (.iconst 1, 1) := by decide +kernel
theorem dX8_reads_23 : decode cX8_reads 23 = .ok (.iadd, 1) := by decide +kernel
theorem dX8_reads_24 : decode cX8_reads 24 = .ok (.invokevirtual 125, 3) := by decide +kernel
theorem dX8_reads_27 : decode cX8_reads 27 = .ok (.ifCond .eq 16, 3) := by decide +kernel
theorem dX8_reads_30 : decode cX8_reads 30 = .ok (.aload_n 0, 1) := by decide +kernel
theorem dX8_reads_31 : decode cX8_reads 31 = .ok (.aload_n 0, 1) := by decide +kernel
theorem dX8_reads_32 : decode cX8_reads 32 = .ok (.getfield 91, 3) := by decide +kernel
theorem dX8_reads_35 : decode cX8_reads 35 = .ok (.invokevirtual 94, 3) := by decide +kernel
theorem dX8_reads_38 : decode cX8_reads 38 = .ok (.bipush 59, 2) := by decide +kernel
theorem dX8_reads_40 : decode cX8_reads 40 = .ok (.if_icmp .eq 5, 3) := by decide +kernel
theorem dX8_reads_43 : decode cX8_reads 43 = .ok (.iload_n 1, 1) := by decide +kernel
theorem dX8_reads_44 : decode cX8_reads 44 = .ok (.ireturn, 1) := by decide +kernel
theorem dX8_reads_45 : decode cX8_reads 45 = .ok (.aload_n 0, 1) := by decide +kernel
theorem dX8_reads_46 : decode cX8_reads 46 = .ok (.getfield 91, 3) := by decide +kernel
theorem dX8_reads_49 : decode cX8_reads 49 = .ok (.iconst 1, 1) := by decide +kernel
theorem dX8_reads_50 : decode cX8_reads 50 = .ok (.iadd, 1) := by decide +kernel
theorem dX8_reads_51 : decode cX8_reads 51 = .ok (.istore_n 1, 1) := by decide +kernel
theorem dX8_reads_52 : decode cX8_reads 52 = .ok (.goto (-46), 3) := by decide +kernel
theorem dX8_reads_55 : decode cX8_reads 55 = .ok (.bipush (-4), 2) := by decide +kernel
theorem dX8_reads_57 : decode cX8_reads 57 = .ok (.ireturn, 1) := by decide +kernel
theorem dX8_hang_0 : decode cX8_hang 0 = .ok (.iconst 1, 1) := by decide +kernel
theorem dX8_hang_1 : decode cX8_hang 1 = .ok (.istore_n 1, 1) := by decide +kernel
theorem dX8_hang_2 : decode cX8_hang 2 = .ok (.iconst 0, 1) := by decide +kernel
theorem dX8_hang_3 : decode cX8_hang 3 = .ok (.istore_n 2, 1) := by decide +kernel
theorem dX8_hang_4 : decode cX8_hang 4 = .ok (.iload_n 2, 1) := by decide +kernel
theorem dX8_hang_5 : decode cX8_hang 5 = .ok (.aload_n 0, 1) := by decide +kernel
theorem dX8_hang_6 : decode cX8_hang 6 = .ok (.getfield 62, 3) := by decide +kernel
theorem dX8_hang_9 : decode cX8_hang 9 = .ok (.if_icmp .ge 57, 3) := by decide +kernel
theorem dX8_hang_12 : decode cX8_hang 12 = .ok (.iconst 0, 1) := by decide +kernel
theorem dX8_hang_13 : decode cX8_hang 13 = .ok (.istore_n 3, 1) := by decide +kernel
theorem dX8_hang_14 : decode cX8_hang 14 = .ok (.iload_n 3, 1) := by decide +kernel
theorem dX8_hang_15 : decode cX8_hang 15 = .ok (.bipush 36, 2) := by decide +kernel
theorem dX8_hang_17 : decode cX8_hang 17 = .ok (.if_icmp .ge 43, 3) := by decide +kernel
theorem dX8_hang_20 : decode cX8_hang 20 = .ok (.iload_n 1, 1) := by decide +kernel
theorem dX8_hang_21 : decode cX8_hang 21 = .ok (.aload_n 0, 1) := by decide +kernel
theorem dX8_hang_22 : decode cX8_hang 22 = .ok (.getfield 25, 3) := by decide +kernel
theorem dX8_hang_25 : decode cX8_hang 25 = .ok (.iload_n 3, 1) := by decide +kernel
theorem dX8_hang_26 : decode cX8_hang 26 = .ok (.iaload, 1) := by decide +kernel
theorem dX8_hang_27 : decode cX8_hang 27 = .ok (.ifCond .le 24, 3) := by decide +kernel
theorem dX8_hang_30 : decode cX8_hang 30 = .ok (.iload_n 1, 1) := by decide +kernel
theorem dX8_hang_31 : decode cX8_hang 31 = .ok (.iload_n 3, 1) := by decide +kernel
theorem dX8_hang_32 : decode cX8_hang 32 = .ok (.bipush 6, 2) := by decide +kernel
theorem dX8_hang_34 : decode cX8_hang 34 = .ok (.idiv, 1) := by decide +kernel
theorem dX8_hang_35 : decode cX8_hang 35 = .ok (.ishr, 1) := by decide +kernel
theorem dX8_hang_36 : decode cX8_hang 36 = .ok (.iconst 1, 1) := by decide +kernel
theorem dX8_hang_37 : decode cX8_hang 37 = .ok (.iand, 1) := by decide +kernel
theorem dX8_hang_38 : decode cX8_hang 38 = .ok (.iconst 1, 1) := by decide +kernel
theorem dX8_hang_39 : decode cX8_hang 39 = .ok (.if_icmp .ne 12, 3) := by decide +kernel
theorem dX8_hang_42 : decode cX8_hang 42 = .ok (.iconst 1, 1) := by decide +kernel
theorem dX8_hang_43 : decode cX8_hang 43 = .ok (.iload_n 3, 1) := by decide +kernel
theorem dX8_hang_44 : decode cX8_hang 44 = .ok (.bipush 6, 2) := by decide +kernel
theorem dX8_hang_46 : decode cX8_hang 46 = .ok (.irem, 1) := by decide +kernel
theorem dX8_hang_47 : decode cX8_hang 47 = .ok (.ishl, 1) := by decide +kernel
theorem dX8_hang_48 : decode cX8_hang 48 = .ok (.goto 4, 3) := by decide +kernel
theorem dX8_hang_51 : decode cX8_hang 51 = .ok (.iconst 0, 1) := by decide +kernel
theorem dX8_hang_52 : decode cX8_hang 52 = .ok (.ior, 1) := by decide +kernel
theorem dX8_hang_53 : decode cX8_hang 53 = .ok (.istore_n 1, 1) := by decide +kernel
theorem dX8_hang_54 : decode cX8_hang 54 = .ok (.iinc 3 1, 3) := by decide +kernel
theorem dX8_hang_57 : decode cX8_hang 57 = .ok (.goto (-43), 3) := by decide +kernel
theorem dX8_hang_60 : decode cX8_hang 60 = .ok (.iinc 2 1, 3) := by decide +kernel
theorem dX8_hang_63 : decode cX8_hang 63 = .ok (.goto (-59), 3) := by decide +kernel
theorem dX8_hang_66 : decode cX8_hang 66 = .ok (.aload_n 0, 1) := by decide +kernel
theorem dX8_hang_67 : decode cX8_hang 67 = .ok (.getfield 62, 3) := by decide +kernel
theorem dX8_hang_70 : decode cX8_hang 70 = .ok (.ifCond .le 19, 3) := by decide +kernel
theorem dX8_hang_73 : decode cX8_hang 73 = .ok (.iload_n 1, 1) := by decide +kernel
theorem dX8_hang_74 : decode cX8_hang 74 = .ok (.iconst 1, 1) := by decide +kernel
theorem dX8_hang_75 : decode cX8_hang 75 = .ok (.aload_n 0, 1) := by decide +kernel
theorem dX8_hang_76 : decode cX8_hang 76 = .ok (.getfield 62, 3) := by decide +kernel
theorem dX8_hang_79 : decode cX8_hang 79 = .ok (.ishl, 1) := by decide +kernel
theorem dX8_hang_80 : decode cX8_hang 80 = .ok (.iconst 1, 1) := by decide +kernel
theorem dX8_hang_81 : decode cX8_hang 81 = .ok (.isub, 1) := by decide +kernel
theorem dX8_hang_82 : decode cX8_hang 82 = .ok (.if_icmp .ne 7, 3) := by decide +kernel
theorem dX8_hang_85 : decode cX8_hang 85 = .ok (.iconst 1, 1) := by decide +kernel
theorem dX8_hang_86 : decode cX8_hang 86 = .ok (.goto 4, 3) := by decide +kernel
theorem dX8_hang_89 : decode cX8_hang 89 = .ok (.iconst 0, 1) := by decide +kernel
theorem dX8_hang_90 : decode cX8_hang 90 = .ok (.ireturn, 1) := by decide +kernel
theorem dX8_write_0 : decode cX8_write 0 = .ok (.iload_n 1, 1) := by decide +kernel
theorem dX8_write_1 : decode cX8_write 1 = .ok (.bipush 32, 2) := by decide +kernel
theorem dX8_write_3 : decode cX8_write 3 = .ok (.if_icmp .lt 9, 3) := by decide +kernel
theorem dX8_write_6 : decode cX8_write 6 = .ok (.iload_n 1, 1) := by decide +kernel
theorem dX8_write_7 : decode cX8_write 7 = .ok (.bipush 126, 2) := by decide +kernel
theorem dX8_write_9 : decode cX8_write 9 = .ok (.if_icmp .le 5, 3) := by decide +kernel
theorem dX8_write_12 : decode cX8_write 12 = .ok (.iconst (-1), 1) := by decide +kernel
theorem dX8_write_13 : decode cX8_write 13 = .ok (.ireturn, 1) := by decide +kernel
theorem dX8_write_14 : decode cX8_write 14 = .ok (.aload_n 0, 1) := by decide +kernel
theorem dX8_write_15 : decode cX8_write 15 = .ok (.getfield 85, 3) := by decide +kernel
theorem dX8_write_18 : decode cX8_write 18 = .ok (.sipush 200, 3) := by decide +kernel
theorem dX8_write_21 : decode cX8_write 21 = .ok (.if_icmp .ne 6, 3) := by decide +kernel
theorem dX8_write_24 : decode cX8_write 24 = .ok (.bipush (-3), 2) := by decide +kernel
theorem dX8_write_26 : decode cX8_write 26 = .ok (.ireturn, 1) := by decide +kernel
theorem dX8_write_27 : decode cX8_write 27 = .ok (.aload_n 0, 1) := by decide +kernel
theorem dX8_write_28 : decode cX8_write 28 = .ok (.getfield 7, 3) := by decide +kernel
theorem dX8_write_31 : decode cX8_write 31 = .ok (.aload_n 0, 1) := by decide +kernel
theorem dX8_write_32 : decode cX8_write 32 = .ok (.getfield 85, 3) := by decide +kernel
theorem dX8_write_35 : decode cX8_write 35 = .ok (.iload_n 1, 1) := by decide +kernel
theorem dX8_write_36 : decode cX8_write 36 = .ok (.iastore, 1) := by decide +kernel
theorem dX8_write_37 : decode cX8_write 37 = .ok (.aload_n 0, 1) := by decide +kernel
theorem dX8_write_38 : decode cX8_write 38 = .ok (.dup, 1) := by decide +kernel
theorem dX8_write_39 : decode cX8_write 39 = .ok (.getfield 85, 3) := by decide +kernel
theorem dX8_write_42 : decode cX8_write 42 = .ok (.iconst 1, 1) := by decide +kernel
theorem dX8_write_43 : decode cX8_write 43 = .ok (.iadd, 1) := by decide +kernel
theorem dX8_write_44 : decode cX8_write 44 = .ok (.putfield 85, 3) := by decide +kernel
theorem dX8_write_47 : decode cX8_write 47 = .ok (.aload_n 0, 1) := by decide +kernel
theorem dX8_write_48 : decode cX8_write 48 = .ok (.getfield 85, 3) := by decide +kernel
theorem dX8_write_51 : decode cX8_write 51 = .ok (.ireturn, 1) := by decide +kernel
theorem dX8_wipe_0 : decode cX8_wipe 0 = .ok (.aload_n 0, 1) := by decide +kernel
theorem dX8_wipe_1 : decode cX8_wipe 1 = .ok (.getfield 85, 3) := by decide +kernel
theorem dX8_wipe_4 : decode cX8_wipe 4 = .ok (.istore_n 1, 1) := by decide +kernel
theorem dX8_wipe_5 : decode cX8_wipe 5 = .ok (.aload_n 0, 1) := by decide +kernel
theorem dX8_wipe_6 : decode cX8_wipe 6 = .ok (.iconst 0, 1) := by decide +kernel
theorem dX8_wipe_7 : decode cX8_wipe 7 = .ok (.putfield 85, 3) := by decide +kernel
theorem dX8_wipe_10 : decode cX8_wipe 10 = .ok (.iload_n 1, 1) := by decide +kernel
theorem dX8_wipe_11 : decode cX8_wipe 11 = .ok (.ireturn, 1) := by decide +kernel
set_option maxRecDepth 20000 in
theorem ggX8_fault_X8_reads : GoodIn wsX8_fault wsX8_reads := goodIn_r _ [5, 6, 7, 8, 9, 10, 11, 4, 12, 13, 14, 15, 16, 17, 18, 19, 20, 21, 22, 23, 24, 25, 26, 27, 28, 29, 30, 31, 32, 33, 34, 35, 36, 37, 38, 39, 40, 41, 42, 43, 44, 45, 46, 47, 48, 49, 50, 51, 52, 53, 54, 55, 56, 57, 58, 59, 60, 61, 62, 63, 64, 65, 66, 67, 68, 69, 70, 71, 72, 73, 74, 75, 76, 77, 78, 79, 80, 81, 82, 83, 84, 85, 86] (by decide +kernel) (by decide +kernel)
set_option maxRecDepth 20000 in
theorem gX8_fault_X8_reads : GoodIn wsX8_fault (wsV RX8 128 RX8 yX8_reads wsX8_reads) := goodIn_app (goodIn_of _ (by decide +kernel)) ggX8_fault_X8_reads
theorem dX8_fault_0 : decode cX8_fault 0 = .ok (.aload_n 0, 1) := by decide +kernel
theorem dX8_fault_1 : decode cX8_fault 1 = .ok (.invokevirtual 128, 3) := by decide +kernel
theorem dX8_fault_4 : decode cX8_fault 4 = .ok (.ireturn, 1) := by decide +kernel
set_option maxRecDepth 20000 in
theorem ggX8_lay_X8_reads : GoodIn wsX8_lay wsX8_reads := goodIn_r _ [6, 7, 8, 9, 10, 11, 12, 5, 13, 14, 15, 16, 17, 18, 19, 20, 21, 22, 23, 24, 25, 26, 27, 28, 29, 30, 31, 32, 33, 34, 35, 36, 37, 38, 39, 40, 41, 42, 43, 44, 45, 46, 47, 48, 49, 50, 51, 52, 53, 54, 55, 56, 57, 58, 59, 60, 61, 75, 76, 77, 78, 79, 80, 81, 82, 83, 84, 85, 86, 87, 88, 89, 90, 91, 92, 93, 94, 95, 96, 97, 98, 99, 100] (by decide +kernel) (by decide +kernel)
set_option maxRecDepth 20000 in
theorem gX8_lay_X8_reads : GoodIn wsX8_lay (wsV RX8 128 RX8 yX8_reads wsX8_reads) := goodIn_app (goodIn_of _ (by decide +kernel)) ggX8_lay_X8_reads
set_option maxRecDepth 20000 in
theorem ggX8_lay_X8_hang : GoodIn wsX8_lay wsX8_hang := goodIn_r _ [65, 14, 16, 75, 76, 77, 78, 79, 80, 81, 82, 83, 84, 85, 86, 87, 88, 89, 90, 91, 92, 93, 94, 95, 96, 97, 98, 99, 100] (by decide +kernel) (by decide +kernel)
set_option maxRecDepth 20000 in
theorem gX8_lay_X8_hang : GoodIn wsX8_lay (wsV RX8 132 RX8 yX8_hang wsX8_hang) := goodIn_app (goodIn_of _ (by decide +kernel)) ggX8_lay_X8_hang
set_option maxRecDepth 20000 in
theorem ggX8_lay_X8_takes : GoodIn wsX8_lay wsX8_takes := goodIn_r _ [69, 14, 1, 15, 70, 71, 16, 72, 17, 73, 18, 74, 75, 76, 77, 78, 79, 80, 81, 82, 83, 84, 85, 86, 87, 88, 89, 90, 91, 92, 93, 94, 95, 96, 97, 98, 99, 100] (by decide +kernel) (by decide +kernel)
set_option maxRecDepth 20000 in
theorem gX8_lay_X8_takes : GoodIn wsX8_lay (wsV RX8 70 RX8 yX8_takes wsX8_takes) := goodIn_app (goodIn_of _ (by decide +kernel)) ggX8_lay_X8_takes
theorem dX8_lay_0 : decode cX8_lay 0 = .ok (.aload_n 0, 1) := by decide +kernel
theorem dX8_lay_1 : decode cX8_lay 1 = .ok (.invokevirtual 128, 3) := by decide +kernel
theorem dX8_lay_4 : decode cX8_lay 4 = .ok (.bipush (-4), 2) := by decide +kernel
theorem dX8_lay_6 : decode cX8_lay 6 = .ok (.if_icmp .ne 10, 3) := by decide +kernel
theorem dX8_lay_9 : decode cX8_lay 9 = .ok (.aload_n 0, 1) := by decide +kernel
theorem dX8_lay_10 : decode cX8_lay 10 = .ok (.invokevirtual 132, 3) := by decide +kernel
theorem dX8_lay_13 : decode cX8_lay 13 = .ok (.ifCond .ne 6, 3) := by decide +kernel
theorem dX8_lay_16 : decode cX8_lay 16 = .ok (.bipush (-2), 2) := by decide +kernel
theorem dX8_lay_18 : decode cX8_lay 18 = .ok (.ireturn, 1) := by decide +kernel
theorem dX8_lay_19 : decode cX8_lay 19 = .ok (.aload_n 0, 1) := by decide +kernel
theorem dX8_lay_20 : decode cX8_lay 20 = .ok (.invokevirtual 70, 3) := by decide +kernel
theorem dX8_lay_23 : decode cX8_lay 23 = .ok (.aload_n 0, 1) := by decide +kernel
theorem dX8_lay_24 : decode cX8_lay 24 = .ok (.getfield 76, 3) := by decide +kernel
theorem dX8_lay_27 : decode cX8_lay 27 = .ok (.ireturn, 1) := by decide +kernel
theorem dX8_keeps_0 : decode cX8_keeps 0 = .ok (.aload_n 0, 1) := by decide +kernel
theorem dX8_keeps_1 : decode cX8_keeps 1 = .ok (.getfield 82, 3) := by decide +kernel
theorem dX8_keeps_4 : decode cX8_keeps 4 = .ok (.bipush 6, 2) := by decide +kernel
theorem dX8_keeps_6 : decode cX8_keeps 6 = .ok (.if_icmp .ne 42, 3) := by decide +kernel
theorem dX8_keeps_9 : decode cX8_keeps 9 = .ok (.iconst 0, 1) := by decide +kernel
theorem dX8_keeps_10 : decode cX8_keeps 10 = .ok (.istore_n 1, 1) := by decide +kernel
theorem dX8_keeps_11 : decode cX8_keeps 11 = .ok (.iload_n 1, 1) := by decide +kernel
theorem dX8_keeps_12 : decode cX8_keeps 12 = .ok (.bipush 100, 2) := by decide +kernel
theorem dX8_keeps_14 : decode cX8_keeps 14 = .ok (.if_icmp .ge 24, 3) := by decide +kernel
theorem dX8_keeps_17 : decode cX8_keeps 17 = .ok (.aload_n 0, 1) := by decide +kernel
theorem dX8_keeps_18 : decode cX8_keeps 18 = .ok (.getfield 22, 3) := by decide +kernel
theorem dX8_keeps_21 : decode cX8_keeps 21 = .ok (.iload_n 1, 1) := by decide +kernel
theorem dX8_keeps_22 : decode cX8_keeps 22 = .ok (.aload_n 0, 1) := by decide +kernel
theorem dX8_keeps_23 : decode cX8_keeps 23 = .ok (.getfield 22, 3) := by decide +kernel
theorem dX8_keeps_26 : decode cX8_keeps 26 = .ok (.iload_n 1, 1) := by decide +kernel
theorem dX8_keeps_27 : decode cX8_keeps 27 = .ok (.bipush 20, 2) := by decide +kernel
theorem dX8_keeps_29 : decode cX8_keeps 29 = .ok (.iadd, 1) := by decide +kernel
theorem dX8_keeps_30 : decode cX8_keeps 30 = .ok (.iaload, 1) := by decide +kernel
theorem dX8_keeps_31 : decode cX8_keeps 31 = .ok (.iastore, 1) := by decide +kernel
theorem dX8_keeps_32 : decode cX8_keeps 32 = .ok (.iinc 1 1, 3) := by decide +kernel
theorem dX8_keeps_35 : decode cX8_keeps 35 = .ok (.goto (-24), 3) := by decide +kernel
theorem dX8_keeps_38 : decode cX8_keeps 38 = .ok (.aload_n 0, 1) := by decide +kernel
theorem dX8_keeps_39 : decode cX8_keeps 39 = .ok (.dup, 1) := by decide +kernel
theorem dX8_keeps_40 : decode cX8_keeps 40 = .ok (.getfield 82, 3) := by decide +kernel
theorem dX8_keeps_43 : decode cX8_keeps 43 = .ok (.iconst 1, 1) := by decide +kernel
theorem dX8_keeps_44 : decode cX8_keeps 44 = .ok (.isub, 1) := by decide +kernel
theorem dX8_keeps_45 : decode cX8_keeps 45 = .ok (.putfield 82, 3) := by decide +kernel
theorem dX8_keeps_48 : decode cX8_keeps 48 = .ok (.iconst 0, 1) := by decide +kernel
theorem dX8_keeps_49 : decode cX8_keeps 49 = .ok (.istore_n 1, 1) := by decide +kernel
theorem dX8_keeps_50 : decode cX8_keeps 50 = .ok (.iload_n 1, 1) := by decide +kernel
theorem dX8_keeps_51 : decode cX8_keeps 51 = .ok (.bipush 20, 2) := by decide +kernel
theorem dX8_keeps_53 : decode cX8_keeps 53 = .ok (.if_icmp .ge 29, 3) := by decide +kernel
theorem dX8_keeps_56 : decode cX8_keeps 56 = .ok (.aload_n 0, 1) := by decide +kernel
theorem dX8_keeps_57 : decode cX8_keeps 57 = .ok (.getfield 22, 3) := by decide +kernel
theorem dX8_keeps_60 : decode cX8_keeps 60 = .ok (.bipush 20, 2) := by decide +kernel
theorem dX8_keeps_62 : decode cX8_keeps 62 = .ok (.aload_n 0, 1) := by decide +kernel
theorem dX8_keeps_63 : decode cX8_keeps 63 = .ok (.getfield 82, 3) := by decide +kernel
theorem dX8_keeps_66 : decode cX8_keeps 66 = .ok (.imul, 1) := by decide +kernel
theorem dX8_keeps_67 : decode cX8_keeps 67 = .ok (.iload_n 1, 1) := by decide +kernel
theorem dX8_keeps_68 : decode cX8_keeps 68 = .ok (.iadd, 1) := by decide +kernel
theorem dX8_keeps_69 : decode cX8_keeps 69 = .ok (.aload_n 0, 1) := by decide +kernel
theorem dX8_keeps_70 : decode cX8_keeps 70 = .ok (.getfield 19, 3) := by decide +kernel
theorem dX8_keeps_73 : decode cX8_keeps 73 = .ok (.iload_n 1, 1) := by decide +kernel
theorem dX8_keeps_74 : decode cX8_keeps 74 = .ok (.iaload, 1) := by decide +kernel
theorem dX8_keeps_75 : decode cX8_keeps 75 = .ok (.iastore, 1) := by decide +kernel
theorem dX8_keeps_76 : decode cX8_keeps 76 = .ok (.iinc 1 1, 3) := by decide +kernel
theorem dX8_keeps_79 : decode cX8_keeps 79 = .ok (.goto (-29), 3) := by decide +kernel
theorem dX8_keeps_82 : decode cX8_keeps 82 = .ok (.aload_n 0, 1) := by decide +kernel
theorem dX8_keeps_83 : decode cX8_keeps 83 = .ok (.dup, 1) := by decide +kernel
theorem dX8_keeps_84 : decode cX8_keeps 84 = .ok (.getfield 82, 3) := by decide +kernel
theorem dX8_keeps_87 : decode cX8_keeps 87 = .ok (.iconst 1, 1) := by decide +kernel
theorem dX8_keeps_88 : decode cX8_keeps 88 = .ok (.iadd, 1) := by decide +kernel
theorem dX8_keeps_89 : decode cX8_keeps 89 = .ok (.putfield 82, 3) := by decide +kernel
theorem dX8_keeps_92 : decode cX8_keeps 92 = .ok (.return_, 1) := by decide +kernel
theorem dX8_undo_0 : decode cX8_undo 0 = .ok (.aload_n 0, 1) := by decide +kernel
theorem dX8_undo_1 : decode cX8_undo 1 = .ok (.getfield 82, 3) := by decide +kernel
theorem dX8_undo_4 : decode cX8_undo 4 = .ok (.ifCond .ne 6, 3) := by decide +kernel
theorem dX8_undo_7 : decode cX8_undo 7 = .ok (.bipush (-2), 2) := by decide +kernel
theorem dX8_undo_9 : decode cX8_undo 9 = .ok (.ireturn, 1) := by decide +kernel
theorem dX8_undo_10 : decode cX8_undo 10 = .ok (.aload_n 0, 1) := by decide +kernel
theorem dX8_undo_11 : decode cX8_undo 11 = .ok (.dup, 1) := by decide +kernel
theorem dX8_undo_12 : decode cX8_undo 12 = .ok (.getfield 82, 3) := by decide +kernel
theorem dX8_undo_15 : decode cX8_undo 15 = .ok (.iconst 1, 1) := by decide +kernel
theorem dX8_undo_16 : decode cX8_undo 16 = .ok (.isub, 1) := by decide +kernel
theorem dX8_undo_17 : decode cX8_undo 17 = .ok (.putfield 82, 3) := by decide +kernel
theorem dX8_undo_20 : decode cX8_undo 20 = .ok (.iconst 0, 1) := by decide +kernel
theorem dX8_undo_21 : decode cX8_undo 21 = .ok (.istore_n 1, 1) := by decide +kernel
theorem dX8_undo_22 : decode cX8_undo 22 = .ok (.iload_n 1, 1) := by decide +kernel
theorem dX8_undo_23 : decode cX8_undo 23 = .ok (.bipush 20, 2) := by decide +kernel
theorem dX8_undo_25 : decode cX8_undo 25 = .ok (.if_icmp .ge 29, 3) := by decide +kernel
theorem dX8_undo_28 : decode cX8_undo 28 = .ok (.aload_n 0, 1) := by decide +kernel
theorem dX8_undo_29 : decode cX8_undo 29 = .ok (.getfield 19, 3) := by decide +kernel
theorem dX8_undo_32 : decode cX8_undo 32 = .ok (.iload_n 1, 1) := by decide +kernel
theorem dX8_undo_33 : decode cX8_undo 33 = .ok (.aload_n 0, 1) := by decide +kernel
theorem dX8_undo_34 : decode cX8_undo 34 = .ok (.getfield 22, 3) := by decide +kernel
theorem dX8_undo_37 : decode cX8_undo 37 = .ok (.bipush 20, 2) := by decide +kernel
theorem dX8_undo_39 : decode cX8_undo 39 = .ok (.aload_n 0, 1) := by decide +kernel
theorem dX8_undo_40 : decode cX8_undo 40 = .ok (.getfield 82, 3) := by decide +kernel
theorem dX8_undo_43 : decode cX8_undo 43 = .ok (.imul, 1) := by decide +kernel
theorem dX8_undo_44 : decode cX8_undo 44 = .ok (.iload_n 1, 1) := by decide +kernel
theorem dX8_undo_45 : decode cX8_undo 45 = .ok (.iadd, 1) := by decide +kernel
theorem dX8_undo_46 : decode cX8_undo 46 = .ok (.iaload, 1) := by decide +kernel
theorem dX8_undo_47 : decode cX8_undo 47 = .ok (.iastore, 1) := by decide +kernel
theorem dX8_undo_48 : decode cX8_undo 48 = .ok (.iinc 1 1, 3) := by decide +kernel
theorem dX8_undo_51 : decode cX8_undo 51 = .ok (.goto (-29), 3) := by decide +kernel
theorem dX8_undo_54 : decode cX8_undo 54 = .ok (.aload_n 0, 1) := by decide +kernel
theorem dX8_undo_55 : decode cX8_undo 55 = .ok (.getfield 82, 3) := by decide +kernel
theorem dX8_undo_58 : decode cX8_undo 58 = .ok (.ireturn, 1) := by decide +kernel
set_option maxRecDepth 20000 in
theorem ggX8_isCell_X8_isIn : GoodIn wsX8_isCell wsX8_isIn := goodIn_r _ [5] (by decide +kernel) (by decide +kernel)
set_option maxRecDepth 20000 in
theorem gX8_isCell_X8_isIn : GoodIn wsX8_isCell (va_wsS RX8 98 yX8_isIn wsX8_isIn) := goodIn_app (goodIn_of _ (by decide +kernel)) ggX8_isCell_X8_isIn
theorem dX8_isCell_0 : decode cX8_isCell 0 = .ok (.iload_n 1, 1) := by decide +kernel
theorem dX8_isCell_1 : decode cX8_isCell 1 = .ok (.iconst 0, 1) := by decide +kernel
theorem dX8_isCell_2 : decode cX8_isCell 2 = .ok (.aload_n 0, 1) := by decide +kernel
theorem dX8_isCell_3 : decode cX8_isCell 3 = .ok (.getfield 76, 3) := by decide +kernel
theorem dX8_isCell_6 : decode cX8_isCell 6 = .ok (.iconst 1, 1) := by decide +kernel
theorem dX8_isCell_7 : decode cX8_isCell 7 = .ok (.isub, 1) := by decide +kernel
theorem dX8_isCell_8 : decode cX8_isCell 8 = .ok (.invokestatic 98, 3) := by decide +kernel
theorem dX8_isCell_11 : decode cX8_isCell 11 = .ok (.ireturn, 1) := by decide +kernel
theorem dX8_registers_0 : decode cX8_registers 0 = .ok (.aload_n 0, 1) := by decide +kernel
theorem dX8_registers_1 : decode cX8_registers 1 = .ok (.bipush 15, 2) := by decide +kernel
theorem dX8_registers_3 : decode cX8_registers 3 = .ok (.aload_n 0, 1) := by decide +kernel
theorem dX8_registers_4 : decode cX8_registers 4 = .ok (.bipush 14, 2) := by decide +kernel
theorem dX8_registers_6 : decode cX8_registers 6 = .ok (.iaload, 1) := by decide +kernel
theorem dX8_registers_7 : decode cX8_registers 7 = .ok (.iastore, 1) := by decide +kernel
theorem dX8_registers_8 : decode cX8_registers 8 = .ok (.aload_n 0, 1) := by decide +kernel
theorem dX8_registers_9 : decode cX8_registers 9 = .ok (.bipush 16, 2) := by decide +kernel
theorem dX8_registers_11 : decode cX8_registers 11 = .ok (.iconst 0, 1) := by decide +kernel
theorem dX8_registers_12 : decode cX8_registers 12 = .ok (.iastore, 1) := by decide +kernel
theorem dX8_registers_13 : decode cX8_registers 13 = .ok (.aload_n 0, 1) := by decide +kernel
theorem dX8_registers_14 : decode cX8_registers 14 = .ok (.bipush 17, 2) := by decide +kernel
theorem dX8_registers_16 : decode cX8_registers 16 = .ok (.iconst 0, 1) := by decide +kernel
theorem dX8_registers_17 : decode cX8_registers 17 = .ok (.iastore, 1) := by decide +kernel
theorem dX8_registers_18 : decode cX8_registers 18 = .ok (.return_, 1) := by decide +kernel
set_option maxRecDepth 20000 in
theorem ggX8_set_X8_isCell : GoodIn wsX8_set wsX8_isCell := goodIn_r _ [6, 7, 8, 9, 5, 10, 20, 21, 22, 23, 24, 25, 26, 27, 28, 29, 30, 31, 32, 33, 34, 35, 36, 37, 38, 39, 40, 41, 42, 43, 44, 45] (by decide +kernel) (by decide +kernel)
set_option maxRecDepth 20000 in
theorem gX8_set_X8_isCell : GoodIn wsX8_set (wsV RX8 136 RX8 yX8_isCell wsX8_isCell) := goodIn_app (goodIn_of _ (by decide +kernel)) ggX8_set_X8_isCell
set_option maxRecDepth 20000 in
theorem ggX8_set_X8_isIn : GoodIn wsX8_set wsX8_isIn := goodIn_r _ [10] (by decide +kernel) (by decide +kernel)
set_option maxRecDepth 20000 in
theorem gX8_set_X8_isIn : GoodIn wsX8_set (va_wsS RX8 98 yX8_isIn wsX8_isIn) := goodIn_app (goodIn_of _ (by decide +kernel)) ggX8_set_X8_isIn
set_option maxRecDepth 20000 in
theorem ggX8_set_X8_keeps : GoodIn wsX8_set wsX8_keeps := goodIn_r _ [14, 15, 16, 1, 20, 21, 22, 23, 24, 25, 26, 27, 28, 29, 30, 31, 32, 33, 34, 35, 36, 37, 38, 39, 40, 41, 42, 43, 44, 45] (by decide +kernel) (by decide +kernel)
set_option maxRecDepth 20000 in
theorem gX8_set_X8_keeps : GoodIn wsX8_set (wsV RX8 139 RX8 yX8_keeps wsX8_keeps) := goodIn_app (goodIn_of _ (by decide +kernel)) ggX8_set_X8_keeps
set_option maxRecDepth 20000 in
theorem ggX8_set_X8_registers : GoodIn wsX8_set wsX8_registers := goodIn_r _ [19] (by decide +kernel) (by decide +kernel)
set_option maxRecDepth 20000 in
theorem gX8_set_X8_registers : GoodIn wsX8_set (va_wsS RX8 142 yX8_registers wsX8_registers) := goodIn_app (goodIn_of _ (by decide +kernel)) ggX8_set_X8_registers
theorem dX8_set_0 : decode cX8_set 0 = .ok (.aload_n 0, 1) := by decide +kernel
theorem dX8_set_1 : decode cX8_set 1 = .ok (.iload_n 1, 1) := by decide +kernel
theorem dX8_set_2 : decode cX8_set 2 = .ok (.invokevirtual 136, 3) := by decide +kernel
theorem dX8_set_5 : decode cX8_set 5 = .ok (.ifCond .eq 30, 3) := by decide +kernel
theorem dX8_set_8 : decode cX8_set 8 = .ok (.iload_n 2, 1) := by decide +kernel
theorem dX8_set_9 : decode cX8_set 9 = .ok (.iconst 0, 1) := by decide +kernel
theorem dX8_set_10 : decode cX8_set 10 = .ok (.iconst 1, 1) := by decide +kernel
theorem dX8_set_11 : decode cX8_set 11 = .ok (.invokestatic 98, 3) := by decide +kernel
theorem dX8_set_14 : decode cX8_set 14 = .ok (.ifCond .eq 21, 3) := by decide +kernel
theorem dX8_set_17 : decode cX8_set 17 = .ok (.iload_n 3, 1) := by decide +kernel
theorem dX8_set_18 : decode cX8_set 18 = .ok (.iconst 0, 1) := by decide +kernel
theorem dX8_set_19 : decode cX8_set 19 = .ok (.iload_n 2, 1) := by decide +kernel
theorem dX8_set_20 : decode cX8_set 20 = .ok (.ifCond .ne 8, 3) := by decide +kernel
theorem dX8_set_23 : decode cX8_set 23 = .ok (.bipush 9, 2) := by decide +kernel
theorem dX8_set_25 : decode cX8_set 25 = .ok (.goto 4, 3) := by decide +kernel
theorem dX8_set_28 : decode cX8_set 28 = .ok (.iconst 5, 1) := by decide +kernel
theorem dX8_set_29 : decode cX8_set 29 = .ok (.invokestatic 98, 3) := by decide +kernel
theorem dX8_set_32 : decode cX8_set 32 = .ok (.ifCond .ne 5, 3) := by decide +kernel
theorem dX8_set_35 : decode cX8_set 35 = .ok (.iconst (-1), 1) := by decide +kernel
theorem dX8_set_36 : decode cX8_set 36 = .ok (.ireturn, 1) := by decide +kernel
theorem dX8_set_37 : decode cX8_set 37 = .ok (.aload_n 0, 1) := by decide +kernel
theorem dX8_set_38 : decode cX8_set 38 = .ok (.getfield 19, 3) := by decide +kernel
theorem dX8_set_41 : decode cX8_set 41 = .ok (.bipush 6, 2) := by decide +kernel
theorem dX8_set_43 : decode cX8_set 43 = .ok (.iload_n 2, 1) := by decide +kernel
theorem dX8_set_44 : decode cX8_set 44 = .ok (.imul, 1) := by decide +kernel
theorem dX8_set_45 : decode cX8_set 45 = .ok (.iload_n 1, 1) := by decide +kernel
theorem dX8_set_46 : decode cX8_set 46 = .ok (.iadd, 1) := by decide +kernel
theorem dX8_set_47 : decode cX8_set 47 = .ok (.iaload, 1) := by decide +kernel
theorem dX8_set_48 : decode cX8_set 48 = .ok (.istore 4, 2) := by decide +kernel
theorem dX8_set_50 : decode cX8_set 50 = .ok (.iload 4, 2) := by decide +kernel
theorem dX8_set_52 : decode cX8_set 52 = .ok (.iload_n 3, 1) := by decide +kernel
theorem dX8_set_53 : decode cX8_set 53 = .ok (.if_icmp .ne 6, 3) := by decide +kernel
theorem dX8_set_56 : decode cX8_set 56 = .ok (.bipush (-2), 2) := by decide +kernel
theorem dX8_set_58 : decode cX8_set 58 = .ok (.ireturn, 1) := by decide +kernel
theorem dX8_set_59 : decode cX8_set 59 = .ok (.aload_n 0, 1) := by decide +kernel
theorem dX8_set_60 : decode cX8_set 60 = .ok (.invokevirtual 139, 3) := by decide +kernel
theorem dX8_set_63 : decode cX8_set 63 = .ok (.aload_n 0, 1) := by decide +kernel
theorem dX8_set_64 : decode cX8_set 64 = .ok (.getfield 19, 3) := by decide +kernel
theorem dX8_set_67 : decode cX8_set 67 = .ok (.bipush 6, 2) := by decide +kernel
theorem dX8_set_69 : decode cX8_set 69 = .ok (.iload_n 2, 1) := by decide +kernel
theorem dX8_set_70 : decode cX8_set 70 = .ok (.imul, 1) := by decide +kernel
theorem dX8_set_71 : decode cX8_set 71 = .ok (.iload_n 1, 1) := by decide +kernel
theorem dX8_set_72 : decode cX8_set 72 = .ok (.iadd, 1) := by decide +kernel
theorem dX8_set_73 : decode cX8_set 73 = .ok (.iload_n 3, 1) := by decide +kernel
theorem dX8_set_74 : decode cX8_set 74 = .ok (.iastore, 1) := by decide +kernel
theorem dX8_set_75 : decode cX8_set 75 = .ok (.aload_n 0, 1) := by decide +kernel
theorem dX8_set_76 : decode cX8_set 76 = .ok (.getfield 19, 3) := by decide +kernel
theorem dX8_set_79 : decode cX8_set 79 = .ok (.invokestatic 142, 3) := by decide +kernel
theorem dX8_set_82 : decode cX8_set 82 = .ok (.iload 4, 2) := by decide +kernel
theorem dX8_set_84 : decode cX8_set 84 = .ok (.ireturn, 1) := by decide +kernel
set_option maxRecDepth 20000 in
theorem ggX8_law_X8_isLaw : GoodIn wsX8_law wsX8_isLaw := goodIn_r _ [5, 6, 7, 4, 8] (by decide +kernel) (by decide +kernel)
set_option maxRecDepth 20000 in
theorem gX8_law_X8_isLaw : GoodIn wsX8_law (va_wsS RX8 109 yX8_isLaw wsX8_isLaw) := goodIn_app (goodIn_of _ (by decide +kernel)) ggX8_law_X8_isLaw
set_option maxRecDepth 20000 in
theorem ggX8_law_X8_keeps : GoodIn wsX8_law wsX8_keeps := goodIn_r _ [12, 13, 14, 1, 18, 19, 20, 21, 22, 23, 24, 25, 26, 27, 28, 29, 30, 31, 32, 33, 34, 35, 36, 37, 38, 39, 40, 41, 42, 43] (by decide +kernel) (by decide +kernel)
set_option maxRecDepth 20000 in
theorem gX8_law_X8_keeps : GoodIn wsX8_law (wsV RX8 139 RX8 yX8_keeps wsX8_keeps) := goodIn_app (goodIn_of _ (by decide +kernel)) ggX8_law_X8_keeps
set_option maxRecDepth 20000 in
theorem ggX8_law_X8_registers : GoodIn wsX8_law wsX8_registers := goodIn_r _ [17] (by decide +kernel) (by decide +kernel)
set_option maxRecDepth 20000 in
theorem gX8_law_X8_registers : GoodIn wsX8_law (va_wsS RX8 142 yX8_registers wsX8_registers) := goodIn_app (goodIn_of _ (by decide +kernel)) ggX8_law_X8_registers
theorem dX8_law_0 : decode cX8_law 0 = .ok (.iload_n 1, 1) := by decide +kernel
theorem dX8_law_1 : decode cX8_law 1 = .ok (.iload_n 2, 1) := by decide +kernel
theorem dX8_law_2 : decode cX8_law 2 = .ok (.invokestatic 109, 3) := by decide +kernel
theorem dX8_law_5 : decode cX8_law 5 = .ok (.ifCond .ne 5, 3) := by decide +kernel
theorem dX8_law_8 : decode cX8_law 8 = .ok (.iconst (-1), 1) := by decide +kernel
theorem dX8_law_9 : decode cX8_law 9 = .ok (.ireturn, 1) := by decide +kernel
theorem dX8_law_10 : decode cX8_law 10 = .ok (.bipush 10, 2) := by decide +kernel
theorem dX8_law_12 : decode cX8_law 12 = .ok (.aload_n 0, 1) := by decide +kernel
theorem dX8_law_13 : decode cX8_law 13 = .ok (.getfield 19, 3) := by decide +kernel
theorem dX8_law_16 : decode cX8_law 16 = .ok (.bipush 12, 2) := by decide +kernel
theorem dX8_law_18 : decode cX8_law 18 = .ok (.iaload, 1) := by decide +kernel
theorem dX8_law_19 : decode cX8_law 19 = .ok (.imul, 1) := by decide +kernel
theorem dX8_law_20 : decode cX8_law 20 = .ok (.aload_n 0, 1) := by decide +kernel
theorem dX8_law_21 : decode cX8_law 21 = .ok (.getfield 19, 3) := by decide +kernel
theorem dX8_law_24 : decode cX8_law 24 = .ok (.bipush 13, 2) := by decide +kernel
theorem dX8_law_26 : decode cX8_law 26 = .ok (.iaload, 1) := by decide +kernel
theorem dX8_law_27 : decode cX8_law 27 = .ok (.iadd, 1) := by decide +kernel
theorem dX8_law_28 : decode cX8_law 28 = .ok (.istore_n 3, 1) := by decide +kernel
theorem dX8_law_29 : decode cX8_law 29 = .ok (.iload_n 3, 1) := by decide +kernel
theorem dX8_law_30 : decode cX8_law 30 = .ok (.bipush 10, 2) := by decide +kernel
theorem dX8_law_32 : decode cX8_law 32 = .ok (.iload_n 1, 1) := by decide +kernel
theorem dX8_law_33 : decode cX8_law 33 = .ok (.imul, 1) := by decide +kernel
theorem dX8_law_34 : decode cX8_law 34 = .ok (.iload_n 2, 1) := by decide +kernel
theorem dX8_law_35 : decode cX8_law 35 = .ok (.iadd, 1) := by decide +kernel
theorem dX8_law_36 : decode cX8_law 36 = .ok (.if_icmp .ne 6, 3) := by decide +kernel
theorem dX8_law_39 : decode cX8_law 39 = .ok (.bipush (-2), 2) := by decide +kernel
theorem dX8_law_41 : decode cX8_law 41 = .ok (.ireturn, 1) := by decide +kernel
theorem dX8_law_42 : decode cX8_law 42 = .ok (.aload_n 0, 1) := by decide +kernel
theorem dX8_law_43 : decode cX8_law 43 = .ok (.invokevirtual 139, 3) := by decide +kernel
theorem dX8_law_46 : decode cX8_law 46 = .ok (.aload_n 0, 1) := by decide +kernel
theorem dX8_law_47 : decode cX8_law 47 = .ok (.getfield 19, 3) := by decide +kernel
theorem dX8_law_50 : decode cX8_law 50 = .ok (.bipush 12, 2) := by decide +kernel
theorem dX8_law_52 : decode cX8_law 52 = .ok (.iload_n 1, 1) := by decide +kernel
theorem dX8_law_53 : decode cX8_law 53 = .ok (.iastore, 1) := by decide +kernel
theorem dX8_law_54 : decode cX8_law 54 = .ok (.aload_n 0, 1) := by decide +kernel
theorem dX8_law_55 : decode cX8_law 55 = .ok (.getfield 19, 3) := by decide +kernel
theorem dX8_law_58 : decode cX8_law 58 = .ok (.bipush 13, 2) := by decide +kernel
theorem dX8_law_60 : decode cX8_law 60 = .ok (.iload_n 2, 1) := by decide +kernel
theorem dX8_law_61 : decode cX8_law 61 = .ok (.iastore, 1) := by decide +kernel
theorem dX8_law_62 : decode cX8_law 62 = .ok (.aload_n 0, 1) := by decide +kernel
theorem dX8_law_63 : decode cX8_law 63 = .ok (.getfield 19, 3) := by decide +kernel
theorem dX8_law_66 : decode cX8_law 66 = .ok (.invokestatic 142, 3) := by decide +kernel
theorem dX8_law_69 : decode cX8_law 69 = .ok (.iload_n 3, 1) := by decide +kernel
theorem dX8_law_70 : decode cX8_law 70 = .ok (.ireturn, 1) := by decide +kernel
theorem dX8_out_0 : decode cX8_out 0 = .ok (.iconst 0, 1) := by decide +kernel
theorem dX8_out_1 : decode cX8_out 1 = .ok (.istore_n 2, 1) := by decide +kernel
theorem dX8_out_2 : decode cX8_out 2 = .ok (.iconst 0, 1) := by decide +kernel
theorem dX8_out_3 : decode cX8_out 3 = .ok (.istore_n 3, 1) := by decide +kernel
theorem dX8_out_4 : decode cX8_out 4 = .ok (.iload_n 3, 1) := by decide +kernel
theorem dX8_out_5 : decode cX8_out 5 = .ok (.aload_n 0, 1) := by decide +kernel
theorem dX8_out_6 : decode cX8_out 6 = .ok (.getfield 76, 3) := by decide +kernel
theorem dX8_out_9 : decode cX8_out 9 = .ok (.if_icmp .ge 23, 3) := by decide +kernel
theorem dX8_out_12 : decode cX8_out 12 = .ok (.iload_n 2, 1) := by decide +kernel
theorem dX8_out_13 : decode cX8_out 13 = .ok (.aload_n 0, 1) := by decide +kernel
theorem dX8_out_14 : decode cX8_out 14 = .ok (.getfield 13, 3) := by decide +kernel
theorem dX8_out_17 : decode cX8_out 17 = .ok (.bipush 6, 2) := by decide +kernel
theorem dX8_out_19 : decode cX8_out 19 = .ok (.iload_n 1, 1) := by decide +kernel
theorem dX8_out_20 : decode cX8_out 20 = .ok (.imul, 1) := by decide +kernel
theorem dX8_out_21 : decode cX8_out 21 = .ok (.iload_n 3, 1) := by decide +kernel
theorem dX8_out_22 : decode cX8_out 22 = .ok (.iadd, 1) := by decide +kernel
theorem dX8_out_23 : decode cX8_out 23 = .ok (.iaload, 1) := by decide +kernel
theorem dX8_out_24 : decode cX8_out 24 = .ok (.iadd, 1) := by decide +kernel
theorem dX8_out_25 : decode cX8_out 25 = .ok (.istore_n 2, 1) := by decide +kernel
theorem dX8_out_26 : decode cX8_out 26 = .ok (.iinc 3 1, 3) := by decide +kernel
theorem dX8_out_29 : decode cX8_out 29 = .ok (.goto (-25), 3) := by decide +kernel
theorem dX8_out_32 : decode cX8_out 32 = .ok (.iload_n 2, 1) := by decide +kernel
theorem dX8_out_33 : decode cX8_out 33 = .ok (.ireturn, 1) := by decide +kernel
set_option maxRecDepth 20000 in
theorem ggX8_sum_X8_out : GoodIn wsX8_sum wsX8_out := goodIn_r _ [6, 7, 8, 9, 10, 11, 12, 13, 14, 15, 16, 17, 18, 19, 20, 21, 22, 23, 24, 25, 26, 27, 28, 29, 30, 31, 32, 33, 34] (by decide +kernel) (by decide +kernel)
set_option maxRecDepth 20000 in
theorem gX8_sum_X8_out : GoodIn wsX8_sum (wsV RX8 146 RX8 yX8_out wsX8_out) := goodIn_app (goodIn_of _ (by decide +kernel)) ggX8_sum_X8_out
theorem dX8_sum_0 : decode cX8_sum 0 = .ok (.aload_n 0, 1) := by decide +kernel
theorem dX8_sum_1 : decode cX8_sum 1 = .ok (.iload_n 1, 1) := by decide +kernel
theorem dX8_sum_2 : decode cX8_sum 2 = .ok (.invokevirtual 146, 3) := by decide +kernel
theorem dX8_sum_5 : decode cX8_sum 5 = .ok (.aload_n 0, 1) := by decide +kernel
theorem dX8_sum_6 : decode cX8_sum 6 = .ok (.getfield 19, 3) := by decide +kernel
theorem dX8_sum_9 : decode cX8_sum 9 = .ok (.iload_n 1, 1) := by decide +kernel
theorem dX8_sum_10 : decode cX8_sum 10 = .ok (.iaload, 1) := by decide +kernel
theorem dX8_sum_11 : decode cX8_sum 11 = .ok (.iadd, 1) := by decide +kernel
theorem dX8_sum_12 : decode cX8_sum 12 = .ok (.ireturn, 1) := by decide +kernel
theorem dX8_joined_0 : decode cX8_joined 0 = .ok (.iconst 0, 1) := by decide +kernel
theorem dX8_joined_1 : decode cX8_joined 1 = .ok (.istore_n 2, 1) := by decide +kernel
theorem dX8_joined_2 : decode cX8_joined 2 = .ok (.iconst 0, 1) := by decide +kernel
theorem dX8_joined_3 : decode cX8_joined 3 = .ok (.istore_n 3, 1) := by decide +kernel
theorem dX8_joined_4 : decode cX8_joined 4 = .ok (.iload_n 3, 1) := by decide +kernel
theorem dX8_joined_5 : decode cX8_joined 5 = .ok (.aload_n 0, 1) := by decide +kernel
theorem dX8_joined_6 : decode cX8_joined 6 = .ok (.getfield 76, 3) := by decide +kernel
theorem dX8_joined_9 : decode cX8_joined 9 = .ok (.if_icmp .ge 33, 3) := by decide +kernel
theorem dX8_joined_12 : decode cX8_joined 12 = .ok (.iload_n 2, 1) := by decide +kernel
theorem dX8_joined_13 : decode cX8_joined 13 = .ok (.aload_n 0, 1) := by decide +kernel
theorem dX8_joined_14 : decode cX8_joined 14 = .ok (.getfield 13, 3) := by decide +kernel
theorem dX8_joined_17 : decode cX8_joined 17 = .ok (.bipush 6, 2) := by decide +kernel
theorem dX8_joined_19 : decode cX8_joined 19 = .ok (.iload_n 1, 1) := by decide +kernel
theorem dX8_joined_20 : decode cX8_joined 20 = .ok (.imul, 1) := by decide +kernel
theorem dX8_joined_21 : decode cX8_joined 21 = .ok (.iload_n 3, 1) := by decide +kernel
theorem dX8_joined_22 : decode cX8_joined 22 = .ok (.iadd, 1) := by decide +kernel
theorem dX8_joined_23 : decode cX8_joined 23 = .ok (.iaload, 1) := by decide +kernel
theorem dX8_joined_24 : decode cX8_joined 24 = .ok (.ifCond .le 9, 3) := by decide +kernel
theorem dX8_joined_27 : decode cX8_joined 27 = .ok (.iconst 1, 1) := by decide +kernel
theorem dX8_joined_28 : decode cX8_joined 28 = .ok (.iload_n 3, 1) := by decide +kernel
theorem dX8_joined_29 : decode cX8_joined 29 = .ok (.ishl, 1) := by decide +kernel
theorem dX8_joined_30 : decode cX8_joined 30 = .ok (.goto 4, 3) := by decide +kernel
theorem dX8_joined_33 : decode cX8_joined 33 = .ok (.iconst 0, 1) := by decide +kernel
theorem dX8_joined_34 : decode cX8_joined 34 = .ok (.ior, 1) := by decide +kernel
theorem dX8_joined_35 : decode cX8_joined 35 = .ok (.istore_n 2, 1) := by decide +kernel
theorem dX8_joined_36 : decode cX8_joined 36 = .ok (.iinc 3 1, 3) := by decide +kernel
theorem dX8_joined_39 : decode cX8_joined 39 = .ok (.goto (-35), 3) := by decide +kernel
theorem dX8_joined_42 : decode cX8_joined 42 = .ok (.iload_n 2, 1) := by decide +kernel
theorem dX8_joined_43 : decode cX8_joined 43 = .ok (.ireturn, 1) := by decide +kernel
theorem dX8_likeArea_0 : decode cX8_likeArea 0 = .ok (.iconst 0, 1) := by decide +kernel
theorem dX8_likeArea_1 : decode cX8_likeArea 1 = .ok (.istore_n 2, 1) := by decide +kernel
theorem dX8_likeArea_2 : decode cX8_likeArea 2 = .ok (.iconst 0, 1) := by decide +kernel
theorem dX8_likeArea_3 : decode cX8_likeArea 3 = .ok (.istore_n 3, 1) := by decide +kernel
theorem dX8_likeArea_4 : decode cX8_likeArea 4 = .ok (.iload_n 3, 1) := by decide +kernel
theorem dX8_likeArea_5 : decode cX8_likeArea 5 = .ok (.aload_n 0, 1) := by decide +kernel
theorem dX8_likeArea_6 : decode cX8_likeArea 6 = .ok (.getfield 76, 3) := by decide +kernel
theorem dX8_likeArea_9 : decode cX8_likeArea 9 = .ok (.if_icmp .ge 30, 3) := by decide +kernel
theorem dX8_likeArea_12 : decode cX8_likeArea 12 = .ok (.iload_n 2, 1) := by decide +kernel
theorem dX8_likeArea_13 : decode cX8_likeArea 13 = .ok (.aload_n 0, 1) := by decide +kernel
theorem dX8_likeArea_14 : decode cX8_likeArea 14 = .ok (.getfield 19, 3) := by decide +kernel
theorem dX8_likeArea_17 : decode cX8_likeArea 17 = .ok (.bipush 6, 2) := by decide +kernel
theorem dX8_likeArea_19 : decode cX8_likeArea 19 = .ok (.iload_n 3, 1) := by decide +kernel
theorem dX8_likeArea_20 : decode cX8_likeArea 20 = .ok (.iadd, 1) := by decide +kernel
theorem dX8_likeArea_21 : decode cX8_likeArea 21 = .ok (.iaload, 1) := by decide +kernel
theorem dX8_likeArea_22 : decode cX8_likeArea 22 = .ok (.iload_n 1, 1) := by decide +kernel
theorem dX8_likeArea_23 : decode cX8_likeArea 23 = .ok (.if_icmp .ne 7, 3) := by decide +kernel
theorem dX8_likeArea_26 : decode cX8_likeArea 26 = .ok (.iconst 1, 1) := by decide +kernel
theorem dX8_likeArea_27 : decode cX8_likeArea 27 = .ok (.goto 4, 3) := by decide +kernel
theorem dX8_likeArea_30 : decode cX8_likeArea 30 = .ok (.iconst 0, 1) := by decide +kernel
theorem dX8_likeArea_31 : decode cX8_likeArea 31 = .ok (.iadd, 1) := by decide +kernel
theorem dX8_likeArea_32 : decode cX8_likeArea 32 = .ok (.istore_n 2, 1) := by decide +kernel
theorem dX8_likeArea_33 : decode cX8_likeArea 33 = .ok (.iinc 3 1, 3) := by decide +kernel
theorem dX8_likeArea_36 : decode cX8_likeArea 36 = .ok (.goto (-32), 3) := by decide +kernel
theorem dX8_likeArea_39 : decode cX8_likeArea 39 = .ok (.iload_n 2, 1) := by decide +kernel
theorem dX8_likeArea_40 : decode cX8_likeArea 40 = .ok (.ireturn, 1) := by decide +kernel
set_option maxRecDepth 20000 in
theorem ggX8_cell_X8_isCell : GoodIn wsX8_cell wsX8_isCell := goodIn_r _ [6, 7, 8, 9, 5, 10, 28, 29, 30, 31, 32, 33, 34, 35, 36, 37, 38, 39, 40, 41, 42, 43, 44, 45, 46, 47, 48, 49, 50, 51, 52, 53] (by decide +kernel) (by decide +kernel)
set_option maxRecDepth 20000 in
theorem gX8_cell_X8_isCell : GoodIn wsX8_cell (wsV RX8 136 RX8 yX8_isCell wsX8_isCell) := goodIn_app (goodIn_of _ (by decide +kernel)) ggX8_cell_X8_isCell
set_option maxRecDepth 20000 in
theorem ggX8_cell_X8_sum : GoodIn wsX8_cell wsX8_sum := goodIn_r _ [14, 1, 15, 16, 17, 5, 18, 7, 19, 28, 29, 30, 31, 32, 33, 34, 35, 36, 37, 38, 39, 40, 41, 42, 43, 44, 45, 46, 47, 48, 49, 50, 51, 52, 53] (by decide +kernel) (by decide +kernel)
set_option maxRecDepth 20000 in
theorem gX8_cell_X8_sum : GoodIn wsX8_cell (wsV RX8 149 RX8 yX8_sum wsX8_sum) := goodIn_app (goodIn_of _ (by decide +kernel)) ggX8_cell_X8_sum
set_option maxRecDepth 20000 in
theorem ggX8_cell_X8_joined : GoodIn wsX8_cell wsX8_joined := goodIn_r _ [23, 7, 19, 28, 29, 30, 31, 32, 33, 34, 35, 36, 37, 38, 39, 40, 41, 42, 43, 44, 45, 46, 47, 48, 49, 50, 51, 52, 53] (by decide +kernel) (by decide +kernel)
set_option maxRecDepth 20000 in
theorem gX8_cell_X8_joined : GoodIn wsX8_cell (wsV RX8 152 RX8 yX8_joined wsX8_joined) := goodIn_app (goodIn_of _ (by decide +kernel)) ggX8_cell_X8_joined
set_option maxRecDepth 20000 in
theorem ggX8_cell_X8_likeArea : GoodIn wsX8_cell wsX8_likeArea := goodIn_r _ [27, 7, 1, 28, 29, 30, 31, 32, 33, 34, 35, 36, 37, 38, 39, 40, 41, 42, 43, 44, 45, 46, 47, 48, 49, 50, 51, 52, 53] (by decide +kernel) (by decide +kernel)
set_option maxRecDepth 20000 in
theorem gX8_cell_X8_likeArea : GoodIn wsX8_cell (wsV RX8 155 RX8 yX8_likeArea wsX8_likeArea) := goodIn_app (goodIn_of _ (by decide +kernel)) ggX8_cell_X8_likeArea
theorem dX8_cell_0 : decode cX8_cell 0 = .ok (.aload_n 0, 1) := by decide +kernel
theorem dX8_cell_1 : decode cX8_cell 1 = .ok (.iload_n 1, 1) := by decide +kernel
theorem dX8_cell_2 : decode cX8_cell 2 = .ok (.invokevirtual 136, 3) := by decide +kernel
theorem dX8_cell_5 : decode cX8_cell 5 = .ok (.ifCond .ne 5, 3) := by decide +kernel
theorem dX8_cell_8 : decode cX8_cell 8 = .ok (.iconst (-1), 1) := by decide +kernel
theorem dX8_cell_9 : decode cX8_cell 9 = .ok (.ireturn, 1) := by decide +kernel
theorem dX8_cell_10 : decode cX8_cell 10 = .ok (.iload_n 2, 1) := by decide +kernel
theorem dX8_cell_11 : decode cX8_cell 11 = .ok (.tableswitch 76 0 4 #[33, 40, 50, 56, 62], 33) := by decide +kernel
theorem dX8_cell_44 : decode cX8_cell 44 = .ok (.aload_n 0, 1) := by decide +kernel
theorem dX8_cell_45 : decode cX8_cell 45 = .ok (.getfield 19, 3) := by decide +kernel
theorem dX8_cell_48 : decode cX8_cell 48 = .ok (.iload_n 1, 1) := by decide +kernel
theorem dX8_cell_49 : decode cX8_cell 49 = .ok (.iaload, 1) := by decide +kernel
theorem dX8_cell_50 : decode cX8_cell 50 = .ok (.ireturn, 1) := by decide +kernel
theorem dX8_cell_51 : decode cX8_cell 51 = .ok (.aload_n 0, 1) := by decide +kernel
theorem dX8_cell_52 : decode cX8_cell 52 = .ok (.getfield 19, 3) := by decide +kernel
theorem dX8_cell_55 : decode cX8_cell 55 = .ok (.bipush 6, 2) := by decide +kernel
theorem dX8_cell_57 : decode cX8_cell 57 = .ok (.iload_n 1, 1) := by decide +kernel
theorem dX8_cell_58 : decode cX8_cell 58 = .ok (.iadd, 1) := by decide +kernel
theorem dX8_cell_59 : decode cX8_cell 59 = .ok (.iaload, 1) := by decide +kernel
theorem dX8_cell_60 : decode cX8_cell 60 = .ok (.ireturn, 1) := by decide +kernel
theorem dX8_cell_61 : decode cX8_cell 61 = .ok (.aload_n 0, 1) := by decide +kernel
theorem dX8_cell_62 : decode cX8_cell 62 = .ok (.iload_n 1, 1) := by decide +kernel
theorem dX8_cell_63 : decode cX8_cell 63 = .ok (.invokevirtual 149, 3) := by decide +kernel
theorem dX8_cell_66 : decode cX8_cell 66 = .ok (.ireturn, 1) := by decide +kernel
theorem dX8_cell_67 : decode cX8_cell 67 = .ok (.aload_n 0, 1) := by decide +kernel
theorem dX8_cell_68 : decode cX8_cell 68 = .ok (.iload_n 1, 1) := by decide +kernel
theorem dX8_cell_69 : decode cX8_cell 69 = .ok (.invokevirtual 152, 3) := by decide +kernel
theorem dX8_cell_72 : decode cX8_cell 72 = .ok (.ireturn, 1) := by decide +kernel
theorem dX8_cell_73 : decode cX8_cell 73 = .ok (.aload_n 0, 1) := by decide +kernel
theorem dX8_cell_74 : decode cX8_cell 74 = .ok (.aload_n 0, 1) := by decide +kernel
theorem dX8_cell_75 : decode cX8_cell 75 = .ok (.getfield 19, 3) := by decide +kernel
theorem dX8_cell_78 : decode cX8_cell 78 = .ok (.bipush 6, 2) := by decide +kernel
theorem dX8_cell_80 : decode cX8_cell 80 = .ok (.iload_n 1, 1) := by decide +kernel
theorem dX8_cell_81 : decode cX8_cell 81 = .ok (.iadd, 1) := by decide +kernel
theorem dX8_cell_82 : decode cX8_cell 82 = .ok (.iaload, 1) := by decide +kernel
theorem dX8_cell_83 : decode cX8_cell 83 = .ok (.invokevirtual 155, 3) := by decide +kernel
theorem dX8_cell_86 : decode cX8_cell 86 = .ok (.ireturn, 1) := by decide +kernel
theorem dX8_cell_87 : decode cX8_cell 87 = .ok (.iconst (-1), 1) := by decide +kernel
theorem dX8_cell_88 : decode cX8_cell 88 = .ok (.ireturn, 1) := by decide +kernel
set_option maxRecDepth 20000 in
theorem ggX8_weight_X8_isCell : GoodIn wsX8_weight wsX8_isCell := goodIn_r _ [6, 7, 8, 9, 5, 10, 11, 12, 13, 14, 15, 16, 17, 18, 19, 20, 21, 22, 23, 24, 25, 26, 27, 28, 29, 30, 31, 32, 33, 34, 35, 36] (by decide +kernel) (by decide +kernel)
set_option maxRecDepth 20000 in
theorem gX8_weight_X8_isCell : GoodIn wsX8_weight (wsV RX8 136 RX8 yX8_isCell wsX8_isCell) := goodIn_app (goodIn_of _ (by decide +kernel)) ggX8_weight_X8_isCell
theorem dX8_weight_0 : decode cX8_weight 0 = .ok (.aload_n 0, 1) := by decide +kernel
theorem dX8_weight_1 : decode cX8_weight 1 = .ok (.iload_n 1, 1) := by decide +kernel
theorem dX8_weight_2 : decode cX8_weight 2 = .ok (.invokevirtual 136, 3) := by decide +kernel
theorem dX8_weight_5 : decode cX8_weight 5 = .ok (.ifCond .eq 30, 3) := by decide +kernel
theorem dX8_weight_8 : decode cX8_weight 8 = .ok (.aload_n 0, 1) := by decide +kernel
theorem dX8_weight_9 : decode cX8_weight 9 = .ok (.iload_n 2, 1) := by decide +kernel
theorem dX8_weight_10 : decode cX8_weight 10 = .ok (.invokevirtual 136, 3) := by decide +kernel
theorem dX8_weight_13 : decode cX8_weight 13 = .ok (.ifCond .eq 22, 3) := by decide +kernel
theorem dX8_weight_16 : decode cX8_weight 16 = .ok (.iload_n 1, 1) := by decide +kernel
theorem dX8_weight_17 : decode cX8_weight 17 = .ok (.iload_n 2, 1) := by decide +kernel
theorem dX8_weight_18 : decode cX8_weight 18 = .ok (.if_icmp .eq 17, 3) := by decide +kernel
theorem dX8_weight_21 : decode cX8_weight 21 = .ok (.aload_n 0, 1) := by decide +kernel
theorem dX8_weight_22 : decode cX8_weight 22 = .ok (.getfield 13, 3) := by decide +kernel
theorem dX8_weight_25 : decode cX8_weight 25 = .ok (.bipush 6, 2) := by decide +kernel
theorem dX8_weight_27 : decode cX8_weight 27 = .ok (.iload_n 1, 1) := by decide +kernel
theorem dX8_weight_28 : decode cX8_weight 28 = .ok (.imul, 1) := by decide +kernel
theorem dX8_weight_29 : decode cX8_weight 29 = .ok (.iload_n 2, 1) := by decide +kernel
theorem dX8_weight_30 : decode cX8_weight 30 = .ok (.iadd, 1) := by decide +kernel
theorem dX8_weight_31 : decode cX8_weight 31 = .ok (.iaload, 1) := by decide +kernel
theorem dX8_weight_32 : decode cX8_weight 32 = .ok (.goto 4, 3) := by decide +kernel
theorem dX8_weight_35 : decode cX8_weight 35 = .ok (.iconst (-1), 1) := by decide +kernel
theorem dX8_weight_36 : decode cX8_weight 36 = .ok (.ireturn, 1) := by decide +kernel
set_option maxRecDepth 20000 in
theorem ggX8_far_X8_joined : GoodIn wsX8_far wsX8_joined := goodIn_r _ [6, 1, 7, 8, 9, 10, 11, 12, 13, 14, 15, 16, 17, 18, 19, 20, 21, 22, 23, 24, 25, 26, 27, 28, 29, 30, 31, 32, 33] (by decide +kernel) (by decide +kernel)
set_option maxRecDepth 20000 in
theorem gX8_far_X8_joined : GoodIn wsX8_far (wsV RX8 152 RX8 yX8_joined wsX8_joined) := goodIn_app (goodIn_of _ (by decide +kernel)) ggX8_far_X8_joined
theorem dX8_far_0 : decode cX8_far 0 = .ok (.iconst 1, 1) := by decide +kernel
theorem dX8_far_1 : decode cX8_far 1 = .ok (.iload_n 1, 1) := by decide +kernel
theorem dX8_far_2 : decode cX8_far 2 = .ok (.ishl, 1) := by decide +kernel
theorem dX8_far_3 : decode cX8_far 3 = .ok (.istore_n 3, 1) := by decide +kernel
theorem dX8_far_4 : decode cX8_far 4 = .ok (.iconst 0, 1) := by decide +kernel
theorem dX8_far_5 : decode cX8_far 5 = .ok (.istore 4, 2) := by decide +kernel
theorem dX8_far_7 : decode cX8_far 7 = .ok (.iload_n 3, 1) := by decide +kernel
theorem dX8_far_8 : decode cX8_far 8 = .ok (.iload_n 2, 1) := by decide +kernel
theorem dX8_far_9 : decode cX8_far 9 = .ok (.ishr, 1) := by decide +kernel
theorem dX8_far_10 : decode cX8_far 10 = .ok (.iconst 1, 1) := by decide +kernel
theorem dX8_far_11 : decode cX8_far 11 = .ok (.iand, 1) := by decide +kernel
theorem dX8_far_12 : decode cX8_far 12 = .ok (.ifCond .ne 58, 3) := by decide +kernel
theorem dX8_far_15 : decode cX8_far 15 = .ok (.iload_n 3, 1) := by decide +kernel
theorem dX8_far_16 : decode cX8_far 16 = .ok (.istore 5, 2) := by decide +kernel
theorem dX8_far_18 : decode cX8_far 18 = .ok (.iconst 0, 1) := by decide +kernel
theorem dX8_far_19 : decode cX8_far 19 = .ok (.istore 6, 2) := by decide +kernel
theorem dX8_far_21 : decode cX8_far 21 = .ok (.iload 6, 2) := by decide +kernel
theorem dX8_far_23 : decode cX8_far 23 = .ok (.aload_n 0, 1) := by decide +kernel
theorem dX8_far_24 : decode cX8_far 24 = .ok (.getfield 76, 3) := by decide +kernel
theorem dX8_far_27 : decode cX8_far 27 = .ok (.if_icmp .ge 34, 3) := by decide +kernel
theorem dX8_far_30 : decode cX8_far 30 = .ok (.iload 5, 2) := by decide +kernel
theorem dX8_far_32 : decode cX8_far 32 = .ok (.iload_n 3, 1) := by decide +kernel
theorem dX8_far_33 : decode cX8_far 33 = .ok (.iload 6, 2) := by decide +kernel
theorem dX8_far_35 : decode cX8_far 35 = .ok (.ishr, 1) := by decide +kernel
theorem dX8_far_36 : decode cX8_far 36 = .ok (.iconst 1, 1) := by decide +kernel
theorem dX8_far_37 : decode cX8_far 37 = .ok (.iand, 1) := by decide +kernel
theorem dX8_far_38 : decode cX8_far 38 = .ok (.iconst 1, 1) := by decide +kernel
theorem dX8_far_39 : decode cX8_far 39 = .ok (.if_icmp .ne 12, 3) := by decide +kernel
theorem dX8_far_42 : decode cX8_far 42 = .ok (.aload_n 0, 1) := by decide +kernel
theorem dX8_far_43 : decode cX8_far 43 = .ok (.iload 6, 2) := by decide +kernel
theorem dX8_far_45 : decode cX8_far 45 = .ok (.invokevirtual 152, 3) := by decide +kernel
theorem dX8_far_48 : decode cX8_far 48 = .ok (.goto 4, 3) := by decide +kernel
theorem dX8_far_51 : decode cX8_far 51 = .ok (.iconst 0, 1) := by decide +kernel
theorem dX8_far_52 : decode cX8_far 52 = .ok (.ior, 1) := by decide +kernel
theorem dX8_far_53 : decode cX8_far 53 = .ok (.istore 5, 2) := by decide +kernel
theorem dX8_far_55 : decode cX8_far 55 = .ok (.iinc 6 1, 3) := by decide +kernel
theorem dX8_far_58 : decode cX8_far 58 = .ok (.goto (-37), 3) := by decide +kernel
theorem dX8_far_61 : decode cX8_far 61 = .ok (.iload 5, 2) := by decide +kernel
theorem dX8_far_63 : decode cX8_far 63 = .ok (.istore_n 3, 1) := by decide +kernel
theorem dX8_far_64 : decode cX8_far 64 = .ok (.iinc 4 1, 3) := by decide +kernel
theorem dX8_far_67 : decode cX8_far 67 = .ok (.goto (-60), 3) := by decide +kernel
theorem dX8_far_70 : decode cX8_far 70 = .ok (.iload 4, 2) := by decide +kernel
theorem dX8_far_72 : decode cX8_far 72 = .ok (.ireturn, 1) := by decide +kernel
set_option maxRecDepth 20000 in
theorem ggX8_wide_X8_isCell : GoodIn wsX8_wide wsX8_isCell := goodIn_r _ [5, 6, 7, 8, 4, 9, 19, 20, 21, 22, 23, 24, 25, 26, 27, 28, 29, 30, 31, 32, 33, 34, 35, 36, 37, 38, 39, 40, 41, 42, 43, 44] (by decide +kernel) (by decide +kernel)
set_option maxRecDepth 20000 in
theorem gX8_wide_X8_isCell : GoodIn wsX8_wide (wsV RX8 136 RX8 yX8_isCell wsX8_isCell) := goodIn_app (goodIn_of _ (by decide +kernel)) ggX8_wide_X8_isCell
set_option maxRecDepth 20000 in
theorem ggX8_wide_X8_far : GoodIn wsX8_wide wsX8_far := goodIn_r _ [13, 6, 14, 15, 16, 4, 17, 18, 19, 20, 21, 22, 23, 24, 25, 26, 27, 28, 29, 30, 31, 32, 33, 34, 35, 36, 37, 38, 39, 40, 41, 42, 43, 44] (by decide +kernel) (by decide +kernel)
set_option maxRecDepth 20000 in
theorem gX8_wide_X8_far : GoodIn wsX8_wide (wsV RX8 158 RX8 yX8_far wsX8_far) := goodIn_app (goodIn_of _ (by decide +kernel)) ggX8_wide_X8_far
theorem dX8_wide_0 : decode cX8_wide 0 = .ok (.aload_n 0, 1) := by decide +kernel
theorem dX8_wide_1 : decode cX8_wide 1 = .ok (.iload_n 1, 1) := by decide +kernel
theorem dX8_wide_2 : decode cX8_wide 2 = .ok (.invokevirtual 136, 3) := by decide +kernel
theorem dX8_wide_5 : decode cX8_wide 5 = .ok (.ifCond .eq 20, 3) := by decide +kernel
theorem dX8_wide_8 : decode cX8_wide 8 = .ok (.aload_n 0, 1) := by decide +kernel
theorem dX8_wide_9 : decode cX8_wide 9 = .ok (.iload_n 2, 1) := by decide +kernel
theorem dX8_wide_10 : decode cX8_wide 10 = .ok (.invokevirtual 136, 3) := by decide +kernel
theorem dX8_wide_13 : decode cX8_wide 13 = .ok (.ifCond .eq 12, 3) := by decide +kernel
theorem dX8_wide_16 : decode cX8_wide 16 = .ok (.aload_n 0, 1) := by decide +kernel
theorem dX8_wide_17 : decode cX8_wide 17 = .ok (.iload_n 1, 1) := by decide +kernel
theorem dX8_wide_18 : decode cX8_wide 18 = .ok (.iload_n 2, 1) := by decide +kernel
theorem dX8_wide_19 : decode cX8_wide 19 = .ok (.invokevirtual 158, 3) := by decide +kernel
theorem dX8_wide_22 : decode cX8_wide 22 = .ok (.goto 4, 3) := by decide +kernel
theorem dX8_wide_25 : decode cX8_wide 25 = .ok (.iconst (-1), 1) := by decide +kernel
theorem dX8_wide_26 : decode cX8_wide 26 = .ok (.ireturn, 1) := by decide +kernel
set_option maxRecDepth 20000 in
theorem ggX8_isDue_X8_far : GoodIn wsX8_isDue wsX8_far := goodIn_r _ [6, 7, 8, 9, 10, 5, 11, 12, 13, 14, 15, 16, 17, 18, 19, 20, 21, 22, 23, 24, 25, 26, 27, 28, 29, 30, 31, 32, 33, 34, 35, 36, 37, 38] (by decide +kernel) (by decide +kernel)
set_option maxRecDepth 20000 in
theorem gX8_isDue_X8_far : GoodIn wsX8_isDue (wsV RX8 158 RX8 yX8_far wsX8_far) := goodIn_app (goodIn_of _ (by decide +kernel)) ggX8_isDue_X8_far
theorem dX8_isDue_0 : decode cX8_isDue 0 = .ok (.aload_n 0, 1) := by decide +kernel
theorem dX8_isDue_1 : decode cX8_isDue 1 = .ok (.getfield 19, 3) := by decide +kernel
theorem dX8_isDue_4 : decode cX8_isDue 4 = .ok (.bipush 12, 2) := by decide +kernel
theorem dX8_isDue_6 : decode cX8_isDue 6 = .ok (.iaload, 1) := by decide +kernel
theorem dX8_isDue_7 : decode cX8_isDue 7 = .ok (.tableswitch 98 0 2 #[25, 58, 78], 25) := by decide +kernel
theorem dX8_isDue_32 : decode cX8_isDue 32 = .ok (.aload_n 0, 1) := by decide +kernel
theorem dX8_isDue_33 : decode cX8_isDue 33 = .ok (.getfield 19, 3) := by decide +kernel
theorem dX8_isDue_36 : decode cX8_isDue 36 = .ok (.bipush 6, 2) := by decide +kernel
theorem dX8_isDue_38 : decode cX8_isDue 38 = .ok (.aload_n 1, 1) := by decide +kernel
theorem dX8_isDue_39 : decode cX8_isDue 39 = .ok (.bipush 14, 2) := by decide +kernel
theorem dX8_isDue_41 : decode cX8_isDue 41 = .ok (.iaload, 1) := by decide +kernel
theorem dX8_isDue_42 : decode cX8_isDue 42 = .ok (.iadd, 1) := by decide +kernel
theorem dX8_isDue_43 : decode cX8_isDue 43 = .ok (.iaload, 1) := by decide +kernel
theorem dX8_isDue_44 : decode cX8_isDue 44 = .ok (.aload_n 0, 1) := by decide +kernel
theorem dX8_isDue_45 : decode cX8_isDue 45 = .ok (.getfield 19, 3) := by decide +kernel
theorem dX8_isDue_48 : decode cX8_isDue 48 = .ok (.bipush 6, 2) := by decide +kernel
theorem dX8_isDue_50 : decode cX8_isDue 50 = .ok (.aload_n 1, 1) := by decide +kernel
theorem dX8_isDue_51 : decode cX8_isDue 51 = .ok (.bipush 15, 2) := by decide +kernel
theorem dX8_isDue_53 : decode cX8_isDue 53 = .ok (.iaload, 1) := by decide +kernel
theorem dX8_isDue_54 : decode cX8_isDue 54 = .ok (.iadd, 1) := by decide +kernel
theorem dX8_isDue_55 : decode cX8_isDue 55 = .ok (.iaload, 1) := by decide +kernel
theorem dX8_isDue_56 : decode cX8_isDue 56 = .ok (.if_icmp .eq 7, 3) := by decide +kernel
theorem dX8_isDue_59 : decode cX8_isDue 59 = .ok (.iconst 1, 1) := by decide +kernel
theorem dX8_isDue_60 : decode cX8_isDue 60 = .ok (.goto 4, 3) := by decide +kernel
theorem dX8_isDue_63 : decode cX8_isDue 63 = .ok (.iconst 0, 1) := by decide +kernel
theorem dX8_isDue_64 : decode cX8_isDue 64 = .ok (.ireturn, 1) := by decide +kernel
theorem dX8_isDue_65 : decode cX8_isDue 65 = .ok (.aload_n 1, 1) := by decide +kernel
theorem dX8_isDue_66 : decode cX8_isDue 66 = .ok (.bipush 16, 2) := by decide +kernel
theorem dX8_isDue_68 : decode cX8_isDue 68 = .ok (.iaload, 1) := by decide +kernel
theorem dX8_isDue_69 : decode cX8_isDue 69 = .ok (.aload_n 0, 1) := by decide +kernel
theorem dX8_isDue_70 : decode cX8_isDue 70 = .ok (.getfield 19, 3) := by decide +kernel
theorem dX8_isDue_73 : decode cX8_isDue 73 = .ok (.bipush 13, 2) := by decide +kernel
theorem dX8_isDue_75 : decode cX8_isDue 75 = .ok (.iaload, 1) := by decide +kernel
theorem dX8_isDue_76 : decode cX8_isDue 76 = .ok (.if_icmp .lt 7, 3) := by decide +kernel
theorem dX8_isDue_79 : decode cX8_isDue 79 = .ok (.iconst 1, 1) := by decide +kernel
theorem dX8_isDue_80 : decode cX8_isDue 80 = .ok (.goto 4, 3) := by decide +kernel
theorem dX8_isDue_83 : decode cX8_isDue 83 = .ok (.iconst 0, 1) := by decide +kernel
theorem dX8_isDue_84 : decode cX8_isDue 84 = .ok (.ireturn, 1) := by decide +kernel
theorem dX8_isDue_85 : decode cX8_isDue 85 = .ok (.aload_n 1, 1) := by decide +kernel
theorem dX8_isDue_86 : decode cX8_isDue 86 = .ok (.bipush 17, 2) := by decide +kernel
theorem dX8_isDue_88 : decode cX8_isDue 88 = .ok (.iaload, 1) := by decide +kernel
theorem dX8_isDue_89 : decode cX8_isDue 89 = .ok (.aload_n 0, 1) := by decide +kernel
theorem dX8_isDue_90 : decode cX8_isDue 90 = .ok (.getfield 19, 3) := by decide +kernel
theorem dX8_isDue_93 : decode cX8_isDue 93 = .ok (.bipush 13, 2) := by decide +kernel
theorem dX8_isDue_95 : decode cX8_isDue 95 = .ok (.iaload, 1) := by decide +kernel
theorem dX8_isDue_96 : decode cX8_isDue 96 = .ok (.if_icmp .lt 7, 3) := by decide +kernel
theorem dX8_isDue_99 : decode cX8_isDue 99 = .ok (.iconst 1, 1) := by decide +kernel
theorem dX8_isDue_100 : decode cX8_isDue 100 = .ok (.goto 4, 3) := by decide +kernel
theorem dX8_isDue_103 : decode cX8_isDue 103 = .ok (.iconst 0, 1) := by decide +kernel
theorem dX8_isDue_104 : decode cX8_isDue 104 = .ok (.ireturn, 1) := by decide +kernel
theorem dX8_isDue_105 : decode cX8_isDue 105 = .ok (.aload_n 0, 1) := by decide +kernel
theorem dX8_isDue_106 : decode cX8_isDue 106 = .ok (.aload_n 1, 1) := by decide +kernel
theorem dX8_isDue_107 : decode cX8_isDue 107 = .ok (.bipush 14, 2) := by decide +kernel
theorem dX8_isDue_109 : decode cX8_isDue 109 = .ok (.iaload, 1) := by decide +kernel
theorem dX8_isDue_110 : decode cX8_isDue 110 = .ok (.aload_n 1, 1) := by decide +kernel
theorem dX8_isDue_111 : decode cX8_isDue 111 = .ok (.bipush 15, 2) := by decide +kernel
theorem dX8_isDue_113 : decode cX8_isDue 113 = .ok (.iaload, 1) := by decide +kernel
theorem dX8_isDue_114 : decode cX8_isDue 114 = .ok (.invokevirtual 158, 3) := by decide +kernel
theorem dX8_isDue_117 : decode cX8_isDue 117 = .ok (.aload_n 0, 1) := by decide +kernel
theorem dX8_isDue_118 : decode cX8_isDue 118 = .ok (.getfield 19, 3) := by decide +kernel
theorem dX8_isDue_121 : decode cX8_isDue 121 = .ok (.bipush 13, 2) := by decide +kernel
theorem dX8_isDue_123 : decode cX8_isDue 123 = .ok (.iaload, 1) := by decide +kernel
theorem dX8_isDue_124 : decode cX8_isDue 124 = .ok (.if_icmp .lt 7, 3) := by decide +kernel
theorem dX8_isDue_127 : decode cX8_isDue 127 = .ok (.iconst 1, 1) := by decide +kernel
theorem dX8_isDue_128 : decode cX8_isDue 128 = .ok (.goto 4, 3) := by decide +kernel
theorem dX8_isDue_131 : decode cX8_isDue 131 = .ok (.iconst 0, 1) := by decide +kernel
theorem dX8_isDue_132 : decode cX8_isDue 132 = .ok (.ireturn, 1) := by decide +kernel
set_option maxRecDepth 20000 in
theorem ggX8_goes_X8_isDue : GoodIn wsX8_goes wsX8_isDue := goodIn_r _ [5, 6, 7, 8, 9, 4, 10, 11, 12, 13, 14, 15, 16, 20, 21, 22, 23, 24, 25, 26, 27, 28, 29, 30, 31, 32, 33, 34, 35, 36, 37, 38, 39, 40, 41, 42, 43, 44, 45] (by decide +kernel) (by decide +kernel)
set_option maxRecDepth 20000 in
theorem gX8_goes_X8_isDue : GoodIn wsX8_goes (wsV RX8 162 RX8 yX8_isDue wsX8_isDue) := goodIn_app (goodIn_of _ (by decide +kernel)) ggX8_goes_X8_isDue
set_option maxRecDepth 20000 in
theorem ggX8_goes_X8_registers : GoodIn wsX8_goes wsX8_registers := goodIn_r _ [19] (by decide +kernel) (by decide +kernel)
set_option maxRecDepth 20000 in
theorem gX8_goes_X8_registers : GoodIn wsX8_goes (va_wsS RX8 142 yX8_registers wsX8_registers) := goodIn_app (goodIn_of _ (by decide +kernel)) ggX8_goes_X8_registers
theorem dX8_goes_0 : decode cX8_goes 0 = .ok (.aload_n 1, 1) := by decide +kernel
theorem dX8_goes_1 : decode cX8_goes 1 = .ok (.bipush 16, 2) := by decide +kernel
theorem dX8_goes_3 : decode cX8_goes 3 = .ok (.dup2, 1) := by decide +kernel
theorem dX8_goes_4 : decode cX8_goes 4 = .ok (.iaload, 1) := by decide +kernel
theorem dX8_goes_5 : decode cX8_goes 5 = .ok (.iload_n 2, 1) := by decide +kernel
theorem dX8_goes_6 : decode cX8_goes 6 = .ok (.aload_n 1, 1) := by decide +kernel
theorem dX8_goes_7 : decode cX8_goes 7 = .ok (.bipush 14, 2) := by decide +kernel
theorem dX8_goes_9 : decode cX8_goes 9 = .ok (.iaload, 1) := by decide +kernel
theorem dX8_goes_10 : decode cX8_goes 10 = .ok (.if_icmp .ne 7, 3) := by decide +kernel
theorem dX8_goes_13 : decode cX8_goes 13 = .ok (.iconst 0, 1) := by decide +kernel
theorem dX8_goes_14 : decode cX8_goes 14 = .ok (.goto 4, 3) := by decide +kernel
theorem dX8_goes_17 : decode cX8_goes 17 = .ok (.iconst 1, 1) := by decide +kernel
theorem dX8_goes_18 : decode cX8_goes 18 = .ok (.iadd, 1) := by decide +kernel
theorem dX8_goes_19 : decode cX8_goes 19 = .ok (.iastore, 1) := by decide +kernel
theorem dX8_goes_20 : decode cX8_goes 20 = .ok (.aload_n 1, 1) := by decide +kernel
theorem dX8_goes_21 : decode cX8_goes 21 = .ok (.bipush 14, 2) := by decide +kernel
theorem dX8_goes_23 : decode cX8_goes 23 = .ok (.iload_n 2, 1) := by decide +kernel
theorem dX8_goes_24 : decode cX8_goes 24 = .ok (.iastore, 1) := by decide +kernel
theorem dX8_goes_25 : decode cX8_goes 25 = .ok (.aload_n 1, 1) := by decide +kernel
theorem dX8_goes_26 : decode cX8_goes 26 = .ok (.bipush 17, 2) := by decide +kernel
theorem dX8_goes_28 : decode cX8_goes 28 = .ok (.dup2, 1) := by decide +kernel
theorem dX8_goes_29 : decode cX8_goes 29 = .ok (.iaload, 1) := by decide +kernel
theorem dX8_goes_30 : decode cX8_goes 30 = .ok (.iconst 1, 1) := by decide +kernel
theorem dX8_goes_31 : decode cX8_goes 31 = .ok (.iadd, 1) := by decide +kernel
theorem dX8_goes_32 : decode cX8_goes 32 = .ok (.iastore, 1) := by decide +kernel
theorem dX8_goes_33 : decode cX8_goes 33 = .ok (.aload_n 0, 1) := by decide +kernel
theorem dX8_goes_34 : decode cX8_goes 34 = .ok (.aload_n 1, 1) := by decide +kernel
theorem dX8_goes_35 : decode cX8_goes 35 = .ok (.invokevirtual 162, 3) := by decide +kernel
theorem dX8_goes_38 : decode cX8_goes 38 = .ok (.ifCond .ne 5, 3) := by decide +kernel
theorem dX8_goes_41 : decode cX8_goes 41 = .ok (.iconst 0, 1) := by decide +kernel
theorem dX8_goes_42 : decode cX8_goes 42 = .ok (.ireturn, 1) := by decide +kernel
theorem dX8_goes_43 : decode cX8_goes 43 = .ok (.aload_n 1, 1) := by decide +kernel
theorem dX8_goes_44 : decode cX8_goes 44 = .ok (.bipush 18, 2) := by decide +kernel
theorem dX8_goes_46 : decode cX8_goes 46 = .ok (.dup2, 1) := by decide +kernel
theorem dX8_goes_47 : decode cX8_goes 47 = .ok (.iaload, 1) := by decide +kernel
theorem dX8_goes_48 : decode cX8_goes 48 = .ok (.iconst 1, 1) := by decide +kernel
theorem dX8_goes_49 : decode cX8_goes 49 = .ok (.iadd, 1) := by decide +kernel
theorem dX8_goes_50 : decode cX8_goes 50 = .ok (.iastore, 1) := by decide +kernel
theorem dX8_goes_51 : decode cX8_goes 51 = .ok (.aload_n 1, 1) := by decide +kernel
theorem dX8_goes_52 : decode cX8_goes 52 = .ok (.invokestatic 142, 3) := by decide +kernel
theorem dX8_goes_55 : decode cX8_goes 55 = .ok (.iconst 1, 1) := by decide +kernel
theorem dX8_goes_56 : decode cX8_goes 56 = .ok (.ireturn, 1) := by decide +kernel
set_option maxRecDepth 20000 in
theorem ggX8_tick_X8_isCell : GoodIn wsX8_tick wsX8_isCell := goodIn_r _ [7, 8, 9, 10, 6, 11, 37, 38, 39, 40, 41, 42, 43, 44, 45, 46, 47, 48, 49, 50, 51, 52, 53, 54, 55, 56, 57, 58, 59, 60, 61, 62] (by decide +kernel) (by decide +kernel)
set_option maxRecDepth 20000 in
theorem gX8_tick_X8_isCell : GoodIn wsX8_tick (wsV RX8 136 RX8 yX8_isCell wsX8_isCell) := goodIn_app (goodIn_of _ (by decide +kernel)) ggX8_tick_X8_isCell
set_option maxRecDepth 20000 in
theorem ggX8_tick_X8_keeps : GoodIn wsX8_tick wsX8_keeps := goodIn_r _ [15, 16, 17, 1, 37, 38, 39, 40, 41, 42, 43, 44, 45, 46, 47, 48, 49, 50, 51, 52, 53, 54, 55, 56, 57, 58, 59, 60, 61, 62] (by decide +kernel) (by decide +kernel)
set_option maxRecDepth 20000 in
theorem gX8_tick_X8_keeps : GoodIn wsX8_tick (wsV RX8 139 RX8 yX8_keeps wsX8_keeps) := goodIn_app (goodIn_of _ (by decide +kernel)) ggX8_tick_X8_keeps
set_option maxRecDepth 20000 in
theorem ggX8_tick_X8_goes : GoodIn wsX8_tick wsX8_goes := goodIn_r _ [21, 22, 23, 24, 6, 25, 1, 26, 27, 28, 29, 8, 30, 31, 32, 33, 2, 34, 35, 36, 37, 38, 39, 40, 41, 42, 43, 44, 45, 46, 47, 48, 49, 50, 51, 52, 53, 54, 55, 56, 57, 58, 59, 60, 61, 62] (by decide +kernel) (by decide +kernel)
set_option maxRecDepth 20000 in
theorem gX8_tick_X8_goes : GoodIn wsX8_tick (wsV RX8 166 RX8 yX8_goes wsX8_goes) := goodIn_app (goodIn_of _ (by decide +kernel)) ggX8_tick_X8_goes
theorem dX8_tick_0 : decode cX8_tick 0 = .ok (.aload_n 0, 1) := by decide +kernel
theorem dX8_tick_1 : decode cX8_tick 1 = .ok (.iload_n 1, 1) := by decide +kernel
theorem dX8_tick_2 : decode cX8_tick 2 = .ok (.invokevirtual 136, 3) := by decide +kernel
theorem dX8_tick_5 : decode cX8_tick 5 = .ok (.ifCond .ne 5, 3) := by decide +kernel
theorem dX8_tick_8 : decode cX8_tick 8 = .ok (.iconst (-1), 1) := by decide +kernel
theorem dX8_tick_9 : decode cX8_tick 9 = .ok (.ireturn, 1) := by decide +kernel
theorem dX8_tick_10 : decode cX8_tick 10 = .ok (.aload_n 0, 1) := by decide +kernel
theorem dX8_tick_11 : decode cX8_tick 11 = .ok (.getfield 19, 3) := by decide +kernel
theorem dX8_tick_14 : decode cX8_tick 14 = .ok (.bipush 14, 2) := by decide +kernel
theorem dX8_tick_16 : decode cX8_tick 16 = .ok (.iaload, 1) := by decide +kernel
theorem dX8_tick_17 : decode cX8_tick 17 = .ok (.istore_n 2, 1) := by decide +kernel
theorem dX8_tick_18 : decode cX8_tick 18 = .ok (.iload_n 1, 1) := by decide +kernel
theorem dX8_tick_19 : decode cX8_tick 19 = .ok (.iload_n 2, 1) := by decide +kernel
theorem dX8_tick_20 : decode cX8_tick 20 = .ok (.if_icmp .ne 15, 3) := by decide +kernel
theorem dX8_tick_23 : decode cX8_tick 23 = .ok (.aload_n 0, 1) := by decide +kernel
theorem dX8_tick_24 : decode cX8_tick 24 = .ok (.getfield 19, 3) := by decide +kernel
theorem dX8_tick_27 : decode cX8_tick 27 = .ok (.iload_n 1, 1) := by decide +kernel
theorem dX8_tick_28 : decode cX8_tick 28 = .ok (.iaload, 1) := by decide +kernel
theorem dX8_tick_29 : decode cX8_tick 29 = .ok (.ifCond .ne 23, 3) := by decide +kernel
theorem dX8_tick_32 : decode cX8_tick 32 = .ok (.goto 17, 3) := by decide +kernel
theorem dX8_tick_35 : decode cX8_tick 35 = .ok (.aload_n 0, 1) := by decide +kernel
theorem dX8_tick_36 : decode cX8_tick 36 = .ok (.getfield 13, 3) := by decide +kernel
theorem dX8_tick_39 : decode cX8_tick 39 = .ok (.bipush 6, 2) := by decide +kernel
theorem dX8_tick_41 : decode cX8_tick 41 = .ok (.iload_n 2, 1) := by decide +kernel
theorem dX8_tick_42 : decode cX8_tick 42 = .ok (.imul, 1) := by decide +kernel
theorem dX8_tick_43 : decode cX8_tick 43 = .ok (.iload_n 1, 1) := by decide +kernel
theorem dX8_tick_44 : decode cX8_tick 44 = .ok (.iadd, 1) := by decide +kernel
theorem dX8_tick_45 : decode cX8_tick 45 = .ok (.iaload, 1) := by decide +kernel
theorem dX8_tick_46 : decode cX8_tick 46 = .ok (.ifCond .ne 6, 3) := by decide +kernel
theorem dX8_tick_49 : decode cX8_tick 49 = .ok (.bipush (-2), 2) := by decide +kernel
theorem dX8_tick_51 : decode cX8_tick 51 = .ok (.ireturn, 1) := by decide +kernel
theorem dX8_tick_52 : decode cX8_tick 52 = .ok (.aload_n 0, 1) := by decide +kernel
theorem dX8_tick_53 : decode cX8_tick 53 = .ok (.invokevirtual 139, 3) := by decide +kernel
theorem dX8_tick_56 : decode cX8_tick 56 = .ok (.aload_n 0, 1) := by decide +kernel
theorem dX8_tick_57 : decode cX8_tick 57 = .ok (.aload_n 0, 1) := by decide +kernel
theorem dX8_tick_58 : decode cX8_tick 58 = .ok (.getfield 19, 3) := by decide +kernel
theorem dX8_tick_61 : decode cX8_tick 61 = .ok (.iload_n 1, 1) := by decide +kernel
theorem dX8_tick_62 : decode cX8_tick 62 = .ok (.invokevirtual 166, 3) := by decide +kernel
theorem dX8_tick_65 : decode cX8_tick 65 = .ok (.ireturn, 1) := by decide +kernel
set_option maxRecDepth 20000 in
theorem ggX8_handset_X8_isIn : GoodIn wsX8_handset wsX8_isIn := goodIn_r _ [6] (by decide +kernel) (by decide +kernel)
set_option maxRecDepth 20000 in
theorem gX8_handset_X8_isIn : GoodIn wsX8_handset (va_wsS RX8 98 yX8_isIn wsX8_isIn) := goodIn_app (goodIn_of _ (by decide +kernel)) ggX8_handset_X8_isIn
theorem dX8_handset_0 : decode cX8_handset 0 = .ok (.iload_n 1, 1) := by decide +kernel
theorem dX8_handset_1 : decode cX8_handset 1 = .ok (.iconst 0, 1) := by decide +kernel
theorem dX8_handset_2 : decode cX8_handset 2 = .ok (.bipush 6, 2) := by decide +kernel
theorem dX8_handset_4 : decode cX8_handset 4 = .ok (.invokestatic 98, 3) := by decide +kernel
theorem dX8_handset_7 : decode cX8_handset 7 = .ok (.ifCond .ne 5, 3) := by decide +kernel
theorem dX8_handset_10 : decode cX8_handset 10 = .ok (.iconst (-1), 1) := by decide +kernel
theorem dX8_handset_11 : decode cX8_handset 11 = .ok (.ireturn, 1) := by decide +kernel
theorem dX8_handset_12 : decode cX8_handset 12 = .ok (.iload_n 1, 1) := by decide +kernel
theorem dX8_handset_13 : decode cX8_handset 13 = .ok (.bipush 6, 2) := by decide +kernel
theorem dX8_handset_15 : decode cX8_handset 15 = .ok (.if_icmp .ge 15, 3) := by decide +kernel
theorem dX8_handset_18 : decode cX8_handset 18 = .ok (.aload_n 0, 1) := by decide +kernel
theorem dX8_handset_19 : decode cX8_handset 19 = .ok (.getfield 19, 3) := by decide +kernel
theorem dX8_handset_22 : decode cX8_handset 22 = .ok (.bipush 14, 2) := by decide +kernel
theorem dX8_handset_24 : decode cX8_handset 24 = .ok (.iload_n 1, 1) := by decide +kernel
theorem dX8_handset_25 : decode cX8_handset 25 = .ok (.iadd, 1) := by decide +kernel
theorem dX8_handset_26 : decode cX8_handset 26 = .ok (.iaload, 1) := by decide +kernel
theorem dX8_handset_27 : decode cX8_handset 27 = .ok (.goto 32, 3) := by decide +kernel
theorem dX8_handset_30 : decode cX8_handset 30 = .ok (.aload_n 0, 1) := by decide +kernel
theorem dX8_handset_31 : decode cX8_handset 31 = .ok (.getfield 16, 3) := by decide +kernel
theorem dX8_handset_34 : decode cX8_handset 34 = .ok (.iconst 1, 1) := by decide +kernel
theorem dX8_handset_35 : decode cX8_handset 35 = .ok (.iaload, 1) := by decide +kernel
theorem dX8_handset_36 : decode cX8_handset 36 = .ok (.aload_n 0, 1) := by decide +kernel
theorem dX8_handset_37 : decode cX8_handset 37 = .ok (.getfield 19, 3) := by decide +kernel
theorem dX8_handset_40 : decode cX8_handset 40 = .ok (.bipush 19, 2) := by decide +kernel
theorem dX8_handset_42 : decode cX8_handset 42 = .ok (.iaload, 1) := by decide +kernel
theorem dX8_handset_43 : decode cX8_handset 43 = .ok (.imul, 1) := by decide +kernel
theorem dX8_handset_44 : decode cX8_handset 44 = .ok (.aload_n 0, 1) := by decide +kernel
theorem dX8_handset_45 : decode cX8_handset 45 = .ok (.getfield 16, 3) := by decide +kernel
theorem dX8_handset_48 : decode cX8_handset 48 = .ok (.iconst 2, 1) := by decide +kernel
theorem dX8_handset_49 : decode cX8_handset 49 = .ok (.iaload, 1) := by decide +kernel
theorem dX8_handset_50 : decode cX8_handset 50 = .ok (.aload_n 0, 1) := by decide +kernel
theorem dX8_handset_51 : decode cX8_handset 51 = .ok (.getfield 19, 3) := by decide +kernel
theorem dX8_handset_54 : decode cX8_handset 54 = .ok (.bipush 18, 2) := by decide +kernel
theorem dX8_handset_56 : decode cX8_handset 56 = .ok (.iaload, 1) := by decide +kernel
theorem dX8_handset_57 : decode cX8_handset 57 = .ok (.imul, 1) := by decide +kernel
theorem dX8_handset_58 : decode cX8_handset 58 = .ok (.iadd, 1) := by decide +kernel
theorem dX8_handset_59 : decode cX8_handset 59 = .ok (.ireturn, 1) := by decide +kernel
set_option maxRecDepth 20000 in
theorem ggX8_allowed_X8_far : GoodIn wsX8_allowed wsX8_far := goodIn_r _ [7, 2, 8, 9, 10, 6, 11, 12, 13, 14, 15, 16, 17, 18, 19, 20, 21, 22, 23, 24, 25, 26, 27, 28, 29, 30, 31, 32, 33, 34, 35, 36, 37, 38] (by decide +kernel) (by decide +kernel)
set_option maxRecDepth 20000 in
theorem gX8_allowed_X8_far : GoodIn wsX8_allowed (wsV RX8 158 RX8 yX8_far wsX8_far) := goodIn_app (goodIn_of _ (by decide +kernel)) ggX8_allowed_X8_far
theorem dX8_allowed_0 : decode cX8_allowed 0 = .ok (.aload_n 0, 1) := by decide +kernel
theorem dX8_allowed_1 : decode cX8_allowed 1 = .ok (.getfield 19, 3) := by decide +kernel
theorem dX8_allowed_4 : decode cX8_allowed 4 = .ok (.bipush 15, 2) := by decide +kernel
theorem dX8_allowed_6 : decode cX8_allowed 6 = .ok (.iaload, 1) := by decide +kernel
theorem dX8_allowed_7 : decode cX8_allowed 7 = .ok (.istore_n 1, 1) := by decide +kernel
theorem dX8_allowed_8 : decode cX8_allowed 8 = .ok (.iconst 0, 1) := by decide +kernel
theorem dX8_allowed_9 : decode cX8_allowed 9 = .ok (.istore_n 2, 1) := by decide +kernel
theorem dX8_allowed_10 : decode cX8_allowed 10 = .ok (.iconst 0, 1) := by decide +kernel
theorem dX8_allowed_11 : decode cX8_allowed 11 = .ok (.istore_n 3, 1) := by decide +kernel
theorem dX8_allowed_12 : decode cX8_allowed 12 = .ok (.iload_n 3, 1) := by decide +kernel
theorem dX8_allowed_13 : decode cX8_allowed 13 = .ok (.aload_n 0, 1) := by decide +kernel
theorem dX8_allowed_14 : decode cX8_allowed 14 = .ok (.getfield 76, 3) := by decide +kernel
theorem dX8_allowed_17 : decode cX8_allowed 17 = .ok (.if_icmp .ge 97, 3) := by decide +kernel
theorem dX8_allowed_20 : decode cX8_allowed 20 = .ok (.aload_n 0, 1) := by decide +kernel
theorem dX8_allowed_21 : decode cX8_allowed 21 = .ok (.getfield 19, 3) := by decide +kernel
theorem dX8_allowed_24 : decode cX8_allowed 24 = .ok (.bipush 12, 2) := by decide +kernel
theorem dX8_allowed_26 : decode cX8_allowed 26 = .ok (.iaload, 1) := by decide +kernel
theorem dX8_allowed_27 : decode cX8_allowed 27 = .ok (.ifCond .ne 32, 3) := by decide +kernel
theorem dX8_allowed_30 : decode cX8_allowed 30 = .ok (.aload_n 0, 1) := by decide +kernel
theorem dX8_allowed_31 : decode cX8_allowed 31 = .ok (.getfield 19, 3) := by decide +kernel
theorem dX8_allowed_34 : decode cX8_allowed 34 = .ok (.bipush 6, 2) := by decide +kernel
theorem dX8_allowed_36 : decode cX8_allowed 36 = .ok (.iload_n 3, 1) := by decide +kernel
theorem dX8_allowed_37 : decode cX8_allowed 37 = .ok (.iadd, 1) := by decide +kernel
theorem dX8_allowed_38 : decode cX8_allowed 38 = .ok (.iaload, 1) := by decide +kernel
theorem dX8_allowed_39 : decode cX8_allowed 39 = .ok (.aload_n 0, 1) := by decide +kernel
theorem dX8_allowed_40 : decode cX8_allowed 40 = .ok (.getfield 19, 3) := by decide +kernel
theorem dX8_allowed_43 : decode cX8_allowed 43 = .ok (.bipush 6, 2) := by decide +kernel
theorem dX8_allowed_45 : decode cX8_allowed 45 = .ok (.iload_n 1, 1) := by decide +kernel
theorem dX8_allowed_46 : decode cX8_allowed 46 = .ok (.iadd, 1) := by decide +kernel
theorem dX8_allowed_47 : decode cX8_allowed 47 = .ok (.iaload, 1) := by decide +kernel
theorem dX8_allowed_48 : decode cX8_allowed 48 = .ok (.if_icmp .ne 7, 3) := by decide +kernel
theorem dX8_allowed_51 : decode cX8_allowed 51 = .ok (.iconst 1, 1) := by decide +kernel
theorem dX8_allowed_52 : decode cX8_allowed 52 = .ok (.goto 39, 3) := by decide +kernel
theorem dX8_allowed_55 : decode cX8_allowed 55 = .ok (.iconst 0, 1) := by decide +kernel
theorem dX8_allowed_56 : decode cX8_allowed 56 = .ok (.goto 35, 3) := by decide +kernel
theorem dX8_allowed_59 : decode cX8_allowed 59 = .ok (.aload_n 0, 1) := by decide +kernel
theorem dX8_allowed_60 : decode cX8_allowed 60 = .ok (.getfield 19, 3) := by decide +kernel
theorem dX8_allowed_63 : decode cX8_allowed 63 = .ok (.bipush 12, 2) := by decide +kernel
theorem dX8_allowed_65 : decode cX8_allowed 65 = .ok (.iaload, 1) := by decide +kernel
theorem dX8_allowed_66 : decode cX8_allowed 66 = .ok (.iconst 3, 1) := by decide +kernel
theorem dX8_allowed_67 : decode cX8_allowed 67 = .ok (.if_icmp .ne 19, 3) := by decide +kernel
theorem dX8_allowed_70 : decode cX8_allowed 70 = .ok (.aload_n 0, 1) := by decide +kernel
theorem dX8_allowed_71 : decode cX8_allowed 71 = .ok (.iload_n 3, 1) := by decide +kernel
theorem dX8_allowed_72 : decode cX8_allowed 72 = .ok (.iload_n 1, 1) := by decide +kernel
theorem dX8_allowed_73 : decode cX8_allowed 73 = .ok (.invokevirtual 158, 3) := by decide +kernel
theorem dX8_allowed_76 : decode cX8_allowed 76 = .ok (.aload_n 0, 1) := by decide +kernel
theorem dX8_allowed_77 : decode cX8_allowed 77 = .ok (.getfield 19, 3) := by decide +kernel
theorem dX8_allowed_80 : decode cX8_allowed 80 = .ok (.bipush 13, 2) := by decide +kernel
theorem dX8_allowed_82 : decode cX8_allowed 82 = .ok (.iaload, 1) := by decide +kernel
theorem dX8_allowed_83 : decode cX8_allowed 83 = .ok (.if_icmp .ge 7, 3) := by decide +kernel
theorem dX8_allowed_86 : decode cX8_allowed 86 = .ok (.iconst 1, 1) := by decide +kernel
theorem dX8_allowed_87 : decode cX8_allowed 87 = .ok (.goto 4, 3) := by decide +kernel
theorem dX8_allowed_90 : decode cX8_allowed 90 = .ok (.iconst 0, 1) := by decide +kernel
theorem dX8_allowed_91 : decode cX8_allowed 91 = .ok (.istore 4, 2) := by decide +kernel
theorem dX8_allowed_93 : decode cX8_allowed 93 = .ok (.iload_n 2, 1) := by decide +kernel
theorem dX8_allowed_94 : decode cX8_allowed 94 = .ok (.iload 4, 2) := by decide +kernel
theorem dX8_allowed_96 : decode cX8_allowed 96 = .ok (.ifCond .eq 9, 3) := by decide +kernel
theorem dX8_allowed_99 : decode cX8_allowed 99 = .ok (.iconst 1, 1) := by decide +kernel
theorem dX8_allowed_100 : decode cX8_allowed 100 = .ok (.iload_n 3, 1) := by decide +kernel
theorem dX8_allowed_101 : decode cX8_allowed 101 = .ok (.ishl, 1) := by decide +kernel
theorem dX8_allowed_102 : decode cX8_allowed 102 = .ok (.goto 4, 3) := by decide +kernel
theorem dX8_allowed_105 : decode cX8_allowed 105 = .ok (.iconst 0, 1) := by decide +kernel
theorem dX8_allowed_106 : decode cX8_allowed 106 = .ok (.ior, 1) := by decide +kernel
theorem dX8_allowed_107 : decode cX8_allowed 107 = .ok (.istore_n 2, 1) := by decide +kernel
theorem dX8_allowed_108 : decode cX8_allowed 108 = .ok (.iinc 3 1, 3) := by decide +kernel
theorem dX8_allowed_111 : decode cX8_allowed 111 = .ok (.goto (-99), 3) := by decide +kernel
theorem dX8_allowed_114 : decode cX8_allowed 114 = .ok (.iload_n 2, 1) := by decide +kernel
theorem dX8_allowed_115 : decode cX8_allowed 115 = .ok (.ireturn, 1) := by decide +kernel
set_option maxRecDepth 20000 in
theorem ggX8_whereIs_X8_allowed : GoodIn wsX8_whereIs wsX8_allowed := goodIn_r _ [9, 1, 4, 10, 11, 12, 8, 13, 14, 15, 16, 17, 18, 19, 20, 21, 22, 23, 24, 25, 26, 27, 28, 29, 30, 31, 32, 33, 34, 35, 36, 37, 38, 39, 40, 41, 42, 43, 44] (by decide +kernel) (by decide +kernel)
set_option maxRecDepth 20000 in
theorem gX8_whereIs_X8_allowed : GoodIn wsX8_whereIs (wsV RX8 170 RX8 yX8_allowed wsX8_allowed) := goodIn_app (goodIn_of _ (by decide +kernel)) ggX8_whereIs_X8_allowed
set_option maxRecDepth 20000 in
theorem ggX8_whereIs_X8_joined : GoodIn wsX8_whereIs wsX8_joined := goodIn_r _ [17, 4, 18, 19, 20, 21, 22, 23, 24, 25, 26, 27, 28, 29, 30, 31, 32, 33, 34, 35, 36, 37, 38, 39, 40, 41, 42, 43, 44] (by decide +kernel) (by decide +kernel)
set_option maxRecDepth 20000 in
theorem gX8_whereIs_X8_joined : GoodIn wsX8_whereIs (wsV RX8 152 RX8 yX8_joined wsX8_joined) := goodIn_app (goodIn_of _ (by decide +kernel)) ggX8_whereIs_X8_joined
theorem dX8_whereIs_0 : decode cX8_whereIs 0 = .ok (.aload_n 0, 1) := by decide +kernel
theorem dX8_whereIs_1 : decode cX8_whereIs 1 = .ok (.invokevirtual 170, 3) := by decide +kernel
theorem dX8_whereIs_4 : decode cX8_whereIs 4 = .ok (.istore_n 1, 1) := by decide +kernel
theorem dX8_whereIs_5 : decode cX8_whereIs 5 = .ok (.aload_n 0, 1) := by decide +kernel
theorem dX8_whereIs_6 : decode cX8_whereIs 6 = .ok (.getfield 19, 3) := by decide +kernel
theorem dX8_whereIs_9 : decode cX8_whereIs 9 = .ok (.bipush 12, 2) := by decide +kernel
theorem dX8_whereIs_11 : decode cX8_whereIs 11 = .ok (.iaload, 1) := by decide +kernel
theorem dX8_whereIs_12 : decode cX8_whereIs 12 = .ok (.iconst 1, 1) := by decide +kernel
theorem dX8_whereIs_13 : decode cX8_whereIs 13 = .ok (.if_icmp .ne 15, 3) := by decide +kernel
theorem dX8_whereIs_16 : decode cX8_whereIs 16 = .ok (.aload_n 0, 1) := by decide +kernel
theorem dX8_whereIs_17 : decode cX8_whereIs 17 = .ok (.getfield 19, 3) := by decide +kernel
theorem dX8_whereIs_20 : decode cX8_whereIs 20 = .ok (.bipush 13, 2) := by decide +kernel
theorem dX8_whereIs_22 : decode cX8_whereIs 22 = .ok (.iaload, 1) := by decide +kernel
theorem dX8_whereIs_23 : decode cX8_whereIs 23 = .ok (.iconst 1, 1) := by decide +kernel
theorem dX8_whereIs_24 : decode cX8_whereIs 24 = .ok (.isub, 1) := by decide +kernel
theorem dX8_whereIs_25 : decode cX8_whereIs 25 = .ok (.goto 4, 3) := by decide +kernel
theorem dX8_whereIs_28 : decode cX8_whereIs 28 = .ok (.iconst 0, 1) := by decide +kernel
theorem dX8_whereIs_29 : decode cX8_whereIs 29 = .ok (.istore_n 2, 1) := by decide +kernel
theorem dX8_whereIs_30 : decode cX8_whereIs 30 = .ok (.iconst 0, 1) := by decide +kernel
theorem dX8_whereIs_31 : decode cX8_whereIs 31 = .ok (.istore_n 3, 1) := by decide +kernel
theorem dX8_whereIs_32 : decode cX8_whereIs 32 = .ok (.iload_n 3, 1) := by decide +kernel
theorem dX8_whereIs_33 : decode cX8_whereIs 33 = .ok (.bipush 10, 2) := by decide +kernel
theorem dX8_whereIs_35 : decode cX8_whereIs 35 = .ok (.if_icmp .ge 32, 3) := by decide +kernel
theorem dX8_whereIs_38 : decode cX8_whereIs 38 = .ok (.aload_n 0, 1) := by decide +kernel
theorem dX8_whereIs_39 : decode cX8_whereIs 39 = .ok (.getfield 34, 3) := by decide +kernel
theorem dX8_whereIs_42 : decode cX8_whereIs 42 = .ok (.iload_n 3, 1) := by decide +kernel
theorem dX8_whereIs_43 : decode cX8_whereIs 43 = .ok (.iload_n 3, 1) := by decide +kernel
theorem dX8_whereIs_44 : decode cX8_whereIs 44 = .ok (.ifCond .ne 15, 3) := by decide +kernel
theorem dX8_whereIs_47 : decode cX8_whereIs 47 = .ok (.iconst 1, 1) := by decide +kernel
theorem dX8_whereIs_48 : decode cX8_whereIs 48 = .ok (.aload_n 0, 1) := by decide +kernel
theorem dX8_whereIs_49 : decode cX8_whereIs 49 = .ok (.getfield 19, 3) := by decide +kernel
theorem dX8_whereIs_52 : decode cX8_whereIs 52 = .ok (.bipush 15, 2) := by decide +kernel
theorem dX8_whereIs_54 : decode cX8_whereIs 54 = .ok (.iaload, 1) := by decide +kernel
theorem dX8_whereIs_55 : decode cX8_whereIs 55 = .ok (.ishl, 1) := by decide +kernel
theorem dX8_whereIs_56 : decode cX8_whereIs 56 = .ok (.goto 4, 3) := by decide +kernel
theorem dX8_whereIs_59 : decode cX8_whereIs 59 = .ok (.iconst 0, 1) := by decide +kernel
theorem dX8_whereIs_60 : decode cX8_whereIs 60 = .ok (.iastore, 1) := by decide +kernel
theorem dX8_whereIs_61 : decode cX8_whereIs 61 = .ok (.iinc 3 1, 3) := by decide +kernel
theorem dX8_whereIs_64 : decode cX8_whereIs 64 = .ok (.goto (-32), 3) := by decide +kernel
theorem dX8_whereIs_67 : decode cX8_whereIs 67 = .ok (.iconst 0, 1) := by decide +kernel
theorem dX8_whereIs_68 : decode cX8_whereIs 68 = .ok (.istore_n 3, 1) := by decide +kernel
theorem dX8_whereIs_69 : decode cX8_whereIs 69 = .ok (.iload_n 3, 1) := by decide +kernel
theorem dX8_whereIs_70 : decode cX8_whereIs 70 = .ok (.aload_n 0, 1) := by decide +kernel
theorem dX8_whereIs_71 : decode cX8_whereIs 71 = .ok (.getfield 19, 3) := by decide +kernel
theorem dX8_whereIs_74 : decode cX8_whereIs 74 = .ok (.bipush 17, 2) := by decide +kernel
theorem dX8_whereIs_76 : decode cX8_whereIs 76 = .ok (.iaload, 1) := by decide +kernel
theorem dX8_whereIs_77 : decode cX8_whereIs 77 = .ok (.if_icmp .ge 190, 3) := by decide +kernel
theorem dX8_whereIs_80 : decode cX8_whereIs 80 = .ok (.iconst 0, 1) := by decide +kernel
theorem dX8_whereIs_81 : decode cX8_whereIs 81 = .ok (.istore 4, 2) := by decide +kernel
theorem dX8_whereIs_83 : decode cX8_whereIs 83 = .ok (.iload 4, 2) := by decide +kernel
theorem dX8_whereIs_85 : decode cX8_whereIs 85 = .ok (.bipush 10, 2) := by decide +kernel
theorem dX8_whereIs_87 : decode cX8_whereIs 87 = .ok (.if_icmp .ge 17, 3) := by decide +kernel
theorem dX8_whereIs_90 : decode cX8_whereIs 90 = .ok (.aload_n 0, 1) := by decide +kernel
theorem dX8_whereIs_91 : decode cX8_whereIs 91 = .ok (.getfield 37, 3) := by decide +kernel
theorem dX8_whereIs_94 : decode cX8_whereIs 94 = .ok (.iload 4, 2) := by decide +kernel
theorem dX8_whereIs_96 : decode cX8_whereIs 96 = .ok (.iconst 0, 1) := by decide +kernel
theorem dX8_whereIs_97 : decode cX8_whereIs 97 = .ok (.iastore, 1) := by decide +kernel
theorem dX8_whereIs_98 : decode cX8_whereIs 98 = .ok (.iinc 4 1, 3) := by decide +kernel
theorem dX8_whereIs_101 : decode cX8_whereIs 101 = .ok (.goto (-18), 3) := by decide +kernel
theorem dX8_whereIs_104 : decode cX8_whereIs 104 = .ok (.iconst 0, 1) := by decide +kernel
theorem dX8_whereIs_105 : decode cX8_whereIs 105 = .ok (.istore 4, 2) := by decide +kernel
theorem dX8_whereIs_107 : decode cX8_whereIs 107 = .ok (.iload 4, 2) := by decide +kernel
theorem dX8_whereIs_109 : decode cX8_whereIs 109 = .ok (.iload_n 2, 1) := by decide +kernel
theorem dX8_whereIs_110 : decode cX8_whereIs 110 = .ok (.if_icmp .gt 121, 3) := by decide +kernel
theorem dX8_whereIs_113 : decode cX8_whereIs 113 = .ok (.iconst 0, 1) := by decide +kernel
theorem dX8_whereIs_114 : decode cX8_whereIs 114 = .ok (.istore 5, 2) := by decide +kernel
theorem dX8_whereIs_116 : decode cX8_whereIs 116 = .ok (.iload 5, 2) := by decide +kernel
theorem dX8_whereIs_118 : decode cX8_whereIs 118 = .ok (.aload_n 0, 1) := by decide +kernel
theorem dX8_whereIs_119 : decode cX8_whereIs 119 = .ok (.getfield 76, 3) := by decide +kernel
theorem dX8_whereIs_122 : decode cX8_whereIs 122 = .ok (.if_icmp .ge 103, 3) := by decide +kernel
theorem dX8_whereIs_125 : decode cX8_whereIs 125 = .ok (.aload_n 0, 1) := by decide +kernel
theorem dX8_whereIs_126 : decode cX8_whereIs 126 = .ok (.getfield 34, 3) := by decide +kernel
theorem dX8_whereIs_129 : decode cX8_whereIs 129 = .ok (.iload 4, 2) := by decide +kernel
theorem dX8_whereIs_131 : decode cX8_whereIs 131 = .ok (.iaload, 1) := by decide +kernel
theorem dX8_whereIs_132 : decode cX8_whereIs 132 = .ok (.iload 5, 2) := by decide +kernel
theorem dX8_whereIs_134 : decode cX8_whereIs 134 = .ok (.ishr, 1) := by decide +kernel
theorem dX8_whereIs_135 : decode cX8_whereIs 135 = .ok (.iconst 1, 1) := by decide +kernel
theorem dX8_whereIs_136 : decode cX8_whereIs 136 = .ok (.iand, 1) := by decide +kernel
theorem dX8_whereIs_137 : decode cX8_whereIs 137 = .ok (.iconst 1, 1) := by decide +kernel
theorem dX8_whereIs_138 : decode cX8_whereIs 138 = .ok (.if_icmp .ne 81, 3) := by decide +kernel
theorem dX8_whereIs_141 : decode cX8_whereIs 141 = .ok (.aload_n 0, 1) := by decide +kernel
theorem dX8_whereIs_142 : decode cX8_whereIs 142 = .ok (.getfield 37, 3) := by decide +kernel
theorem dX8_whereIs_145 : decode cX8_whereIs 145 = .ok (.iload 4, 2) := by decide +kernel
theorem dX8_whereIs_147 : decode cX8_whereIs 147 = .ok (.dup2, 1) := by decide +kernel
theorem dX8_whereIs_148 : decode cX8_whereIs 148 = .ok (.iaload, 1) := by decide +kernel
theorem dX8_whereIs_149 : decode cX8_whereIs 149 = .ok (.aload_n 0, 1) := by decide +kernel
theorem dX8_whereIs_150 : decode cX8_whereIs 150 = .ok (.getfield 19, 3) := by decide +kernel
theorem dX8_whereIs_153 : decode cX8_whereIs 153 = .ok (.iload 5, 2) := by decide +kernel
theorem dX8_whereIs_155 : decode cX8_whereIs 155 = .ok (.iaload, 1) := by decide +kernel
theorem dX8_whereIs_156 : decode cX8_whereIs 156 = .ok (.ifCond .le 10, 3) := by decide +kernel
theorem dX8_whereIs_159 : decode cX8_whereIs 159 = .ok (.iconst 1, 1) := by decide +kernel
theorem dX8_whereIs_160 : decode cX8_whereIs 160 = .ok (.iload 5, 2) := by decide +kernel
theorem dX8_whereIs_162 : decode cX8_whereIs 162 = .ok (.ishl, 1) := by decide +kernel
theorem dX8_whereIs_163 : decode cX8_whereIs 163 = .ok (.goto 4, 3) := by decide +kernel
theorem dX8_whereIs_166 : decode cX8_whereIs 166 = .ok (.iconst 0, 1) := by decide +kernel
theorem dX8_whereIs_167 : decode cX8_whereIs 167 = .ok (.ior, 1) := by decide +kernel
theorem dX8_whereIs_168 : decode cX8_whereIs 168 = .ok (.iastore, 1) := by decide +kernel
theorem dX8_whereIs_169 : decode cX8_whereIs 169 = .ok (.aload_n 0, 1) := by decide +kernel
theorem dX8_whereIs_170 : decode cX8_whereIs 170 = .ok (.getfield 19, 3) := by decide +kernel
theorem dX8_whereIs_173 : decode cX8_whereIs 173 = .ok (.bipush 12, 2) := by decide +kernel
theorem dX8_whereIs_175 : decode cX8_whereIs 175 = .ok (.iaload, 1) := by decide +kernel
theorem dX8_whereIs_176 : decode cX8_whereIs 176 = .ok (.iconst 1, 1) := by decide +kernel
theorem dX8_whereIs_177 : decode cX8_whereIs 177 = .ok (.if_icmp .ne 10, 3) := by decide +kernel
theorem dX8_whereIs_180 : decode cX8_whereIs 180 = .ok (.iload 4, 2) := by decide +kernel
theorem dX8_whereIs_182 : decode cX8_whereIs 182 = .ok (.iconst 1, 1) := by decide +kernel
theorem dX8_whereIs_183 : decode cX8_whereIs 183 = .ok (.iadd, 1) := by decide +kernel
theorem dX8_whereIs_184 : decode cX8_whereIs 184 = .ok (.goto 5, 3) := by decide +kernel
theorem dX8_whereIs_187 : decode cX8_whereIs 187 = .ok (.iload 4, 2) := by decide +kernel
theorem dX8_whereIs_189 : decode cX8_whereIs 189 = .ok (.istore 6, 2) := by decide +kernel
theorem dX8_whereIs_191 : decode cX8_whereIs 191 = .ok (.aload_n 0, 1) := by decide +kernel
theorem dX8_whereIs_192 : decode cX8_whereIs 192 = .ok (.getfield 37, 3) := by decide +kernel
theorem dX8_whereIs_195 : decode cX8_whereIs 195 = .ok (.iload 6, 2) := by decide +kernel
theorem dX8_whereIs_197 : decode cX8_whereIs 197 = .ok (.dup2, 1) := by decide +kernel
theorem dX8_whereIs_198 : decode cX8_whereIs 198 = .ok (.iaload, 1) := by decide +kernel
theorem dX8_whereIs_199 : decode cX8_whereIs 199 = .ok (.iload 6, 2) := by decide +kernel
theorem dX8_whereIs_201 : decode cX8_whereIs 201 = .ok (.iload_n 2, 1) := by decide +kernel
theorem dX8_whereIs_202 : decode cX8_whereIs 202 = .ok (.if_icmp .gt 14, 3) := by decide +kernel
theorem dX8_whereIs_205 : decode cX8_whereIs 205 = .ok (.aload_n 0, 1) := by decide +kernel
theorem dX8_whereIs_206 : decode cX8_whereIs 206 = .ok (.iload 5, 2) := by decide +kernel
theorem dX8_whereIs_208 : decode cX8_whereIs 208 = .ok (.invokevirtual 152, 3) := by decide +kernel
theorem dX8_whereIs_211 : decode cX8_whereIs 211 = .ok (.iload_n 1, 1) := by decide +kernel
theorem dX8_whereIs_212 : decode cX8_whereIs 212 = .ok (.iand, 1) := by decide +kernel
theorem dX8_whereIs_213 : decode cX8_whereIs 213 = .ok (.goto 4, 3) := by decide +kernel
theorem dX8_whereIs_216 : decode cX8_whereIs 216 = .ok (.iconst 0, 1) := by decide +kernel
theorem dX8_whereIs_217 : decode cX8_whereIs 217 = .ok (.ior, 1) := by decide +kernel
theorem dX8_whereIs_218 : decode cX8_whereIs 218 = .ok (.iastore, 1) := by decide +kernel
theorem dX8_whereIs_219 : decode cX8_whereIs 219 = .ok (.iinc 5 1, 3) := by decide +kernel
theorem dX8_whereIs_222 : decode cX8_whereIs 222 = .ok (.goto (-106), 3) := by decide +kernel
theorem dX8_whereIs_225 : decode cX8_whereIs 225 = .ok (.iinc 4 1, 3) := by decide +kernel
theorem dX8_whereIs_228 : decode cX8_whereIs 228 = .ok (.goto (-121), 3) := by decide +kernel
theorem dX8_whereIs_231 : decode cX8_whereIs 231 = .ok (.iconst 0, 1) := by decide +kernel
theorem dX8_whereIs_232 : decode cX8_whereIs 232 = .ok (.istore 4, 2) := by decide +kernel
theorem dX8_whereIs_234 : decode cX8_whereIs 234 = .ok (.iload 4, 2) := by decide +kernel
theorem dX8_whereIs_236 : decode cX8_whereIs 236 = .ok (.bipush 10, 2) := by decide +kernel
theorem dX8_whereIs_238 : decode cX8_whereIs 238 = .ok (.if_icmp .ge 23, 3) := by decide +kernel
theorem dX8_whereIs_241 : decode cX8_whereIs 241 = .ok (.aload_n 0, 1) := by decide +kernel
theorem dX8_whereIs_242 : decode cX8_whereIs 242 = .ok (.getfield 34, 3) := by decide +kernel
theorem dX8_whereIs_245 : decode cX8_whereIs 245 = .ok (.iload 4, 2) := by decide +kernel
theorem dX8_whereIs_247 : decode cX8_whereIs 247 = .ok (.aload_n 0, 1) := by decide +kernel
theorem dX8_whereIs_248 : decode cX8_whereIs 248 = .ok (.getfield 37, 3) := by decide +kernel
theorem dX8_whereIs_251 : decode cX8_whereIs 251 = .ok (.iload 4, 2) := by decide +kernel
theorem dX8_whereIs_253 : decode cX8_whereIs 253 = .ok (.iaload, 1) := by decide +kernel
theorem dX8_whereIs_254 : decode cX8_whereIs 254 = .ok (.iastore, 1) := by decide +kernel
theorem dX8_whereIs_255 : decode cX8_whereIs 255 = .ok (.iinc 4 1, 3) := by decide +kernel
theorem dX8_whereIs_258 : decode cX8_whereIs 258 = .ok (.goto (-24), 3) := by decide +kernel
theorem dX8_whereIs_261 : decode cX8_whereIs 261 = .ok (.iinc 3 1, 3) := by decide +kernel
theorem dX8_whereIs_264 : decode cX8_whereIs 264 = .ok (.goto (-195), 3) := by decide +kernel
theorem dX8_whereIs_267 : decode cX8_whereIs 267 = .ok (.iconst 0, 1) := by decide +kernel
theorem dX8_whereIs_268 : decode cX8_whereIs 268 = .ok (.istore_n 3, 1) := by decide +kernel
theorem dX8_whereIs_269 : decode cX8_whereIs 269 = .ok (.iconst 0, 1) := by decide +kernel
theorem dX8_whereIs_270 : decode cX8_whereIs 270 = .ok (.istore 4, 2) := by decide +kernel
theorem dX8_whereIs_272 : decode cX8_whereIs 272 = .ok (.iload 4, 2) := by decide +kernel
theorem dX8_whereIs_274 : decode cX8_whereIs 274 = .ok (.iload_n 2, 1) := by decide +kernel
theorem dX8_whereIs_275 : decode cX8_whereIs 275 = .ok (.if_icmp .gt 19, 3) := by decide +kernel
theorem dX8_whereIs_278 : decode cX8_whereIs 278 = .ok (.iload_n 3, 1) := by decide +kernel
theorem dX8_whereIs_279 : decode cX8_whereIs 279 = .ok (.aload_n 0, 1) := by decide +kernel
theorem dX8_whereIs_280 : decode cX8_whereIs 280 = .ok (.getfield 34, 3) := by decide +kernel
theorem dX8_whereIs_283 : decode cX8_whereIs 283 = .ok (.iload 4, 2) := by decide +kernel
theorem dX8_whereIs_285 : decode cX8_whereIs 285 = .ok (.iaload, 1) := by decide +kernel
theorem dX8_whereIs_286 : decode cX8_whereIs 286 = .ok (.ior, 1) := by decide +kernel
theorem dX8_whereIs_287 : decode cX8_whereIs 287 = .ok (.istore_n 3, 1) := by decide +kernel
theorem dX8_whereIs_288 : decode cX8_whereIs 288 = .ok (.iinc 4 1, 3) := by decide +kernel
theorem dX8_whereIs_291 : decode cX8_whereIs 291 = .ok (.goto (-19), 3) := by decide +kernel
theorem dX8_whereIs_294 : decode cX8_whereIs 294 = .ok (.iload_n 3, 1) := by decide +kernel
theorem dX8_whereIs_295 : decode cX8_whereIs 295 = .ok (.ireturn, 1) := by decide +kernel
set_option maxRecDepth 20000 in
theorem ggX8_where_X8_whereIs : GoodIn wsX8_where wsX8_whereIs := goodIn_r _ [5, 6, 7, 8, 9, 10, 11, 12, 4, 13, 14, 15, 16, 17, 18, 19, 20, 21, 22, 23, 24, 25, 26, 27, 28, 29, 30, 31, 32, 33, 34, 35, 36, 37, 38, 39, 40, 41, 42, 43, 44, 45, 46, 47, 48] (by decide +kernel) (by decide +kernel)
set_option maxRecDepth 20000 in
theorem gX8_where_X8_whereIs : GoodIn wsX8_where (wsV RX8 173 RX8 yX8_whereIs wsX8_whereIs) := goodIn_app (goodIn_of _ (by decide +kernel)) ggX8_where_X8_whereIs
theorem dX8_where_0 : decode cX8_where 0 = .ok (.aload_n 0, 1) := by decide +kernel
theorem dX8_where_1 : decode cX8_where 1 = .ok (.invokevirtual 173, 3) := by decide +kernel
theorem dX8_where_4 : decode cX8_where 4 = .ok (.ireturn, 1) := by decide +kernel
theorem dX8_determinant_0 : decode cX8_determinant 0 = .ok (.lconst 1, 1) := by decide +kernel
theorem dX8_determinant_1 : decode cX8_determinant 1 = .ok (.lstore_n 2, 1) := by decide +kernel
theorem dX8_determinant_2 : decode cX8_determinant 2 = .ok (.iconst 0, 1) := by decide +kernel
theorem dX8_determinant_3 : decode cX8_determinant 3 = .ok (.istore 4, 2) := by decide +kernel
theorem dX8_determinant_5 : decode cX8_determinant 5 = .ok (.iload 4, 2) := by decide +kernel
theorem dX8_determinant_7 : decode cX8_determinant 7 = .ok (.iconst 1, 1) := by decide +kernel
theorem dX8_determinant_8 : decode cX8_determinant 8 = .ok (.iadd, 1) := by decide +kernel
theorem dX8_determinant_9 : decode cX8_determinant 9 = .ok (.iload_n 1, 1) := by decide +kernel
theorem dX8_determinant_10 : decode cX8_determinant 10 = .ok (.if_icmp .ge 123, 3) := by decide +kernel
theorem dX8_determinant_13 : decode cX8_determinant 13 = .ok (.iload 4, 2) := by decide +kernel
theorem dX8_determinant_15 : decode cX8_determinant 15 = .ok (.iconst 1, 1) := by decide +kernel
theorem dX8_determinant_16 : decode cX8_determinant 16 = .ok (.iadd, 1) := by decide +kernel
theorem dX8_determinant_17 : decode cX8_determinant 17 = .ok (.istore 5, 2) := by decide +kernel
theorem dX8_determinant_19 : decode cX8_determinant 19 = .ok (.iload 5, 2) := by decide +kernel
theorem dX8_determinant_21 : decode cX8_determinant 21 = .ok (.iload_n 1, 1) := by decide +kernel
theorem dX8_determinant_22 : decode cX8_determinant 22 = .ok (.if_icmp .ge 92, 3) := by decide +kernel
theorem dX8_determinant_25 : decode cX8_determinant 25 = .ok (.iload 4, 2) := by decide +kernel
theorem dX8_determinant_27 : decode cX8_determinant 27 = .ok (.iconst 1, 1) := by decide +kernel
theorem dX8_determinant_28 : decode cX8_determinant 28 = .ok (.iadd, 1) := by decide +kernel
theorem dX8_determinant_29 : decode cX8_determinant 29 = .ok (.istore 6, 2) := by decide +kernel
theorem dX8_determinant_31 : decode cX8_determinant 31 = .ok (.iload 6, 2) := by decide +kernel
theorem dX8_determinant_33 : decode cX8_determinant 33 = .ok (.iload_n 1, 1) := by decide +kernel
theorem dX8_determinant_34 : decode cX8_determinant 34 = .ok (.if_icmp .ge 74, 3) := by decide +kernel
theorem dX8_determinant_37 : decode cX8_determinant 37 = .ok (.aload_n 0, 1) := by decide +kernel
theorem dX8_determinant_38 : decode cX8_determinant 38 = .ok (.getfield 44, 3) := by decide +kernel
theorem dX8_determinant_41 : decode cX8_determinant 41 = .ok (.iconst 5, 1) := by decide +kernel
theorem dX8_determinant_42 : decode cX8_determinant 42 = .ok (.iload 5, 2) := by decide +kernel
theorem dX8_determinant_44 : decode cX8_determinant 44 = .ok (.imul, 1) := by decide +kernel
theorem dX8_determinant_45 : decode cX8_determinant 45 = .ok (.iload 6, 2) := by decide +kernel
theorem dX8_determinant_47 : decode cX8_determinant 47 = .ok (.iadd, 1) := by decide +kernel
theorem dX8_determinant_48 : decode cX8_determinant 48 = .ok (.aload_n 0, 1) := by decide +kernel
theorem dX8_determinant_49 : decode cX8_determinant 49 = .ok (.getfield 44, 3) := by decide +kernel
theorem dX8_determinant_52 : decode cX8_determinant 52 = .ok (.iconst 5, 1) := by decide +kernel
theorem dX8_determinant_53 : decode cX8_determinant 53 = .ok (.iload 5, 2) := by decide +kernel
theorem dX8_determinant_55 : decode cX8_determinant 55 = .ok (.imul, 1) := by decide +kernel
theorem dX8_determinant_56 : decode cX8_determinant 56 = .ok (.iload 6, 2) := by decide +kernel
theorem dX8_determinant_58 : decode cX8_determinant 58 = .ok (.iadd, 1) := by decide +kernel
theorem dX8_determinant_59 : decode cX8_determinant 59 = .ok (.laload, 1) := by decide +kernel
theorem dX8_determinant_60 : decode cX8_determinant 60 = .ok (.aload_n 0, 1) := by decide +kernel
theorem dX8_determinant_61 : decode cX8_determinant 61 = .ok (.getfield 44, 3) := by decide +kernel
theorem dX8_determinant_64 : decode cX8_determinant 64 = .ok (.iconst 5, 1) := by decide +kernel
theorem dX8_determinant_65 : decode cX8_determinant 65 = .ok (.iload 4, 2) := by decide +kernel
theorem dX8_determinant_67 : decode cX8_determinant 67 = .ok (.imul, 1) := by decide +kernel
theorem dX8_determinant_68 : decode cX8_determinant 68 = .ok (.iload 4, 2) := by decide +kernel
theorem dX8_determinant_70 : decode cX8_determinant 70 = .ok (.iadd, 1) := by decide +kernel
theorem dX8_determinant_71 : decode cX8_determinant 71 = .ok (.laload, 1) := by decide +kernel
end
section
theorem dX8_determinant_72 : decode cX8_determinant 72 = .ok (.lmul, 1) := by decide +kernel
theorem dX8_determinant_73 : decode cX8_determinant 73 = .ok (.aload_n 0, 1) := by decide +kernel
theorem dX8_determinant_74 : decode cX8_determinant 74 = .ok (.getfield 44, 3) := by decide +kernel
theorem dX8_determinant_77 : decode cX8_determinant 77 = .ok (.iconst 5, 1) := by decide +kernel
theorem dX8_determinant_78 : decode cX8_determinant 78 = .ok (.iload 5, 2) := by decide +kernel
theorem dX8_determinant_80 : decode cX8_determinant 80 = .ok (.imul, 1) := by decide +kernel
theorem dX8_determinant_81 : decode cX8_determinant 81 = .ok (.iload 4, 2) := by decide +kernel
theorem dX8_determinant_83 : decode cX8_determinant 83 = .ok (.iadd, 1) := by decide +kernel
theorem dX8_determinant_84 : decode cX8_determinant 84 = .ok (.laload, 1) := by decide +kernel
theorem dX8_determinant_85 : decode cX8_determinant 85 = .ok (.aload_n 0, 1) := by decide +kernel
theorem dX8_determinant_86 : decode cX8_determinant 86 = .ok (.getfield 44, 3) := by decide +kernel
theorem dX8_determinant_89 : decode cX8_determinant 89 = .ok (.iconst 5, 1) := by decide +kernel
theorem dX8_determinant_90 : decode cX8_determinant 90 = .ok (.iload 4, 2) := by decide +kernel
theorem dX8_determinant_92 : decode cX8_determinant 92 = .ok (.imul, 1) := by decide +kernel
theorem dX8_determinant_93 : decode cX8_determinant 93 = .ok (.iload 6, 2) := by decide +kernel
theorem dX8_determinant_95 : decode cX8_determinant 95 = .ok (.iadd, 1) := by decide +kernel
theorem dX8_determinant_96 : decode cX8_determinant 96 = .ok (.laload, 1) := by decide +kernel
theorem dX8_determinant_97 : decode cX8_determinant 97 = .ok (.lmul, 1) := by decide +kernel
theorem dX8_determinant_98 : decode cX8_determinant 98 = .ok (.lsub, 1) := by decide +kernel
theorem dX8_determinant_99 : decode cX8_determinant 99 = .ok (.lload_n 2, 1) := by decide +kernel
theorem dX8_determinant_100 : decode cX8_determinant 100 = .ok (.ldiv, 1) := by decide +kernel
theorem dX8_determinant_101 : decode cX8_determinant 101 = .ok (.lastore, 1) := by decide +kernel
theorem dX8_determinant_102 : decode cX8_determinant 102 = .ok (.iinc 6 1, 3) := by decide +kernel
theorem dX8_determinant_105 : decode cX8_determinant 105 = .ok (.goto (-74), 3) := by decide +kernel
theorem dX8_determinant_108 : decode cX8_determinant 108 = .ok (.iinc 5 1, 3) := by decide +kernel
theorem dX8_determinant_111 : decode cX8_determinant 111 = .ok (.goto (-92), 3) := by decide +kernel
theorem dX8_determinant_114 : decode cX8_determinant 114 = .ok (.aload_n 0, 1) := by decide +kernel
theorem dX8_determinant_115 : decode cX8_determinant 115 = .ok (.getfield 44, 3) := by decide +kernel
theorem dX8_determinant_118 : decode cX8_determinant 118 = .ok (.iconst 5, 1) := by decide +kernel
theorem dX8_determinant_119 : decode cX8_determinant 119 = .ok (.iload 4, 2) := by decide +kernel
theorem dX8_determinant_121 : decode cX8_determinant 121 = .ok (.imul, 1) := by decide +kernel
theorem dX8_determinant_122 : decode cX8_determinant 122 = .ok (.iload 4, 2) := by decide +kernel
theorem dX8_determinant_124 : decode cX8_determinant 124 = .ok (.iadd, 1) := by decide +kernel
theorem dX8_determinant_125 : decode cX8_determinant 125 = .ok (.laload, 1) := by decide +kernel
theorem dX8_determinant_126 : decode cX8_determinant 126 = .ok (.lstore_n 2, 1) := by decide +kernel
theorem dX8_determinant_127 : decode cX8_determinant 127 = .ok (.iinc 4 1, 3) := by decide +kernel
theorem dX8_determinant_130 : decode cX8_determinant 130 = .ok (.goto (-125), 3) := by decide +kernel
theorem dX8_determinant_133 : decode cX8_determinant 133 = .ok (.aload_n 0, 1) := by decide +kernel
theorem dX8_determinant_134 : decode cX8_determinant 134 = .ok (.getfield 44, 3) := by decide +kernel
theorem dX8_determinant_137 : decode cX8_determinant 137 = .ok (.iconst 5, 1) := by decide +kernel
theorem dX8_determinant_138 : decode cX8_determinant 138 = .ok (.iload_n 1, 1) := by decide +kernel
theorem dX8_determinant_139 : decode cX8_determinant 139 = .ok (.iconst 1, 1) := by decide +kernel
theorem dX8_determinant_140 : decode cX8_determinant 140 = .ok (.isub, 1) := by decide +kernel
theorem dX8_determinant_141 : decode cX8_determinant 141 = .ok (.imul, 1) := by decide +kernel
theorem dX8_determinant_142 : decode cX8_determinant 142 = .ok (.iload_n 1, 1) := by decide +kernel
theorem dX8_determinant_143 : decode cX8_determinant 143 = .ok (.iadd, 1) := by decide +kernel
theorem dX8_determinant_144 : decode cX8_determinant 144 = .ok (.iconst 1, 1) := by decide +kernel
theorem dX8_determinant_145 : decode cX8_determinant 145 = .ok (.isub, 1) := by decide +kernel
theorem dX8_determinant_146 : decode cX8_determinant 146 = .ok (.laload, 1) := by decide +kernel
theorem dX8_determinant_147 : decode cX8_determinant 147 = .ok (.lreturn, 1) := by decide +kernel
set_option maxRecDepth 20000 in
theorem ggX8_grows_X8_out : GoodIn wsX8_grows wsX8_out := goodIn_r _ [9, 1, 3, 14, 15, 16, 17, 18, 19, 20, 21, 22, 23, 24, 25, 26, 27, 28, 29, 30, 31, 32, 33, 34, 35, 36, 37, 38, 39] (by decide +kernel) (by decide +kernel)
set_option maxRecDepth 20000 in
theorem gX8_grows_X8_out : GoodIn wsX8_grows (wsV RX8 146 RX8 yX8_out wsX8_out) := goodIn_app (goodIn_of _ (by decide +kernel)) ggX8_grows_X8_out
set_option maxRecDepth 20000 in
theorem ggX8_grows_X8_determinant : GoodIn wsX8_grows wsX8_determinant := goodIn_r _ [13, 2, 14, 15, 16, 17, 18, 19, 20, 21, 22, 23, 24, 25, 26, 27, 28, 29, 30, 31, 32, 33, 34, 35, 36, 37, 38, 39] (by decide +kernel) (by decide +kernel)
set_option maxRecDepth 20000 in
theorem gX8_grows_X8_determinant : GoodIn wsX8_grows (wsV RX8 176 RX8 yX8_determinant wsX8_determinant) := goodIn_app (goodIn_of _ (by decide +kernel)) ggX8_grows_X8_determinant
theorem dX8_grows_0 : decode cX8_grows 0 = .ok (.iconst 0, 1) := by decide +kernel
theorem dX8_grows_1 : decode cX8_grows 1 = .ok (.istore_n 1, 1) := by decide +kernel
theorem dX8_grows_2 : decode cX8_grows 2 = .ok (.iload_n 1, 1) := by decide +kernel
theorem dX8_grows_3 : decode cX8_grows 3 = .ok (.aload_n 0, 1) := by decide +kernel
theorem dX8_grows_4 : decode cX8_grows 4 = .ok (.getfield 76, 3) := by decide +kernel
theorem dX8_grows_7 : decode cX8_grows 7 = .ok (.if_icmp .ge 121, 3) := by decide +kernel
theorem dX8_grows_10 : decode cX8_grows 10 = .ok (.iconst 0, 1) := by decide +kernel
theorem dX8_grows_11 : decode cX8_grows 11 = .ok (.istore_n 2, 1) := by decide +kernel
theorem dX8_grows_12 : decode cX8_grows 12 = .ok (.iconst 0, 1) := by decide +kernel
theorem dX8_grows_13 : decode cX8_grows 13 = .ok (.istore_n 3, 1) := by decide +kernel
theorem dX8_grows_14 : decode cX8_grows 14 = .ok (.iload_n 3, 1) := by decide +kernel
theorem dX8_grows_15 : decode cX8_grows 15 = .ok (.aload_n 0, 1) := by decide +kernel
theorem dX8_grows_16 : decode cX8_grows 16 = .ok (.getfield 76, 3) := by decide +kernel
theorem dX8_grows_19 : decode cX8_grows 19 = .ok (.if_icmp .ge 87, 3) := by decide +kernel
theorem dX8_grows_22 : decode cX8_grows 22 = .ok (.iload_n 3, 1) := by decide +kernel
theorem dX8_grows_23 : decode cX8_grows 23 = .ok (.iload_n 1, 1) := by decide +kernel
theorem dX8_grows_24 : decode cX8_grows 24 = .ok (.if_icmp .eq 76, 3) := by decide +kernel
theorem dX8_grows_27 : decode cX8_grows 27 = .ok (.iconst 0, 1) := by decide +kernel
theorem dX8_grows_28 : decode cX8_grows 28 = .ok (.istore 4, 2) := by decide +kernel
theorem dX8_grows_30 : decode cX8_grows 30 = .ok (.iconst 0, 1) := by decide +kernel
theorem dX8_grows_31 : decode cX8_grows 31 = .ok (.istore 5, 2) := by decide +kernel
theorem dX8_grows_33 : decode cX8_grows 33 = .ok (.iload 5, 2) := by decide +kernel
theorem dX8_grows_35 : decode cX8_grows 35 = .ok (.aload_n 0, 1) := by decide +kernel
theorem dX8_grows_36 : decode cX8_grows 36 = .ok (.getfield 76, 3) := by decide +kernel
theorem dX8_grows_39 : decode cX8_grows 39 = .ok (.if_icmp .ge 58, 3) := by decide +kernel
theorem dX8_grows_42 : decode cX8_grows 42 = .ok (.iload 5, 2) := by decide +kernel
theorem dX8_grows_44 : decode cX8_grows 44 = .ok (.iload_n 1, 1) := by decide +kernel
theorem dX8_grows_45 : decode cX8_grows 45 = .ok (.if_icmp .eq 46, 3) := by decide +kernel
theorem dX8_grows_48 : decode cX8_grows 48 = .ok (.aload_n 0, 1) := by decide +kernel
theorem dX8_grows_49 : decode cX8_grows 49 = .ok (.getfield 44, 3) := by decide +kernel
theorem dX8_grows_52 : decode cX8_grows 52 = .ok (.iconst 5, 1) := by decide +kernel
theorem dX8_grows_53 : decode cX8_grows 53 = .ok (.iload_n 2, 1) := by decide +kernel
theorem dX8_grows_54 : decode cX8_grows 54 = .ok (.imul, 1) := by decide +kernel
theorem dX8_grows_55 : decode cX8_grows 55 = .ok (.iload 4, 2) := by decide +kernel
theorem dX8_grows_57 : decode cX8_grows 57 = .ok (.iadd, 1) := by decide +kernel
theorem dX8_grows_58 : decode cX8_grows 58 = .ok (.iload_n 3, 1) := by decide +kernel
theorem dX8_grows_59 : decode cX8_grows 59 = .ok (.iload 5, 2) := by decide +kernel
theorem dX8_grows_61 : decode cX8_grows 61 = .ok (.if_icmp .ne 12, 3) := by decide +kernel
theorem dX8_grows_64 : decode cX8_grows 64 = .ok (.aload_n 0, 1) := by decide +kernel
theorem dX8_grows_65 : decode cX8_grows 65 = .ok (.iload_n 3, 1) := by decide +kernel
theorem dX8_grows_66 : decode cX8_grows 66 = .ok (.invokevirtual 146, 3) := by decide +kernel
theorem dX8_grows_69 : decode cX8_grows 69 = .ok (.i2l, 1) := by decide +kernel
theorem dX8_grows_70 : decode cX8_grows 70 = .ok (.goto 17, 3) := by decide +kernel
theorem dX8_grows_73 : decode cX8_grows 73 = .ok (.aload_n 0, 1) := by decide +kernel
theorem dX8_grows_74 : decode cX8_grows 74 = .ok (.getfield 13, 3) := by decide +kernel
theorem dX8_grows_77 : decode cX8_grows 77 = .ok (.bipush 6, 2) := by decide +kernel
theorem dX8_grows_79 : decode cX8_grows 79 = .ok (.iload_n 3, 1) := by decide +kernel
theorem dX8_grows_80 : decode cX8_grows 80 = .ok (.imul, 1) := by decide +kernel
theorem dX8_grows_81 : decode cX8_grows 81 = .ok (.iload 5, 2) := by decide +kernel
theorem dX8_grows_83 : decode cX8_grows 83 = .ok (.iadd, 1) := by decide +kernel
theorem dX8_grows_84 : decode cX8_grows 84 = .ok (.iaload, 1) := by decide +kernel
theorem dX8_grows_85 : decode cX8_grows 85 = .ok (.ineg, 1) := by decide +kernel
theorem dX8_grows_86 : decode cX8_grows 86 = .ok (.i2l, 1) := by decide +kernel
theorem dX8_grows_87 : decode cX8_grows 87 = .ok (.lastore, 1) := by decide +kernel
theorem dX8_grows_88 : decode cX8_grows 88 = .ok (.iinc 4 1, 3) := by decide +kernel
theorem dX8_grows_91 : decode cX8_grows 91 = .ok (.iinc 5 1, 3) := by decide +kernel
theorem dX8_grows_94 : decode cX8_grows 94 = .ok (.goto (-61), 3) := by decide +kernel
theorem dX8_grows_97 : decode cX8_grows 97 = .ok (.iinc 2 1, 3) := by decide +kernel
theorem dX8_grows_100 : decode cX8_grows 100 = .ok (.iinc 3 1, 3) := by decide +kernel
theorem dX8_grows_103 : decode cX8_grows 103 = .ok (.goto (-89), 3) := by decide +kernel
theorem dX8_grows_106 : decode cX8_grows 106 = .ok (.aload_n 0, 1) := by decide +kernel
theorem dX8_grows_107 : decode cX8_grows 107 = .ok (.getfield 40, 3) := by decide +kernel
theorem dX8_grows_110 : decode cX8_grows 110 = .ok (.iload_n 1, 1) := by decide +kernel
theorem dX8_grows_111 : decode cX8_grows 111 = .ok (.aload_n 0, 1) := by decide +kernel
theorem dX8_grows_112 : decode cX8_grows 112 = .ok (.aload_n 0, 1) := by decide +kernel
theorem dX8_grows_113 : decode cX8_grows 113 = .ok (.getfield 76, 3) := by decide +kernel
theorem dX8_grows_116 : decode cX8_grows 116 = .ok (.iconst 1, 1) := by decide +kernel
theorem dX8_grows_117 : decode cX8_grows 117 = .ok (.isub, 1) := by decide +kernel
theorem dX8_grows_118 : decode cX8_grows 118 = .ok (.invokevirtual 176, 3) := by decide +kernel
theorem dX8_grows_121 : decode cX8_grows 121 = .ok (.lastore, 1) := by decide +kernel
theorem dX8_grows_122 : decode cX8_grows 122 = .ok (.iinc 1 1, 3) := by decide +kernel
theorem dX8_grows_125 : decode cX8_grows 125 = .ok (.goto (-123), 3) := by decide +kernel
theorem dX8_grows_128 : decode cX8_grows 128 = .ok (.return_, 1) := by decide +kernel
set_option maxRecDepth 20000 in
theorem ggX8_below_X8_sum : GoodIn wsX8_below wsX8_sum := goodIn_r _ [7, 8, 9, 10, 11, 6, 12, 1, 13, 14, 15, 16, 17, 18, 19, 20, 21, 22, 23, 24, 25, 26, 27, 28, 29, 30, 31, 32, 33, 34, 35, 36, 37, 38, 39] (by decide +kernel) (by decide +kernel)
set_option maxRecDepth 20000 in
theorem gX8_below_X8_sum : GoodIn wsX8_below (wsV RX8 149 RX8 yX8_sum wsX8_sum) := goodIn_app (goodIn_of _ (by decide +kernel)) ggX8_below_X8_sum
theorem dX8_below_0 : decode cX8_below 0 = .ok (.lconst 0, 1) := by decide +kernel
theorem dX8_below_1 : decode cX8_below 1 = .ok (.lstore_n 1, 1) := by decide +kernel
theorem dX8_below_2 : decode cX8_below 2 = .ok (.iconst 0, 1) := by decide +kernel
theorem dX8_below_3 : decode cX8_below 3 = .ok (.istore_n 3, 1) := by decide +kernel
theorem dX8_below_4 : decode cX8_below 4 = .ok (.iload_n 3, 1) := by decide +kernel
theorem dX8_below_5 : decode cX8_below 5 = .ok (.aload_n 0, 1) := by decide +kernel
theorem dX8_below_6 : decode cX8_below 6 = .ok (.getfield 76, 3) := by decide +kernel
theorem dX8_below_9 : decode cX8_below 9 = .ok (.if_icmp .ge 25, 3) := by decide +kernel
theorem dX8_below_12 : decode cX8_below 12 = .ok (.lload_n 1, 1) := by decide +kernel
theorem dX8_below_13 : decode cX8_below 13 = .ok (.aload_n 0, 1) := by decide +kernel
theorem dX8_below_14 : decode cX8_below 14 = .ok (.getfield 40, 3) := by decide +kernel
theorem dX8_below_17 : decode cX8_below 17 = .ok (.iload_n 3, 1) := by decide +kernel
theorem dX8_below_18 : decode cX8_below 18 = .ok (.laload, 1) := by decide +kernel
theorem dX8_below_19 : decode cX8_below 19 = .ok (.aload_n 0, 1) := by decide +kernel
theorem dX8_below_20 : decode cX8_below 20 = .ok (.iload_n 3, 1) := by decide +kernel
theorem dX8_below_21 : decode cX8_below 21 = .ok (.invokevirtual 149, 3) := by decide +kernel
theorem dX8_below_24 : decode cX8_below 24 = .ok (.i2l, 1) := by decide +kernel
theorem dX8_below_25 : decode cX8_below 25 = .ok (.lmul, 1) := by decide +kernel
theorem dX8_below_26 : decode cX8_below 26 = .ok (.ladd, 1) := by decide +kernel
theorem dX8_below_27 : decode cX8_below 27 = .ok (.lstore_n 1, 1) := by decide +kernel
theorem dX8_below_28 : decode cX8_below 28 = .ok (.iinc 3 1, 3) := by decide +kernel
theorem dX8_below_31 : decode cX8_below 31 = .ok (.goto (-27), 3) := by decide +kernel
theorem dX8_below_34 : decode cX8_below 34 = .ok (.lload_n 1, 1) := by decide +kernel
theorem dX8_below_35 : decode cX8_below 35 = .ok (.lreturn, 1) := by decide +kernel
theorem dX8_common_0 : decode cX8_common 0 = .ok (.lload_n 0, 1) := by decide +kernel
theorem dX8_common_1 : decode cX8_common 1 = .ok (.lstore 4, 2) := by decide +kernel
theorem dX8_common_3 : decode cX8_common 3 = .ok (.lload_n 2, 1) := by decide +kernel
theorem dX8_common_4 : decode cX8_common 4 = .ok (.lstore 6, 2) := by decide +kernel
theorem dX8_common_6 : decode cX8_common 6 = .ok (.lload 6, 2) := by decide +kernel
theorem dX8_common_8 : decode cX8_common 8 = .ok (.lconst 0, 1) := by decide +kernel
theorem dX8_common_9 : decode cX8_common 9 = .ok (.lcmp, 1) := by decide +kernel
theorem dX8_common_10 : decode cX8_common 10 = .ok (.ifCond .eq 21, 3) := by decide +kernel
theorem dX8_common_13 : decode cX8_common 13 = .ok (.lload 4, 2) := by decide +kernel
theorem dX8_common_15 : decode cX8_common 15 = .ok (.lload 6, 2) := by decide +kernel
theorem dX8_common_17 : decode cX8_common 17 = .ok (.lrem, 1) := by decide +kernel
theorem dX8_common_18 : decode cX8_common 18 = .ok (.lstore 8, 2) := by decide +kernel
theorem dX8_common_20 : decode cX8_common 20 = .ok (.lload 6, 2) := by decide +kernel
theorem dX8_common_22 : decode cX8_common 22 = .ok (.lstore 4, 2) := by decide +kernel
theorem dX8_common_24 : decode cX8_common 24 = .ok (.lload 8, 2) := by decide +kernel
theorem dX8_common_26 : decode cX8_common 26 = .ok (.lstore 6, 2) := by decide +kernel
theorem dX8_common_28 : decode cX8_common 28 = .ok (.goto (-22), 3) := by decide +kernel
theorem dX8_common_31 : decode cX8_common 31 = .ok (.lload 4, 2) := by decide +kernel
theorem dX8_common_33 : decode cX8_common 33 = .ok (.lreturn, 1) := by decide +kernel
set_option maxRecDepth 20000 in
theorem ggX8_term_X8_common : GoodIn wsX8_term wsX8_common := goodIn_r _ [4] (by decide +kernel) (by decide +kernel)
set_option maxRecDepth 20000 in
theorem gX8_term_X8_common : GoodIn wsX8_term (va_wsS RX8 180 yX8_common wsX8_common) := goodIn_app (goodIn_of _ (by decide +kernel)) ggX8_term_X8_common
theorem dX8_term_0 : decode cX8_term 0 = .ok (.lload_n 0, 1) := by decide +kernel
theorem dX8_term_1 : decode cX8_term 1 = .ok (.lload_n 2, 1) := by decide +kernel
theorem dX8_term_2 : decode cX8_term 2 = .ok (.invokestatic 180, 3) := by decide +kernel
theorem dX8_term_5 : decode cX8_term 5 = .ok (.lstore 5, 2) := by decide +kernel
theorem dX8_term_7 : decode cX8_term 7 = .ok (.iload 4, 2) := by decide +kernel
theorem dX8_term_9 : decode cX8_term 9 = .ok (.ifCond .ne 10, 3) := by decide +kernel
theorem dX8_term_12 : decode cX8_term 12 = .ok (.lload_n 0, 1) := by decide +kernel
theorem dX8_term_13 : decode cX8_term 13 = .ok (.lload 5, 2) := by decide +kernel
theorem dX8_term_15 : decode cX8_term 15 = .ok (.ldiv, 1) := by decide +kernel
theorem dX8_term_16 : decode cX8_term 16 = .ok (.goto 7, 3) := by decide +kernel
theorem dX8_term_19 : decode cX8_term 19 = .ok (.lload_n 2, 1) := by decide +kernel
theorem dX8_term_20 : decode cX8_term 20 = .ok (.lload 5, 2) := by decide +kernel
theorem dX8_term_22 : decode cX8_term 22 = .ok (.ldiv, 1) := by decide +kernel
theorem dX8_term_23 : decode cX8_term 23 = .ok (.lreturn, 1) := by decide +kernel
set_option maxRecDepth 20000 in
theorem ggX8_chance_X8_isCell : GoodIn wsX8_chance wsX8_isCell := goodIn_r _ [7, 8, 9, 10, 6, 11, 41, 42, 43, 44, 45, 46, 47, 48, 49, 50, 51, 52, 53, 54, 55, 56, 57, 58, 59, 60, 61, 62, 63, 64, 65, 66] (by decide +kernel) (by decide +kernel)
set_option maxRecDepth 20000 in
theorem gX8_chance_X8_isCell : GoodIn wsX8_chance (wsV RX8 136 RX8 yX8_isCell wsX8_isCell) := goodIn_app (goodIn_of _ (by decide +kernel)) ggX8_chance_X8_isCell
set_option maxRecDepth 20000 in
theorem ggX8_chance_X8_isIn : GoodIn wsX8_chance wsX8_isIn := goodIn_r _ [11] (by decide +kernel) (by decide +kernel)
set_option maxRecDepth 20000 in
theorem gX8_chance_X8_isIn : GoodIn wsX8_chance (va_wsS RX8 98 yX8_isIn wsX8_isIn) := goodIn_app (goodIn_of _ (by decide +kernel)) ggX8_chance_X8_isIn
set_option maxRecDepth 20000 in
theorem ggX8_chance_X8_grows : GoodIn wsX8_chance wsX8_grows := goodIn_r _ [15, 8, 16, 17, 2, 18, 19, 20, 6, 21, 22, 23, 24, 25, 41, 42, 43, 44, 45, 46, 47, 48, 49, 50, 51, 52, 53, 54, 55, 56, 57, 58, 59, 60, 61, 62, 63, 64, 65, 66] (by decide +kernel) (by decide +kernel)
set_option maxRecDepth 20000 in
theorem gX8_chance_X8_grows : GoodIn wsX8_chance (wsV RX8 186 RX8 yX8_grows wsX8_grows) := goodIn_app (goodIn_of _ (by decide +kernel)) ggX8_chance_X8_grows
set_option maxRecDepth 20000 in
theorem ggX8_chance_X8_sum : GoodIn wsX8_chance wsX8_sum := goodIn_r _ [29, 30, 18, 19, 20, 6, 21, 8, 17, 41, 42, 43, 44, 45, 46, 47, 48, 49, 50, 51, 52, 53, 54, 55, 56, 57, 58, 59, 60, 61, 62, 63, 64, 65, 66] (by decide +kernel) (by decide +kernel)
set_option maxRecDepth 20000 in
theorem gX8_chance_X8_sum : GoodIn wsX8_chance (wsV RX8 149 RX8 yX8_sum wsX8_sum) := goodIn_app (goodIn_of _ (by decide +kernel)) ggX8_chance_X8_sum
set_option maxRecDepth 20000 in
theorem ggX8_chance_X8_below : GoodIn wsX8_chance wsX8_below := goodIn_r _ [34, 8, 2, 26, 27, 28, 6, 29, 30, 18, 19, 20, 21, 17, 41, 42, 43, 44, 45, 46, 47, 48, 49, 50, 51, 52, 53, 54, 55, 56, 57, 58, 59, 60, 61, 62, 63, 64, 65, 66] (by decide +kernel) (by decide +kernel)
set_option maxRecDepth 20000 in
theorem gX8_chance_X8_below : GoodIn wsX8_chance (wsV RX8 189 RX8 yX8_below wsX8_below) := goodIn_app (goodIn_of _ (by decide +kernel)) ggX8_chance_X8_below
set_option maxRecDepth 20000 in
theorem ggX8_chance_X8_term : GoodIn wsX8_chance wsX8_term := goodIn_r _ [37, 38, 39, 6, 40] (by decide +kernel) (by decide +kernel)
set_option maxRecDepth 20000 in
theorem gX8_chance_X8_term : GoodIn wsX8_chance (va_wsS RX8 193 yX8_term wsX8_term) := goodIn_app (goodIn_of _ (by decide +kernel)) ggX8_chance_X8_term
theorem dX8_chance_0 : decode cX8_chance 0 = .ok (.aload_n 0, 1) := by decide +kernel
theorem dX8_chance_1 : decode cX8_chance 1 = .ok (.iload_n 1, 1) := by decide +kernel
theorem dX8_chance_2 : decode cX8_chance 2 = .ok (.invokevirtual 136, 3) := by decide +kernel
theorem dX8_chance_5 : decode cX8_chance 5 = .ok (.ifCond .eq 12, 3) := by decide +kernel
theorem dX8_chance_8 : decode cX8_chance 8 = .ok (.iload_n 2, 1) := by decide +kernel
theorem dX8_chance_9 : decode cX8_chance 9 = .ok (.iconst 0, 1) := by decide +kernel
theorem dX8_chance_10 : decode cX8_chance 10 = .ok (.iconst 1, 1) := by decide +kernel
theorem dX8_chance_11 : decode cX8_chance 11 = .ok (.invokestatic 98, 3) := by decide +kernel
theorem dX8_chance_14 : decode cX8_chance 14 = .ok (.ifCond .ne 7, 3) := by decide +kernel
theorem dX8_chance_17 : decode cX8_chance 17 = .ok (.ldc2_w 184, 3) := by decide +kernel
theorem dX8_chance_20 : decode cX8_chance 20 = .ok (.lreturn, 1) := by decide +kernel
theorem dX8_chance_21 : decode cX8_chance 21 = .ok (.aload_n 0, 1) := by decide +kernel
theorem dX8_chance_22 : decode cX8_chance 22 = .ok (.invokevirtual 186, 3) := by decide +kernel
theorem dX8_chance_25 : decode cX8_chance 25 = .ok (.aload_n 0, 1) := by decide +kernel
theorem dX8_chance_26 : decode cX8_chance 26 = .ok (.getfield 40, 3) := by decide +kernel
theorem dX8_chance_29 : decode cX8_chance 29 = .ok (.iload_n 1, 1) := by decide +kernel
theorem dX8_chance_30 : decode cX8_chance 30 = .ok (.laload, 1) := by decide +kernel
theorem dX8_chance_31 : decode cX8_chance 31 = .ok (.aload_n 0, 1) := by decide +kernel
theorem dX8_chance_32 : decode cX8_chance 32 = .ok (.iload_n 1, 1) := by decide +kernel
theorem dX8_chance_33 : decode cX8_chance 33 = .ok (.invokevirtual 149, 3) := by decide +kernel
theorem dX8_chance_36 : decode cX8_chance 36 = .ok (.i2l, 1) := by decide +kernel
theorem dX8_chance_37 : decode cX8_chance 37 = .ok (.lmul, 1) := by decide +kernel
theorem dX8_chance_38 : decode cX8_chance 38 = .ok (.aload_n 0, 1) := by decide +kernel
theorem dX8_chance_39 : decode cX8_chance 39 = .ok (.invokevirtual 189, 3) := by decide +kernel
theorem dX8_chance_42 : decode cX8_chance 42 = .ok (.iload_n 2, 1) := by decide +kernel
theorem dX8_chance_43 : decode cX8_chance 43 = .ok (.invokestatic 193, 3) := by decide +kernel
theorem dX8_chance_46 : decode cX8_chance 46 = .ok (.lreturn, 1) := by decide +kernel
theorem dX8_crossing_0 : decode cX8_crossing 0 = .ok (.lconst 0, 1) := by decide +kernel
theorem dX8_crossing_1 : decode cX8_crossing 1 = .ok (.lstore 4, 2) := by decide +kernel
theorem dX8_crossing_3 : decode cX8_crossing 3 = .ok (.iconst 0, 1) := by decide +kernel
theorem dX8_crossing_4 : decode cX8_crossing 4 = .ok (.istore 6, 2) := by decide +kernel
theorem dX8_crossing_6 : decode cX8_crossing 6 = .ok (.iload 6, 2) := by decide +kernel
theorem dX8_crossing_8 : decode cX8_crossing 8 = .ok (.aload_n 0, 1) := by decide +kernel
theorem dX8_crossing_9 : decode cX8_crossing 9 = .ok (.getfield 76, 3) := by decide +kernel
theorem dX8_crossing_12 : decode cX8_crossing 12 = .ok (.if_icmp .ge 77, 3) := by decide +kernel
theorem dX8_crossing_15 : decode cX8_crossing 15 = .ok (.iconst 0, 1) := by decide +kernel
theorem dX8_crossing_16 : decode cX8_crossing 16 = .ok (.istore 7, 2) := by decide +kernel
theorem dX8_crossing_18 : decode cX8_crossing 18 = .ok (.iload 7, 2) := by decide +kernel
theorem dX8_crossing_20 : decode cX8_crossing 20 = .ok (.aload_n 0, 1) := by decide +kernel
theorem dX8_crossing_21 : decode cX8_crossing 21 = .ok (.getfield 76, 3) := by decide +kernel
theorem dX8_crossing_24 : decode cX8_crossing 24 = .ok (.if_icmp .ge 59, 3) := by decide +kernel
theorem dX8_crossing_27 : decode cX8_crossing 27 = .ok (.lload 4, 2) := by decide +kernel
theorem dX8_crossing_29 : decode cX8_crossing 29 = .ok (.iload_n 3, 1) := by decide +kernel
theorem dX8_crossing_30 : decode cX8_crossing 30 = .ok (.ifCond .ne 18, 3) := by decide +kernel
theorem dX8_crossing_33 : decode cX8_crossing 33 = .ok (.aload_n 1, 1) := by decide +kernel
theorem dX8_crossing_34 : decode cX8_crossing 34 = .ok (.iload_n 2, 1) := by decide +kernel
theorem dX8_crossing_35 : decode cX8_crossing 35 = .ok (.iload 6, 2) := by decide +kernel
theorem dX8_crossing_37 : decode cX8_crossing 37 = .ok (.iadd, 1) := by decide +kernel
theorem dX8_crossing_38 : decode cX8_crossing 38 = .ok (.iaload, 1) := by decide +kernel
theorem dX8_crossing_39 : decode cX8_crossing 39 = .ok (.aload_n 1, 1) := by decide +kernel
theorem dX8_crossing_40 : decode cX8_crossing 40 = .ok (.iload_n 2, 1) := by decide +kernel
theorem dX8_crossing_41 : decode cX8_crossing 41 = .ok (.iload 7, 2) := by decide +kernel
theorem dX8_crossing_43 : decode cX8_crossing 43 = .ok (.iadd, 1) := by decide +kernel
theorem dX8_crossing_44 : decode cX8_crossing 44 = .ok (.iaload, 1) := by decide +kernel
theorem dX8_crossing_45 : decode cX8_crossing 45 = .ok (.if_icmp .eq 28, 3) := by decide +kernel
theorem dX8_crossing_48 : decode cX8_crossing 48 = .ok (.aload_n 0, 1) := by decide +kernel
theorem dX8_crossing_49 : decode cX8_crossing 49 = .ok (.getfield 40, 3) := by decide +kernel
theorem dX8_crossing_52 : decode cX8_crossing 52 = .ok (.iload 6, 2) := by decide +kernel
theorem dX8_crossing_54 : decode cX8_crossing 54 = .ok (.laload, 1) := by decide +kernel
theorem dX8_crossing_55 : decode cX8_crossing 55 = .ok (.aload_n 0, 1) := by decide +kernel
theorem dX8_crossing_56 : decode cX8_crossing 56 = .ok (.getfield 13, 3) := by decide +kernel
theorem dX8_crossing_59 : decode cX8_crossing 59 = .ok (.bipush 6, 2) := by decide +kernel
theorem dX8_crossing_61 : decode cX8_crossing 61 = .ok (.iload 6, 2) := by decide +kernel
theorem dX8_crossing_63 : decode cX8_crossing 63 = .ok (.imul, 1) := by decide +kernel
theorem dX8_crossing_64 : decode cX8_crossing 64 = .ok (.iload 7, 2) := by decide +kernel
theorem dX8_crossing_66 : decode cX8_crossing 66 = .ok (.iadd, 1) := by decide +kernel
theorem dX8_crossing_67 : decode cX8_crossing 67 = .ok (.iaload, 1) := by decide +kernel
theorem dX8_crossing_68 : decode cX8_crossing 68 = .ok (.i2l, 1) := by decide +kernel
theorem dX8_crossing_69 : decode cX8_crossing 69 = .ok (.lmul, 1) := by decide +kernel
theorem dX8_crossing_70 : decode cX8_crossing 70 = .ok (.goto 4, 3) := by decide +kernel
theorem dX8_crossing_73 : decode cX8_crossing 73 = .ok (.lconst 0, 1) := by decide +kernel
theorem dX8_crossing_74 : decode cX8_crossing 74 = .ok (.ladd, 1) := by decide +kernel
theorem dX8_crossing_75 : decode cX8_crossing 75 = .ok (.lstore 4, 2) := by decide +kernel
theorem dX8_crossing_77 : decode cX8_crossing 77 = .ok (.iinc 7 1, 3) := by decide +kernel
theorem dX8_crossing_80 : decode cX8_crossing 80 = .ok (.goto (-62), 3) := by decide +kernel
theorem dX8_crossing_83 : decode cX8_crossing 83 = .ok (.iinc 6 1, 3) := by decide +kernel
theorem dX8_crossing_86 : decode cX8_crossing 86 = .ok (.goto (-80), 3) := by decide +kernel
theorem dX8_crossing_89 : decode cX8_crossing 89 = .ok (.lload 4, 2) := by decide +kernel
theorem dX8_crossing_91 : decode cX8_crossing 91 = .ok (.lreturn, 1) := by decide +kernel
set_option maxRecDepth 20000 in
theorem ggX8_expense_X8_crossing : GoodIn wsX8_expense wsX8_crossing := goodIn_r _ [9, 3, 4, 10, 20, 21, 22, 23, 24, 25, 26, 27, 28, 29, 30, 31, 32, 33, 34, 35, 36, 37, 38, 39, 40, 41, 42, 43, 44, 45] (by decide +kernel) (by decide +kernel)
set_option maxRecDepth 20000 in
theorem gX8_expense_X8_crossing : GoodIn wsX8_expense (wsV RX8 199 RX8 yX8_crossing wsX8_crossing) := goodIn_app (goodIn_of _ (by decide +kernel)) ggX8_expense_X8_crossing
set_option maxRecDepth 20000 in
theorem ggX8_expense_X8_sum : GoodIn wsX8_expense wsX8_sum := goodIn_r _ [14, 15, 16, 17, 18, 8, 19, 3, 10, 20, 21, 22, 23, 24, 25, 26, 27, 28, 29, 30, 31, 32, 33, 34, 35, 36, 37, 38, 39, 40, 41, 42, 43, 44, 45] (by decide +kernel) (by decide +kernel)
set_option maxRecDepth 20000 in
theorem gX8_expense_X8_sum : GoodIn wsX8_expense (wsV RX8 149 RX8 yX8_sum wsX8_sum) := goodIn_app (goodIn_of _ (by decide +kernel)) ggX8_expense_X8_sum
theorem dX8_expense_0 : decode cX8_expense 0 = .ok (.ldc2_w 197, 3) := by decide +kernel
theorem dX8_expense_3 : decode cX8_expense 3 = .ok (.aload_n 0, 1) := by decide +kernel
theorem dX8_expense_4 : decode cX8_expense 4 = .ok (.getfield 16, 3) := by decide +kernel
theorem dX8_expense_7 : decode cX8_expense 7 = .ok (.iconst 2, 1) := by decide +kernel
theorem dX8_expense_8 : decode cX8_expense 8 = .ok (.iaload, 1) := by decide +kernel
theorem dX8_expense_9 : decode cX8_expense 9 = .ok (.i2l, 1) := by decide +kernel
theorem dX8_expense_10 : decode cX8_expense 10 = .ok (.lmul, 1) := by decide +kernel
theorem dX8_expense_11 : decode cX8_expense 11 = .ok (.aload_n 0, 1) := by decide +kernel
theorem dX8_expense_12 : decode cX8_expense 12 = .ok (.aload_n 1, 1) := by decide +kernel
theorem dX8_expense_13 : decode cX8_expense 13 = .ok (.iload_n 2, 1) := by decide +kernel
theorem dX8_expense_14 : decode cX8_expense 14 = .ok (.iconst 0, 1) := by decide +kernel
theorem dX8_expense_15 : decode cX8_expense 15 = .ok (.invokevirtual 199, 3) := by decide +kernel
theorem dX8_expense_18 : decode cX8_expense 18 = .ok (.lmul, 1) := by decide +kernel
theorem dX8_expense_19 : decode cX8_expense 19 = .ok (.lstore_n 3, 1) := by decide +kernel
theorem dX8_expense_20 : decode cX8_expense 20 = .ok (.iconst 0, 1) := by decide +kernel
theorem dX8_expense_21 : decode cX8_expense 21 = .ok (.istore 5, 2) := by decide +kernel
theorem dX8_expense_23 : decode cX8_expense 23 = .ok (.iload 5, 2) := by decide +kernel
theorem dX8_expense_25 : decode cX8_expense 25 = .ok (.aload_n 0, 1) := by decide +kernel
theorem dX8_expense_26 : decode cX8_expense 26 = .ok (.getfield 76, 3) := by decide +kernel
theorem dX8_expense_29 : decode cX8_expense 29 = .ok (.if_icmp .ge 80, 3) := by decide +kernel
theorem dX8_expense_32 : decode cX8_expense 32 = .ok (.iconst 0, 1) := by decide +kernel
theorem dX8_expense_33 : decode cX8_expense 33 = .ok (.istore 6, 2) := by decide +kernel
theorem dX8_expense_35 : decode cX8_expense 35 = .ok (.iload 6, 2) := by decide +kernel
theorem dX8_expense_37 : decode cX8_expense 37 = .ok (.aload_n 0, 1) := by decide +kernel
theorem dX8_expense_38 : decode cX8_expense 38 = .ok (.getfield 76, 3) := by decide +kernel
theorem dX8_expense_41 : decode cX8_expense 41 = .ok (.if_icmp .ge 62, 3) := by decide +kernel
theorem dX8_expense_44 : decode cX8_expense 44 = .ok (.lload_n 3, 1) := by decide +kernel
theorem dX8_expense_45 : decode cX8_expense 45 = .ok (.aload_n 1, 1) := by decide +kernel
theorem dX8_expense_46 : decode cX8_expense 46 = .ok (.iload_n 2, 1) := by decide +kernel
theorem dX8_expense_47 : decode cX8_expense 47 = .ok (.iload 5, 2) := by decide +kernel
theorem dX8_expense_49 : decode cX8_expense 49 = .ok (.iadd, 1) := by decide +kernel
theorem dX8_expense_50 : decode cX8_expense 50 = .ok (.iaload, 1) := by decide +kernel
theorem dX8_expense_51 : decode cX8_expense 51 = .ok (.aload_n 1, 1) := by decide +kernel
theorem dX8_expense_52 : decode cX8_expense 52 = .ok (.iload_n 2, 1) := by decide +kernel
theorem dX8_expense_53 : decode cX8_expense 53 = .ok (.iload 6, 2) := by decide +kernel
theorem dX8_expense_55 : decode cX8_expense 55 = .ok (.iadd, 1) := by decide +kernel
theorem dX8_expense_56 : decode cX8_expense 56 = .ok (.iaload, 1) := by decide +kernel
theorem dX8_expense_57 : decode cX8_expense 57 = .ok (.if_icmp .ne 37, 3) := by decide +kernel
theorem dX8_expense_60 : decode cX8_expense 60 = .ok (.aload_n 0, 1) := by decide +kernel
theorem dX8_expense_61 : decode cX8_expense 61 = .ok (.getfield 40, 3) := by decide +kernel
theorem dX8_expense_64 : decode cX8_expense 64 = .ok (.iload 5, 2) := by decide +kernel
theorem dX8_expense_66 : decode cX8_expense 66 = .ok (.laload, 1) := by decide +kernel
theorem dX8_expense_67 : decode cX8_expense 67 = .ok (.aload_n 0, 1) := by decide +kernel
theorem dX8_expense_68 : decode cX8_expense 68 = .ok (.iload 5, 2) := by decide +kernel
theorem dX8_expense_70 : decode cX8_expense 70 = .ok (.invokevirtual 149, 3) := by decide +kernel
theorem dX8_expense_73 : decode cX8_expense 73 = .ok (.i2l, 1) := by decide +kernel
theorem dX8_expense_74 : decode cX8_expense 74 = .ok (.lmul, 1) := by decide +kernel
theorem dX8_expense_75 : decode cX8_expense 75 = .ok (.aload_n 0, 1) := by decide +kernel
theorem dX8_expense_76 : decode cX8_expense 76 = .ok (.getfield 16, 3) := by decide +kernel
theorem dX8_expense_79 : decode cX8_expense 79 = .ok (.iconst 1, 1) := by decide +kernel
theorem dX8_expense_80 : decode cX8_expense 80 = .ok (.iaload, 1) := by decide +kernel
theorem dX8_expense_81 : decode cX8_expense 81 = .ok (.i2l, 1) := by decide +kernel
theorem dX8_expense_82 : decode cX8_expense 82 = .ok (.lmul, 1) := by decide +kernel
theorem dX8_expense_83 : decode cX8_expense 83 = .ok (.aload_n 0, 1) := by decide +kernel
theorem dX8_expense_84 : decode cX8_expense 84 = .ok (.getfield 16, 3) := by decide +kernel
theorem dX8_expense_87 : decode cX8_expense 87 = .ok (.iconst 3, 1) := by decide +kernel
theorem dX8_expense_88 : decode cX8_expense 88 = .ok (.iaload, 1) := by decide +kernel
theorem dX8_expense_89 : decode cX8_expense 89 = .ok (.i2l, 1) := by decide +kernel
theorem dX8_expense_90 : decode cX8_expense 90 = .ok (.lmul, 1) := by decide +kernel
theorem dX8_expense_91 : decode cX8_expense 91 = .ok (.goto 4, 3) := by decide +kernel
theorem dX8_expense_94 : decode cX8_expense 94 = .ok (.lconst 0, 1) := by decide +kernel
theorem dX8_expense_95 : decode cX8_expense 95 = .ok (.ladd, 1) := by decide +kernel
theorem dX8_expense_96 : decode cX8_expense 96 = .ok (.lstore_n 3, 1) := by decide +kernel
theorem dX8_expense_97 : decode cX8_expense 97 = .ok (.iinc 6 1, 3) := by decide +kernel
theorem dX8_expense_100 : decode cX8_expense 100 = .ok (.goto (-65), 3) := by decide +kernel
theorem dX8_expense_103 : decode cX8_expense 103 = .ok (.iinc 5 1, 3) := by decide +kernel
theorem dX8_expense_106 : decode cX8_expense 106 = .ok (.goto (-83), 3) := by decide +kernel
theorem dX8_expense_109 : decode cX8_expense 109 = .ok (.lload_n 3, 1) := by decide +kernel
theorem dX8_expense_110 : decode cX8_expense 110 = .ok (.lreturn, 1) := by decide +kernel
set_option maxRecDepth 20000 in
theorem ggX8_mean_X8_isIn : GoodIn wsX8_mean wsX8_isIn := goodIn_r _ [8] (by decide +kernel) (by decide +kernel)
set_option maxRecDepth 20000 in
theorem gX8_mean_X8_isIn : GoodIn wsX8_mean (va_wsS RX8 98 yX8_isIn wsX8_isIn) := goodIn_app (goodIn_of _ (by decide +kernel)) ggX8_mean_X8_isIn
set_option maxRecDepth 20000 in
theorem ggX8_mean_X8_grows : GoodIn wsX8_mean wsX8_grows := goodIn_r _ [12, 13, 14, 15, 16, 17, 18, 19, 7, 20, 21, 22, 23, 24, 48, 49, 50, 51, 52, 53, 54, 55, 56, 57, 58, 59, 60, 61, 62, 63, 64, 65, 66, 67, 68, 69, 70, 71, 72, 73] (by decide +kernel) (by decide +kernel)
set_option maxRecDepth 20000 in
theorem gX8_mean_X8_grows : GoodIn wsX8_mean (wsV RX8 186 RX8 yX8_grows wsX8_grows) := goodIn_app (goodIn_of _ (by decide +kernel)) ggX8_mean_X8_grows
set_option maxRecDepth 20000 in
theorem ggX8_mean_X8_below : GoodIn wsX8_mean wsX8_below := goodIn_r _ [28, 13, 16, 29, 30, 31, 7, 32, 2, 17, 18, 19, 20, 15, 48, 49, 50, 51, 52, 53, 54, 55, 56, 57, 58, 59, 60, 61, 62, 63, 64, 65, 66, 67, 68, 69, 70, 71, 72, 73] (by decide +kernel) (by decide +kernel)
set_option maxRecDepth 20000 in
theorem gX8_mean_X8_below : GoodIn wsX8_mean (wsV RX8 189 RX8 yX8_below wsX8_below) := goodIn_app (goodIn_of _ (by decide +kernel)) ggX8_mean_X8_below
set_option maxRecDepth 20000 in
theorem ggX8_mean_X8_crossing : GoodIn wsX8_mean wsX8_crossing := goodIn_r _ [36, 13, 16, 15, 48, 49, 50, 51, 52, 53, 54, 55, 56, 57, 58, 59, 60, 61, 62, 63, 64, 65, 66, 67, 68, 69, 70, 71, 72, 73] (by decide +kernel) (by decide +kernel)
set_option maxRecDepth 20000 in
theorem gX8_mean_X8_crossing : GoodIn wsX8_mean (wsV RX8 199 RX8 yX8_crossing wsX8_crossing) := goodIn_app (goodIn_of _ (by decide +kernel)) ggX8_mean_X8_crossing
set_option maxRecDepth 20000 in
theorem ggX8_mean_X8_term : GoodIn wsX8_mean wsX8_term := goodIn_r _ [39, 40, 41, 7, 42] (by decide +kernel) (by decide +kernel)
set_option maxRecDepth 20000 in
theorem gX8_mean_X8_term : GoodIn wsX8_mean (va_wsS RX8 193 yX8_term wsX8_term) := goodIn_app (goodIn_of _ (by decide +kernel)) ggX8_mean_X8_term
set_option maxRecDepth 20000 in
theorem ggX8_mean_X8_expense : GoodIn wsX8_mean wsX8_expense := goodIn_r _ [46, 3, 47, 13, 16, 33, 34, 35, 7, 36, 15, 29, 30, 31, 32, 2, 17, 18, 19, 20, 48, 49, 50, 51, 52, 53, 54, 55, 56, 57, 58, 59, 60, 61, 62, 63, 64, 65, 66, 67, 68, 69, 70, 71, 72, 73] (by decide +kernel) (by decide +kernel)
set_option maxRecDepth 20000 in
theorem gX8_mean_X8_expense : GoodIn wsX8_mean (wsV RX8 203 RX8 yX8_expense wsX8_expense) := goodIn_app (goodIn_of _ (by decide +kernel)) ggX8_mean_X8_expense
theorem dX8_mean_0 : decode cX8_mean 0 = .ok (.iload_n 1, 1) := by decide +kernel
theorem dX8_mean_1 : decode cX8_mean 1 = .ok (.iconst 0, 1) := by decide +kernel
theorem dX8_mean_2 : decode cX8_mean 2 = .ok (.iconst 3, 1) := by decide +kernel
theorem dX8_mean_3 : decode cX8_mean 3 = .ok (.invokestatic 98, 3) := by decide +kernel
theorem dX8_mean_6 : decode cX8_mean 6 = .ok (.ifCond .eq 12, 3) := by decide +kernel
theorem dX8_mean_9 : decode cX8_mean 9 = .ok (.iload_n 2, 1) := by decide +kernel
theorem dX8_mean_10 : decode cX8_mean 10 = .ok (.iconst 0, 1) := by decide +kernel
theorem dX8_mean_11 : decode cX8_mean 11 = .ok (.iconst 1, 1) := by decide +kernel
theorem dX8_mean_12 : decode cX8_mean 12 = .ok (.invokestatic 98, 3) := by decide +kernel
theorem dX8_mean_15 : decode cX8_mean 15 = .ok (.ifCond .ne 7, 3) := by decide +kernel
theorem dX8_mean_18 : decode cX8_mean 18 = .ok (.ldc2_w 184, 3) := by decide +kernel
theorem dX8_mean_21 : decode cX8_mean 21 = .ok (.lreturn, 1) := by decide +kernel
theorem dX8_mean_22 : decode cX8_mean 22 = .ok (.aload_n 0, 1) := by decide +kernel
theorem dX8_mean_23 : decode cX8_mean 23 = .ok (.invokevirtual 186, 3) := by decide +kernel
theorem dX8_mean_26 : decode cX8_mean 26 = .ok (.aload_n 0, 1) := by decide +kernel
theorem dX8_mean_27 : decode cX8_mean 27 = .ok (.invokevirtual 189, 3) := by decide +kernel
theorem dX8_mean_30 : decode cX8_mean 30 = .ok (.lstore_n 3, 1) := by decide +kernel
theorem dX8_mean_31 : decode cX8_mean 31 = .ok (.iload_n 1, 1) := by decide +kernel
theorem dX8_mean_32 : decode cX8_mean 32 = .ok (.iconst 2, 1) := by decide +kernel
theorem dX8_mean_33 : decode cX8_mean 33 = .ok (.if_icmp .ge 29, 3) := by decide +kernel
theorem dX8_mean_36 : decode cX8_mean 36 = .ok (.aload_n 0, 1) := by decide +kernel
theorem dX8_mean_37 : decode cX8_mean 37 = .ok (.aload_n 0, 1) := by decide +kernel
theorem dX8_mean_38 : decode cX8_mean 38 = .ok (.getfield 19, 3) := by decide +kernel
theorem dX8_mean_41 : decode cX8_mean 41 = .ok (.bipush 6, 2) := by decide +kernel
theorem dX8_mean_43 : decode cX8_mean 43 = .ok (.iload_n 1, 1) := by decide +kernel
theorem dX8_mean_44 : decode cX8_mean 44 = .ok (.iconst 1, 1) := by decide +kernel
theorem dX8_mean_45 : decode cX8_mean 45 = .ok (.if_icmp .ne 7, 3) := by decide +kernel
theorem dX8_mean_48 : decode cX8_mean 48 = .ok (.iconst 1, 1) := by decide +kernel
theorem dX8_mean_49 : decode cX8_mean 49 = .ok (.goto 4, 3) := by decide +kernel
theorem dX8_mean_52 : decode cX8_mean 52 = .ok (.iconst 0, 1) := by decide +kernel
theorem dX8_mean_53 : decode cX8_mean 53 = .ok (.invokevirtual 199, 3) := by decide +kernel
theorem dX8_mean_56 : decode cX8_mean 56 = .ok (.lload_n 3, 1) := by decide +kernel
theorem dX8_mean_57 : decode cX8_mean 57 = .ok (.iload_n 2, 1) := by decide +kernel
theorem dX8_mean_58 : decode cX8_mean 58 = .ok (.invokestatic 193, 3) := by decide +kernel
theorem dX8_mean_61 : decode cX8_mean 61 = .ok (.lreturn, 1) := by decide +kernel
theorem dX8_mean_62 : decode cX8_mean 62 = .ok (.iload_n 1, 1) := by decide +kernel
theorem dX8_mean_63 : decode cX8_mean 63 = .ok (.iconst 3, 1) := by decide +kernel
theorem dX8_mean_64 : decode cX8_mean 64 = .ok (.if_icmp .ne 23, 3) := by decide +kernel
theorem dX8_mean_67 : decode cX8_mean 67 = .ok (.aload_n 0, 1) := by decide +kernel
theorem dX8_mean_68 : decode cX8_mean 68 = .ok (.aload_n 0, 1) := by decide +kernel
theorem dX8_mean_69 : decode cX8_mean 69 = .ok (.getfield 19, 3) := by decide +kernel
theorem dX8_mean_72 : decode cX8_mean 72 = .ok (.bipush 6, 2) := by decide +kernel
theorem dX8_mean_74 : decode cX8_mean 74 = .ok (.invokevirtual 203, 3) := by decide +kernel
theorem dX8_mean_77 : decode cX8_mean 77 = .ok (.ldc2_w 197, 3) := by decide +kernel
theorem dX8_mean_80 : decode cX8_mean 80 = .ok (.lload_n 3, 1) := by decide +kernel
theorem dX8_mean_81 : decode cX8_mean 81 = .ok (.lmul, 1) := by decide +kernel
theorem dX8_mean_82 : decode cX8_mean 82 = .ok (.iload_n 2, 1) := by decide +kernel
theorem dX8_mean_83 : decode cX8_mean 83 = .ok (.invokestatic 193, 3) := by decide +kernel
theorem dX8_mean_86 : decode cX8_mean 86 = .ok (.lreturn, 1) := by decide +kernel
theorem dX8_mean_87 : decode cX8_mean 87 = .ok (.aload_n 0, 1) := by decide +kernel
theorem dX8_mean_88 : decode cX8_mean 88 = .ok (.getfield 19, 3) := by decide +kernel
theorem dX8_mean_91 : decode cX8_mean 91 = .ok (.bipush 12, 2) := by decide +kernel
theorem dX8_mean_93 : decode cX8_mean 93 = .ok (.iaload, 1) := by decide +kernel
theorem dX8_mean_94 : decode cX8_mean 94 = .ok (.tableswitch 83 0 2 #[26, 43, 69], 26) := by decide +kernel
theorem dX8_mean_120 : decode cX8_mean 120 = .ok (.aload_n 0, 1) := by decide +kernel
theorem dX8_mean_121 : decode cX8_mean 121 = .ok (.aload_n 0, 1) := by decide +kernel
theorem dX8_mean_122 : decode cX8_mean 122 = .ok (.getfield 19, 3) := by decide +kernel
theorem dX8_mean_125 : decode cX8_mean 125 = .ok (.bipush 6, 2) := by decide +kernel
theorem dX8_mean_127 : decode cX8_mean 127 = .ok (.iconst 0, 1) := by decide +kernel
theorem dX8_mean_128 : decode cX8_mean 128 = .ok (.invokevirtual 199, 3) := by decide +kernel
theorem dX8_mean_131 : decode cX8_mean 131 = .ok (.lload_n 3, 1) := by decide +kernel
theorem dX8_mean_132 : decode cX8_mean 132 = .ok (.iload_n 2, 1) := by decide +kernel
theorem dX8_mean_133 : decode cX8_mean 133 = .ok (.invokestatic 193, 3) := by decide +kernel
theorem dX8_mean_136 : decode cX8_mean 136 = .ok (.lreturn, 1) := by decide +kernel
theorem dX8_mean_137 : decode cX8_mean 137 = .ok (.aload_n 0, 1) := by decide +kernel
theorem dX8_mean_138 : decode cX8_mean 138 = .ok (.aload_n 0, 1) := by decide +kernel
theorem dX8_mean_139 : decode cX8_mean 139 = .ok (.getfield 19, 3) := by decide +kernel
theorem dX8_mean_142 : decode cX8_mean 142 = .ok (.bipush 6, 2) := by decide +kernel
theorem dX8_mean_144 : decode cX8_mean 144 = .ok (.iconst 1, 1) := by decide +kernel
theorem dX8_mean_145 : decode cX8_mean 145 = .ok (.invokevirtual 199, 3) := by decide +kernel
theorem dX8_mean_148 : decode cX8_mean 148 = .ok (.lload_n 3, 1) := by decide +kernel
theorem dX8_mean_149 : decode cX8_mean 149 = .ok (.aload_n 0, 1) := by decide +kernel
theorem dX8_mean_150 : decode cX8_mean 150 = .ok (.getfield 19, 3) := by decide +kernel
theorem dX8_mean_153 : decode cX8_mean 153 = .ok (.bipush 13, 2) := by decide +kernel
theorem dX8_mean_155 : decode cX8_mean 155 = .ok (.iaload, 1) := by decide +kernel
theorem dX8_mean_156 : decode cX8_mean 156 = .ok (.i2l, 1) := by decide +kernel
theorem dX8_mean_157 : decode cX8_mean 157 = .ok (.lmul, 1) := by decide +kernel
theorem dX8_mean_158 : decode cX8_mean 158 = .ok (.iload_n 2, 1) := by decide +kernel
theorem dX8_mean_159 : decode cX8_mean 159 = .ok (.invokestatic 193, 3) := by decide +kernel
theorem dX8_mean_162 : decode cX8_mean 162 = .ok (.lreturn, 1) := by decide +kernel
theorem dX8_mean_163 : decode cX8_mean 163 = .ok (.lconst 1, 1) := by decide +kernel
theorem dX8_mean_164 : decode cX8_mean 164 = .ok (.aload_n 0, 1) := by decide +kernel
theorem dX8_mean_165 : decode cX8_mean 165 = .ok (.getfield 19, 3) := by decide +kernel
theorem dX8_mean_168 : decode cX8_mean 168 = .ok (.bipush 13, 2) := by decide +kernel
theorem dX8_mean_170 : decode cX8_mean 170 = .ok (.iaload, 1) := by decide +kernel
theorem dX8_mean_171 : decode cX8_mean 171 = .ok (.i2l, 1) := by decide +kernel
theorem dX8_mean_172 : decode cX8_mean 172 = .ok (.iload_n 2, 1) := by decide +kernel
theorem dX8_mean_173 : decode cX8_mean 173 = .ok (.invokestatic 193, 3) := by decide +kernel
theorem dX8_mean_176 : decode cX8_mean 176 = .ok (.lreturn, 1) := by decide +kernel
theorem dX8_mean_177 : decode cX8_mean 177 = .ok (.ldc2_w 207, 3) := by decide +kernel
theorem dX8_mean_180 : decode cX8_mean 180 = .ok (.lreturn, 1) := by decide +kernel
theorem dX8_goesOn_0 : decode cX8_goesOn 0 = .ok (.aload_n 0, 1) := by decide +kernel
theorem dX8_goesOn_1 : decode cX8_goesOn 1 = .ok (.getfield 76, 3) := by decide +kernel
theorem dX8_goesOn_4 : decode cX8_goesOn 4 = .ok (.iconst 1, 1) := by decide +kernel
theorem dX8_goesOn_5 : decode cX8_goesOn 5 = .ok (.isub, 1) := by decide +kernel
theorem dX8_goesOn_6 : decode cX8_goesOn 6 = .ok (.istore_n 1, 1) := by decide +kernel
theorem dX8_goesOn_7 : decode cX8_goesOn 7 = .ok (.iload_n 1, 1) := by decide +kernel
theorem dX8_goesOn_8 : decode cX8_goesOn 8 = .ok (.ifCond .le 92, 3) := by decide +kernel
theorem dX8_goesOn_11 : decode cX8_goesOn 11 = .ok (.iconst 0, 1) := by decide +kernel
theorem dX8_goesOn_12 : decode cX8_goesOn 12 = .ok (.istore_n 2, 1) := by decide +kernel
theorem dX8_goesOn_13 : decode cX8_goesOn 13 = .ok (.iconst 0, 1) := by decide +kernel
theorem dX8_goesOn_14 : decode cX8_goesOn 14 = .ok (.istore_n 3, 1) := by decide +kernel
theorem dX8_goesOn_15 : decode cX8_goesOn 15 = .ok (.iload_n 3, 1) := by decide +kernel
theorem dX8_goesOn_16 : decode cX8_goesOn 16 = .ok (.iload_n 1, 1) := by decide +kernel
theorem dX8_goesOn_17 : decode cX8_goesOn 17 = .ok (.if_icmp .ge 30, 3) := by decide +kernel
theorem dX8_goesOn_20 : decode cX8_goesOn 20 = .ok (.aload_n 0, 1) := by decide +kernel
theorem dX8_goesOn_21 : decode cX8_goesOn 21 = .ok (.getfield 47, 3) := by decide +kernel
theorem dX8_goesOn_24 : decode cX8_goesOn 24 = .ok (.iload_n 3, 1) := by decide +kernel
theorem dX8_goesOn_25 : decode cX8_goesOn 25 = .ok (.iaload, 1) := by decide +kernel
theorem dX8_goesOn_26 : decode cX8_goesOn 26 = .ok (.iload_n 2, 1) := by decide +kernel
theorem dX8_goesOn_27 : decode cX8_goesOn 27 = .ok (.if_icmp .le 12, 3) := by decide +kernel
theorem dX8_goesOn_30 : decode cX8_goesOn 30 = .ok (.aload_n 0, 1) := by decide +kernel
theorem dX8_goesOn_31 : decode cX8_goesOn 31 = .ok (.getfield 47, 3) := by decide +kernel
theorem dX8_goesOn_34 : decode cX8_goesOn 34 = .ok (.iload_n 3, 1) := by decide +kernel
theorem dX8_goesOn_35 : decode cX8_goesOn 35 = .ok (.iaload, 1) := by decide +kernel
theorem dX8_goesOn_36 : decode cX8_goesOn 36 = .ok (.goto 4, 3) := by decide +kernel
theorem dX8_goesOn_39 : decode cX8_goesOn 39 = .ok (.iload_n 2, 1) := by decide +kernel
theorem dX8_goesOn_40 : decode cX8_goesOn 40 = .ok (.istore_n 2, 1) := by decide +kernel
theorem dX8_goesOn_41 : decode cX8_goesOn 41 = .ok (.iinc 3 1, 3) := by decide +kernel
theorem dX8_goesOn_44 : decode cX8_goesOn 44 = .ok (.goto (-29), 3) := by decide +kernel
theorem dX8_goesOn_47 : decode cX8_goesOn 47 = .ok (.aload_n 0, 1) := by decide +kernel
theorem dX8_goesOn_48 : decode cX8_goesOn 48 = .ok (.getfield 47, 3) := by decide +kernel
theorem dX8_goesOn_51 : decode cX8_goesOn 51 = .ok (.iload_n 1, 1) := by decide +kernel
theorem dX8_goesOn_52 : decode cX8_goesOn 52 = .ok (.iaload, 1) := by decide +kernel
theorem dX8_goesOn_53 : decode cX8_goesOn 53 = .ok (.iload_n 2, 1) := by decide +kernel
theorem dX8_goesOn_54 : decode cX8_goesOn 54 = .ok (.if_icmp .gt 40, 3) := by decide +kernel
theorem dX8_goesOn_57 : decode cX8_goesOn 57 = .ok (.aload_n 0, 1) := by decide +kernel
theorem dX8_goesOn_58 : decode cX8_goesOn 58 = .ok (.getfield 47, 3) := by decide +kernel
theorem dX8_goesOn_61 : decode cX8_goesOn 61 = .ok (.iload_n 1, 1) := by decide +kernel
theorem dX8_goesOn_62 : decode cX8_goesOn 62 = .ok (.dup2, 1) := by decide +kernel
theorem dX8_goesOn_63 : decode cX8_goesOn 63 = .ok (.iaload, 1) := by decide +kernel
theorem dX8_goesOn_64 : decode cX8_goesOn 64 = .ok (.iconst 1, 1) := by decide +kernel
theorem dX8_goesOn_65 : decode cX8_goesOn 65 = .ok (.iadd, 1) := by decide +kernel
theorem dX8_goesOn_66 : decode cX8_goesOn 66 = .ok (.iastore, 1) := by decide +kernel
theorem dX8_goesOn_67 : decode cX8_goesOn 67 = .ok (.iload_n 1, 1) := by decide +kernel
theorem dX8_goesOn_68 : decode cX8_goesOn 68 = .ok (.iconst 1, 1) := by decide +kernel
theorem dX8_goesOn_69 : decode cX8_goesOn 69 = .ok (.iadd, 1) := by decide +kernel
theorem dX8_goesOn_70 : decode cX8_goesOn 70 = .ok (.istore_n 3, 1) := by decide +kernel
theorem dX8_goesOn_71 : decode cX8_goesOn 71 = .ok (.iload_n 3, 1) := by decide +kernel
theorem dX8_goesOn_72 : decode cX8_goesOn 72 = .ok (.aload_n 0, 1) := by decide +kernel
theorem dX8_goesOn_73 : decode cX8_goesOn 73 = .ok (.getfield 76, 3) := by decide +kernel
theorem dX8_goesOn_76 : decode cX8_goesOn 76 = .ok (.if_icmp .ge 16, 3) := by decide +kernel
theorem dX8_goesOn_79 : decode cX8_goesOn 79 = .ok (.aload_n 0, 1) := by decide +kernel
theorem dX8_goesOn_80 : decode cX8_goesOn 80 = .ok (.getfield 47, 3) := by decide +kernel
theorem dX8_goesOn_83 : decode cX8_goesOn 83 = .ok (.iload_n 3, 1) := by decide +kernel
theorem dX8_goesOn_84 : decode cX8_goesOn 84 = .ok (.iconst 0, 1) := by decide +kernel
theorem dX8_goesOn_85 : decode cX8_goesOn 85 = .ok (.iastore, 1) := by decide +kernel
theorem dX8_goesOn_86 : decode cX8_goesOn 86 = .ok (.iinc 3 1, 3) := by decide +kernel
theorem dX8_goesOn_89 : decode cX8_goesOn 89 = .ok (.goto (-18), 3) := by decide +kernel
theorem dX8_goesOn_92 : decode cX8_goesOn 92 = .ok (.iconst 1, 1) := by decide +kernel
theorem dX8_goesOn_93 : decode cX8_goesOn 93 = .ok (.ireturn, 1) := by decide +kernel
theorem dX8_goesOn_94 : decode cX8_goesOn 94 = .ok (.iinc 1 (-1), 3) := by decide +kernel
theorem dX8_goesOn_97 : decode cX8_goesOn 97 = .ok (.goto (-90), 3) := by decide +kernel
theorem dX8_goesOn_100 : decode cX8_goesOn 100 = .ok (.iconst 0, 1) := by decide +kernel
theorem dX8_goesOn_101 : decode cX8_goesOn 101 = .ok (.ireturn, 1) := by decide +kernel
set_option maxRecDepth 20000 in
theorem ggX8_finds_X8_grows : GoodIn wsX8_finds wsX8_grows := goodIn_r _ [7, 8, 9, 10, 11, 12, 13, 14, 6, 15, 16, 17, 18, 19, 39, 40, 41, 42, 43, 44, 45, 46, 47, 48, 49, 50, 51, 52, 53, 54, 55, 56, 57, 58, 59, 60, 61, 62, 63, 64] (by decide +kernel) (by decide +kernel)
set_option maxRecDepth 20000 in
theorem gX8_finds_X8_grows : GoodIn wsX8_finds (wsV RX8 186 RX8 yX8_grows wsX8_grows) := goodIn_app (goodIn_of _ (by decide +kernel)) ggX8_finds_X8_grows
set_option maxRecDepth 20000 in
theorem ggX8_finds_X8_expense : GoodIn wsX8_finds wsX8_expense := goodIn_r _ [23, 24, 25, 8, 11, 26, 27, 28, 6, 29, 10, 30, 31, 32, 33, 34, 12, 13, 14, 15, 39, 40, 41, 42, 43, 44, 45, 46, 47, 48, 49, 50, 51, 52, 53, 54, 55, 56, 57, 58, 59, 60, 61, 62, 63, 64] (by decide +kernel) (by decide +kernel)
set_option maxRecDepth 20000 in
theorem gX8_finds_X8_expense : GoodIn wsX8_finds (wsV RX8 203 RX8 yX8_expense wsX8_expense) := goodIn_app (goodIn_of _ (by decide +kernel)) ggX8_finds_X8_expense
set_option maxRecDepth 20000 in
theorem ggX8_finds_X8_goesOn : GoodIn wsX8_finds wsX8_goesOn := goodIn_r _ [38, 8, 1, 39, 40, 41, 42, 43, 44, 45, 46, 47, 48, 49, 50, 51, 52, 53, 54, 55, 56, 57, 58, 59, 60, 61, 62, 63, 64] (by decide +kernel) (by decide +kernel)
set_option maxRecDepth 20000 in
theorem gX8_finds_X8_goesOn : GoodIn wsX8_finds (wsV RX8 209 RX8 yX8_goesOn wsX8_goesOn) := goodIn_app (goodIn_of _ (by decide +kernel)) ggX8_finds_X8_goesOn
theorem dX8_finds_0 : decode cX8_finds 0 = .ok (.aload_n 0, 1) := by decide +kernel
theorem dX8_finds_1 : decode cX8_finds 1 = .ok (.invokevirtual 186, 3) := by decide +kernel
theorem dX8_finds_4 : decode cX8_finds 4 = .ok (.iconst 0, 1) := by decide +kernel
theorem dX8_finds_5 : decode cX8_finds 5 = .ok (.istore_n 1, 1) := by decide +kernel
theorem dX8_finds_6 : decode cX8_finds 6 = .ok (.iload_n 1, 1) := by decide +kernel
theorem dX8_finds_7 : decode cX8_finds 7 = .ok (.bipush 6, 2) := by decide +kernel
theorem dX8_finds_9 : decode cX8_finds 9 = .ok (.if_icmp .ge 23, 3) := by decide +kernel
theorem dX8_finds_12 : decode cX8_finds 12 = .ok (.aload_n 0, 1) := by decide +kernel
theorem dX8_finds_13 : decode cX8_finds 13 = .ok (.getfield 47, 3) := by decide +kernel
theorem dX8_finds_16 : decode cX8_finds 16 = .ok (.iload_n 1, 1) := by decide +kernel
theorem dX8_finds_17 : decode cX8_finds 17 = .ok (.iconst 0, 1) := by decide +kernel
theorem dX8_finds_18 : decode cX8_finds 18 = .ok (.iastore, 1) := by decide +kernel
theorem dX8_finds_19 : decode cX8_finds 19 = .ok (.aload_n 0, 1) := by decide +kernel
theorem dX8_finds_20 : decode cX8_finds 20 = .ok (.getfield 50, 3) := by decide +kernel
theorem dX8_finds_23 : decode cX8_finds 23 = .ok (.iload_n 1, 1) := by decide +kernel
theorem dX8_finds_24 : decode cX8_finds 24 = .ok (.iconst 0, 1) := by decide +kernel
theorem dX8_finds_25 : decode cX8_finds 25 = .ok (.iastore, 1) := by decide +kernel
theorem dX8_finds_26 : decode cX8_finds 26 = .ok (.iinc 1 1, 3) := by decide +kernel
theorem dX8_finds_29 : decode cX8_finds 29 = .ok (.goto (-23), 3) := by decide +kernel
theorem dX8_finds_32 : decode cX8_finds 32 = .ok (.aload_n 0, 1) := by decide +kernel
theorem dX8_finds_33 : decode cX8_finds 33 = .ok (.aload_n 0, 1) := by decide +kernel
theorem dX8_finds_34 : decode cX8_finds 34 = .ok (.getfield 47, 3) := by decide +kernel
theorem dX8_finds_37 : decode cX8_finds 37 = .ok (.iconst 0, 1) := by decide +kernel
theorem dX8_finds_38 : decode cX8_finds 38 = .ok (.invokevirtual 203, 3) := by decide +kernel
theorem dX8_finds_41 : decode cX8_finds 41 = .ok (.lstore_n 1, 1) := by decide +kernel
theorem dX8_finds_42 : decode cX8_finds 42 = .ok (.aload_n 0, 1) := by decide +kernel
theorem dX8_finds_43 : decode cX8_finds 43 = .ok (.invokevirtual 209, 3) := by decide +kernel
theorem dX8_finds_46 : decode cX8_finds 46 = .ok (.ifCond .eq 54, 3) := by decide +kernel
theorem dX8_finds_49 : decode cX8_finds 49 = .ok (.aload_n 0, 1) := by decide +kernel
theorem dX8_finds_50 : decode cX8_finds 50 = .ok (.aload_n 0, 1) := by decide +kernel
theorem dX8_finds_51 : decode cX8_finds 51 = .ok (.getfield 47, 3) := by decide +kernel
theorem dX8_finds_54 : decode cX8_finds 54 = .ok (.iconst 0, 1) := by decide +kernel
theorem dX8_finds_55 : decode cX8_finds 55 = .ok (.invokevirtual 203, 3) := by decide +kernel
theorem dX8_finds_58 : decode cX8_finds 58 = .ok (.lstore_n 3, 1) := by decide +kernel
theorem dX8_finds_59 : decode cX8_finds 59 = .ok (.lload_n 3, 1) := by decide +kernel
theorem dX8_finds_60 : decode cX8_finds 60 = .ok (.lload_n 1, 1) := by decide +kernel
theorem dX8_finds_61 : decode cX8_finds 61 = .ok (.lcmp, 1) := by decide +kernel
theorem dX8_finds_62 : decode cX8_finds 62 = .ok (.ifCond .ge 35, 3) := by decide +kernel
theorem dX8_finds_65 : decode cX8_finds 65 = .ok (.lload_n 3, 1) := by decide +kernel
theorem dX8_finds_66 : decode cX8_finds 66 = .ok (.lstore_n 1, 1) := by decide +kernel
theorem dX8_finds_67 : decode cX8_finds 67 = .ok (.iconst 0, 1) := by decide +kernel
theorem dX8_finds_68 : decode cX8_finds 68 = .ok (.istore 5, 2) := by decide +kernel
theorem dX8_finds_70 : decode cX8_finds 70 = .ok (.iload 5, 2) := by decide +kernel
theorem dX8_finds_72 : decode cX8_finds 72 = .ok (.bipush 6, 2) := by decide +kernel
theorem dX8_finds_74 : decode cX8_finds 74 = .ok (.if_icmp .ge 23, 3) := by decide +kernel
theorem dX8_finds_77 : decode cX8_finds 77 = .ok (.aload_n 0, 1) := by decide +kernel
theorem dX8_finds_78 : decode cX8_finds 78 = .ok (.getfield 50, 3) := by decide +kernel
theorem dX8_finds_81 : decode cX8_finds 81 = .ok (.iload 5, 2) := by decide +kernel
theorem dX8_finds_83 : decode cX8_finds 83 = .ok (.aload_n 0, 1) := by decide +kernel
theorem dX8_finds_84 : decode cX8_finds 84 = .ok (.getfield 47, 3) := by decide +kernel
theorem dX8_finds_87 : decode cX8_finds 87 = .ok (.iload 5, 2) := by decide +kernel
theorem dX8_finds_89 : decode cX8_finds 89 = .ok (.iaload, 1) := by decide +kernel
theorem dX8_finds_90 : decode cX8_finds 90 = .ok (.iastore, 1) := by decide +kernel
theorem dX8_finds_91 : decode cX8_finds 91 = .ok (.iinc 5 1, 3) := by decide +kernel
theorem dX8_finds_94 : decode cX8_finds 94 = .ok (.goto (-24), 3) := by decide +kernel
theorem dX8_finds_97 : decode cX8_finds 97 = .ok (.goto (-55), 3) := by decide +kernel
theorem dX8_finds_100 : decode cX8_finds 100 = .ok (.lload_n 1, 1) := by decide +kernel
theorem dX8_finds_101 : decode cX8_finds 101 = .ok (.lreturn, 1) := by decide +kernel
set_option maxRecDepth 20000 in
theorem ggX8_best_X8_isCell : GoodIn wsX8_best wsX8_isCell := goodIn_r _ [6, 7, 8, 9, 5, 10, 50, 51, 52, 53, 54, 55, 56, 57, 58, 59, 60, 61, 62, 63, 64, 65, 66, 67, 68, 69, 70, 71, 72, 73, 74, 75] (by decide +kernel) (by decide +kernel)
set_option maxRecDepth 20000 in
theorem gX8_best_X8_isCell : GoodIn wsX8_best (wsV RX8 136 RX8 yX8_isCell wsX8_isCell) := goodIn_app (goodIn_of _ (by decide +kernel)) ggX8_best_X8_isCell
set_option maxRecDepth 20000 in
theorem ggX8_best_X8_finds : GoodIn wsX8_best wsX8_finds := goodIn_r _ [14, 15, 1, 16, 17, 18, 5, 19, 7, 20, 21, 22, 23, 24, 25, 26, 27, 28, 29, 30, 31, 32, 33, 34, 35, 36, 37, 38, 39, 40, 41, 42, 43, 44, 45, 46, 47, 48, 49, 50, 51, 52, 53, 54, 55, 56, 57, 58, 59, 60, 61, 62, 63, 64, 65, 66, 67, 68, 69, 70, 71, 72, 73, 74, 75] (by decide +kernel) (by decide +kernel)
set_option maxRecDepth 20000 in
theorem gX8_best_X8_finds : GoodIn wsX8_best (wsV RX8 212 RX8 yX8_finds wsX8_finds) := goodIn_app (goodIn_of _ (by decide +kernel)) ggX8_best_X8_finds
theorem dX8_best_0 : decode cX8_best 0 = .ok (.aload_n 0, 1) := by decide +kernel
theorem dX8_best_1 : decode cX8_best 1 = .ok (.iload_n 1, 1) := by decide +kernel
theorem dX8_best_2 : decode cX8_best 2 = .ok (.invokevirtual 136, 3) := by decide +kernel
theorem dX8_best_5 : decode cX8_best 5 = .ok (.ifCond .ne 5, 3) := by decide +kernel
theorem dX8_best_8 : decode cX8_best 8 = .ok (.iconst (-1), 1) := by decide +kernel
theorem dX8_best_9 : decode cX8_best 9 = .ok (.ireturn, 1) := by decide +kernel
theorem dX8_best_10 : decode cX8_best 10 = .ok (.aload_n 0, 1) := by decide +kernel
theorem dX8_best_11 : decode cX8_best 11 = .ok (.invokevirtual 212, 3) := by decide +kernel
theorem dX8_best_14 : decode cX8_best 14 = .ok (.pop2, 1) := by decide +kernel
theorem dX8_best_15 : decode cX8_best 15 = .ok (.aload_n 0, 1) := by decide +kernel
theorem dX8_best_16 : decode cX8_best 16 = .ok (.getfield 50, 3) := by decide +kernel
theorem dX8_best_19 : decode cX8_best 19 = .ok (.iload_n 1, 1) := by decide +kernel
theorem dX8_best_20 : decode cX8_best 20 = .ok (.iaload, 1) := by decide +kernel
theorem dX8_best_21 : decode cX8_best 21 = .ok (.ireturn, 1) := by decide +kernel
set_option maxRecDepth 20000 in
theorem ggX8_least_X8_isIn : GoodIn wsX8_least wsX8_isIn := goodIn_r _ [6] (by decide +kernel) (by decide +kernel)
set_option maxRecDepth 20000 in
theorem gX8_least_X8_isIn : GoodIn wsX8_least (va_wsS RX8 98 yX8_isIn wsX8_isIn) := goodIn_app (goodIn_of _ (by decide +kernel)) ggX8_least_X8_isIn
set_option maxRecDepth 20000 in
theorem ggX8_least_X8_finds : GoodIn wsX8_least wsX8_finds := goodIn_r _ [10, 11, 12, 13, 14, 15, 5, 16, 17, 18, 19, 20, 21, 22, 23, 24, 25, 26, 27, 28, 29, 30, 31, 32, 2, 33, 34, 35, 36, 37, 38, 39, 40, 41, 42, 43, 44, 45, 46, 57, 58, 59, 60, 61, 62, 63, 64, 65, 66, 67, 68, 69, 70, 71, 72, 73, 74, 75, 76, 77, 78, 79, 80, 81, 82] (by decide +kernel) (by decide +kernel)
set_option maxRecDepth 20000 in
theorem gX8_least_X8_finds : GoodIn wsX8_least (wsV RX8 212 RX8 yX8_finds wsX8_finds) := goodIn_app (goodIn_of _ (by decide +kernel)) ggX8_least_X8_finds
set_option maxRecDepth 20000 in
theorem ggX8_least_X8_below : GoodIn wsX8_least wsX8_below := goodIn_r _ [50, 17, 20, 38, 39, 40, 5, 41, 42, 21, 22, 23, 24, 19, 57, 58, 59, 60, 61, 62, 63, 64, 65, 66, 67, 68, 69, 70, 71, 72, 73, 74, 75, 76, 77, 78, 79, 80, 81, 82] (by decide +kernel) (by decide +kernel)
set_option maxRecDepth 20000 in
theorem gX8_least_X8_below : GoodIn wsX8_least (wsV RX8 189 RX8 yX8_below wsX8_below) := goodIn_app (goodIn_of _ (by decide +kernel)) ggX8_least_X8_below
set_option maxRecDepth 20000 in
theorem ggX8_least_X8_term : GoodIn wsX8_least wsX8_term := goodIn_r _ [53, 54, 55, 5, 56] (by decide +kernel) (by decide +kernel)
set_option maxRecDepth 20000 in
theorem gX8_least_X8_term : GoodIn wsX8_least (va_wsS RX8 193 yX8_term wsX8_term) := goodIn_app (goodIn_of _ (by decide +kernel)) ggX8_least_X8_term
theorem dX8_least_0 : decode cX8_least 0 = .ok (.iload_n 1, 1) := by decide +kernel
theorem dX8_least_1 : decode cX8_least 1 = .ok (.iconst 0, 1) := by decide +kernel
theorem dX8_least_2 : decode cX8_least 2 = .ok (.iconst 1, 1) := by decide +kernel
theorem dX8_least_3 : decode cX8_least 3 = .ok (.invokestatic 98, 3) := by decide +kernel
theorem dX8_least_6 : decode cX8_least 6 = .ok (.ifCond .ne 7, 3) := by decide +kernel
theorem dX8_least_9 : decode cX8_least 9 = .ok (.ldc2_w 184, 3) := by decide +kernel
theorem dX8_least_12 : decode cX8_least 12 = .ok (.lreturn, 1) := by decide +kernel
theorem dX8_least_13 : decode cX8_least 13 = .ok (.aload_n 0, 1) := by decide +kernel
theorem dX8_least_14 : decode cX8_least 14 = .ok (.invokevirtual 212, 3) := by decide +kernel
theorem dX8_least_17 : decode cX8_least 17 = .ok (.ldc2_w 197, 3) := by decide +kernel
theorem dX8_least_20 : decode cX8_least 20 = .ok (.aload_n 0, 1) := by decide +kernel
theorem dX8_least_21 : decode cX8_least 21 = .ok (.invokevirtual 189, 3) := by decide +kernel
theorem dX8_least_24 : decode cX8_least 24 = .ok (.lmul, 1) := by decide +kernel
theorem dX8_least_25 : decode cX8_least 25 = .ok (.iload_n 1, 1) := by decide +kernel
theorem dX8_least_26 : decode cX8_least 26 = .ok (.invokestatic 193, 3) := by decide +kernel
theorem dX8_least_29 : decode cX8_least 29 = .ok (.lreturn, 1) := by decide +kernel
set_option maxRecDepth 20000 in
theorem ggX8_give_X8_finds : GoodIn wsX8_give wsX8_finds := goodIn_r _ [8, 9, 3, 10, 11, 12, 7, 13, 1, 14, 15, 16, 17, 18, 19, 20, 21, 22, 23, 24, 25, 26, 27, 28, 29, 30, 31, 32, 33, 34, 35, 36, 37, 38, 2, 39, 40, 41, 42, 52, 53, 54, 55, 56, 57, 58, 59, 60, 61, 62, 63, 64, 65, 66, 67, 68, 69, 70, 71, 72, 73, 74, 75, 76, 77] (by decide +kernel) (by decide +kernel)
set_option maxRecDepth 20000 in
theorem gX8_give_X8_finds : GoodIn wsX8_give (wsV RX8 212 RX8 yX8_finds wsX8_finds) := goodIn_app (goodIn_of _ (by decide +kernel)) ggX8_give_X8_finds
set_option maxRecDepth 20000 in
theorem ggX8_give_X8_keeps : GoodIn wsX8_give wsX8_keeps := goodIn_r _ [46, 47, 48, 2, 52, 53, 54, 55, 56, 57, 58, 59, 60, 61, 62, 63, 64, 65, 66, 67, 68, 69, 70, 71, 72, 73, 74, 75, 76, 77] (by decide +kernel) (by decide +kernel)
set_option maxRecDepth 20000 in
theorem gX8_give_X8_keeps : GoodIn wsX8_give (wsV RX8 139 RX8 yX8_keeps wsX8_keeps) := goodIn_app (goodIn_of _ (by decide +kernel)) ggX8_give_X8_keeps
set_option maxRecDepth 20000 in
theorem ggX8_give_X8_registers : GoodIn wsX8_give wsX8_registers := goodIn_r _ [51] (by decide +kernel) (by decide +kernel)
set_option maxRecDepth 20000 in
theorem gX8_give_X8_registers : GoodIn wsX8_give (va_wsS RX8 142 yX8_registers wsX8_registers) := goodIn_app (goodIn_of _ (by decide +kernel)) ggX8_give_X8_registers
theorem dX8_give_0 : decode cX8_give 0 = .ok (.aload_n 0, 1) := by decide +kernel
theorem dX8_give_1 : decode cX8_give 1 = .ok (.invokevirtual 212, 3) := by decide +kernel
theorem dX8_give_4 : decode cX8_give 4 = .ok (.pop2, 1) := by decide +kernel
theorem dX8_give_5 : decode cX8_give 5 = .ok (.aload_n 0, 1) := by decide +kernel
theorem dX8_give_6 : decode cX8_give 6 = .ok (.invokevirtual 139, 3) := by decide +kernel
theorem dX8_give_9 : decode cX8_give 9 = .ok (.iconst 0, 1) := by decide +kernel
theorem dX8_give_10 : decode cX8_give 10 = .ok (.istore_n 1, 1) := by decide +kernel
theorem dX8_give_11 : decode cX8_give 11 = .ok (.iconst 0, 1) := by decide +kernel
theorem dX8_give_12 : decode cX8_give 12 = .ok (.istore_n 2, 1) := by decide +kernel
theorem dX8_give_13 : decode cX8_give 13 = .ok (.iload_n 2, 1) := by decide +kernel
theorem dX8_give_14 : decode cX8_give 14 = .ok (.aload_n 0, 1) := by decide +kernel
theorem dX8_give_15 : decode cX8_give 15 = .ok (.getfield 76, 3) := by decide +kernel
theorem dX8_give_18 : decode cX8_give 18 = .ok (.if_icmp .ge 50, 3) := by decide +kernel
theorem dX8_give_21 : decode cX8_give 21 = .ok (.iload_n 1, 1) := by decide +kernel
theorem dX8_give_22 : decode cX8_give 22 = .ok (.aload_n 0, 1) := by decide +kernel
theorem dX8_give_23 : decode cX8_give 23 = .ok (.getfield 19, 3) := by decide +kernel
theorem dX8_give_26 : decode cX8_give 26 = .ok (.bipush 6, 2) := by decide +kernel
theorem dX8_give_28 : decode cX8_give 28 = .ok (.iload_n 2, 1) := by decide +kernel
theorem dX8_give_29 : decode cX8_give 29 = .ok (.iadd, 1) := by decide +kernel
theorem dX8_give_30 : decode cX8_give 30 = .ok (.iaload, 1) := by decide +kernel
theorem dX8_give_31 : decode cX8_give 31 = .ok (.aload_n 0, 1) := by decide +kernel
theorem dX8_give_32 : decode cX8_give 32 = .ok (.getfield 50, 3) := by decide +kernel
theorem dX8_give_35 : decode cX8_give 35 = .ok (.iload_n 2, 1) := by decide +kernel
theorem dX8_give_36 : decode cX8_give 36 = .ok (.iaload, 1) := by decide +kernel
theorem dX8_give_37 : decode cX8_give 37 = .ok (.if_icmp .ne 7, 3) := by decide +kernel
theorem dX8_give_40 : decode cX8_give 40 = .ok (.iconst 0, 1) := by decide +kernel
theorem dX8_give_41 : decode cX8_give 41 = .ok (.goto 4, 3) := by decide +kernel
theorem dX8_give_44 : decode cX8_give 44 = .ok (.iconst 1, 1) := by decide +kernel
theorem dX8_give_45 : decode cX8_give 45 = .ok (.iadd, 1) := by decide +kernel
theorem dX8_give_46 : decode cX8_give 46 = .ok (.istore_n 1, 1) := by decide +kernel
theorem dX8_give_47 : decode cX8_give 47 = .ok (.aload_n 0, 1) := by decide +kernel
theorem dX8_give_48 : decode cX8_give 48 = .ok (.getfield 19, 3) := by decide +kernel
theorem dX8_give_51 : decode cX8_give 51 = .ok (.bipush 6, 2) := by decide +kernel
theorem dX8_give_53 : decode cX8_give 53 = .ok (.iload_n 2, 1) := by decide +kernel
theorem dX8_give_54 : decode cX8_give 54 = .ok (.iadd, 1) := by decide +kernel
theorem dX8_give_55 : decode cX8_give 55 = .ok (.aload_n 0, 1) := by decide +kernel
theorem dX8_give_56 : decode cX8_give 56 = .ok (.getfield 50, 3) := by decide +kernel
theorem dX8_give_59 : decode cX8_give 59 = .ok (.iload_n 2, 1) := by decide +kernel
theorem dX8_give_60 : decode cX8_give 60 = .ok (.iaload, 1) := by decide +kernel
theorem dX8_give_61 : decode cX8_give 61 = .ok (.iastore, 1) := by decide +kernel
theorem dX8_give_62 : decode cX8_give 62 = .ok (.iinc 2 1, 3) := by decide +kernel
theorem dX8_give_65 : decode cX8_give 65 = .ok (.goto (-52), 3) := by decide +kernel
theorem dX8_give_68 : decode cX8_give 68 = .ok (.aload_n 0, 1) := by decide +kernel
theorem dX8_give_69 : decode cX8_give 69 = .ok (.getfield 19, 3) := by decide +kernel
theorem dX8_give_72 : decode cX8_give 72 = .ok (.invokestatic 142, 3) := by decide +kernel
theorem dX8_give_75 : decode cX8_give 75 = .ok (.iload_n 1, 1) := by decide +kernel
theorem dX8_give_76 : decode cX8_give 76 = .ok (.ireturn, 1) := by decide +kernel
set_option maxRecDepth 20000 in
theorem ggX8_ranks_X8_whereIs : GoodIn wsX8_ranks wsX8_whereIs := goodIn_r _ [9, 10, 11, 12, 2, 13, 14, 15, 8, 16, 17, 18, 19, 20, 21, 22, 23, 24, 25, 43, 44, 45, 46, 47, 48, 49, 50, 51, 52, 53, 54, 55, 56, 57, 58, 59, 60, 61, 62, 63, 64, 65, 66, 67, 68] (by decide +kernel) (by decide +kernel)
set_option maxRecDepth 20000 in
theorem gX8_ranks_X8_whereIs : GoodIn wsX8_ranks (wsV RX8 173 RX8 yX8_whereIs wsX8_whereIs) := goodIn_app (goodIn_of _ (by decide +kernel)) ggX8_ranks_X8_whereIs
set_option maxRecDepth 20000 in
theorem ggX8_ranks_X8_grows : GoodIn wsX8_ranks wsX8_grows := goodIn_r _ [29, 2, 30, 25, 3, 31, 32, 33, 8, 34, 35, 36, 37, 38, 43, 44, 45, 46, 47, 48, 49, 50, 51, 52, 53, 54, 55, 56, 57, 58, 59, 60, 61, 62, 63, 64, 65, 66, 67, 68] (by decide +kernel) (by decide +kernel)
set_option maxRecDepth 20000 in
theorem gX8_ranks_X8_grows : GoodIn wsX8_ranks (wsV RX8 186 RX8 yX8_grows wsX8_grows) := goodIn_app (goodIn_of _ (by decide +kernel)) ggX8_ranks_X8_grows
set_option maxRecDepth 20000 in
theorem ggX8_ranks_X8_sum : GoodIn wsX8_ranks wsX8_sum := goodIn_r _ [42, 10, 31, 32, 33, 8, 34, 2, 25, 43, 44, 45, 46, 47, 48, 49, 50, 51, 52, 53, 54, 55, 56, 57, 58, 59, 60, 61, 62, 63, 64, 65, 66, 67, 68] (by decide +kernel) (by decide +kernel)
set_option maxRecDepth 20000 in
theorem gX8_ranks_X8_sum : GoodIn wsX8_ranks (wsV RX8 149 RX8 yX8_sum wsX8_sum) := goodIn_app (goodIn_of _ (by decide +kernel)) ggX8_ranks_X8_sum
theorem dX8_ranks_0 : decode cX8_ranks 0 = .ok (.aload_n 0, 1) := by decide +kernel
theorem dX8_ranks_1 : decode cX8_ranks 1 = .ok (.invokevirtual 173, 3) := by decide +kernel
theorem dX8_ranks_4 : decode cX8_ranks 4 = .ok (.istore_n 1, 1) := by decide +kernel
theorem dX8_ranks_5 : decode cX8_ranks 5 = .ok (.aload_n 0, 1) := by decide +kernel
theorem dX8_ranks_6 : decode cX8_ranks 6 = .ok (.invokevirtual 186, 3) := by decide +kernel
theorem dX8_ranks_9 : decode cX8_ranks 9 = .ok (.aload_n 0, 1) := by decide +kernel
theorem dX8_ranks_10 : decode cX8_ranks 10 = .ok (.iconst 0, 1) := by decide +kernel
theorem dX8_ranks_11 : decode cX8_ranks 11 = .ok (.putfield 215, 3) := by decide +kernel
theorem dX8_ranks_14 : decode cX8_ranks 14 = .ok (.iconst 0, 1) := by decide +kernel
theorem dX8_ranks_15 : decode cX8_ranks 15 = .ok (.istore_n 2, 1) := by decide +kernel
theorem dX8_ranks_16 : decode cX8_ranks 16 = .ok (.iload_n 2, 1) := by decide +kernel
theorem dX8_ranks_17 : decode cX8_ranks 17 = .ok (.aload_n 0, 1) := by decide +kernel
theorem dX8_ranks_18 : decode cX8_ranks 18 = .ok (.getfield 76, 3) := by decide +kernel
theorem dX8_ranks_21 : decode cX8_ranks 21 = .ok (.if_icmp .ge 108, 3) := by decide +kernel
theorem dX8_ranks_24 : decode cX8_ranks 24 = .ok (.iload_n 1, 1) := by decide +kernel
theorem dX8_ranks_25 : decode cX8_ranks 25 = .ok (.iload_n 2, 1) := by decide +kernel
theorem dX8_ranks_26 : decode cX8_ranks 26 = .ok (.ishr, 1) := by decide +kernel
theorem dX8_ranks_27 : decode cX8_ranks 27 = .ok (.iconst 1, 1) := by decide +kernel
theorem dX8_ranks_28 : decode cX8_ranks 28 = .ok (.iand, 1) := by decide +kernel
theorem dX8_ranks_29 : decode cX8_ranks 29 = .ok (.iconst 1, 1) := by decide +kernel
theorem dX8_ranks_30 : decode cX8_ranks 30 = .ok (.if_icmp .ne 93, 3) := by decide +kernel
theorem dX8_ranks_33 : decode cX8_ranks 33 = .ok (.aload_n 0, 1) := by decide +kernel
theorem dX8_ranks_34 : decode cX8_ranks 34 = .ok (.getfield 215, 3) := by decide +kernel
theorem dX8_ranks_37 : decode cX8_ranks 37 = .ok (.istore_n 3, 1) := by decide +kernel
theorem dX8_ranks_38 : decode cX8_ranks 38 = .ok (.iload_n 3, 1) := by decide +kernel
theorem dX8_ranks_39 : decode cX8_ranks 39 = .ok (.ifCond .le 67, 3) := by decide +kernel
theorem dX8_ranks_42 : decode cX8_ranks 42 = .ok (.aload_n 0, 1) := by decide +kernel
theorem dX8_ranks_43 : decode cX8_ranks 43 = .ok (.getfield 40, 3) := by decide +kernel
theorem dX8_ranks_46 : decode cX8_ranks 46 = .ok (.aload_n 0, 1) := by decide +kernel
theorem dX8_ranks_47 : decode cX8_ranks 47 = .ok (.getfield 53, 3) := by decide +kernel
theorem dX8_ranks_50 : decode cX8_ranks 50 = .ok (.iload_n 3, 1) := by decide +kernel
theorem dX8_ranks_51 : decode cX8_ranks 51 = .ok (.iconst 1, 1) := by decide +kernel
theorem dX8_ranks_52 : decode cX8_ranks 52 = .ok (.isub, 1) := by decide +kernel
theorem dX8_ranks_53 : decode cX8_ranks 53 = .ok (.iaload, 1) := by decide +kernel
theorem dX8_ranks_54 : decode cX8_ranks 54 = .ok (.laload, 1) := by decide +kernel
theorem dX8_ranks_55 : decode cX8_ranks 55 = .ok (.aload_n 0, 1) := by decide +kernel
theorem dX8_ranks_56 : decode cX8_ranks 56 = .ok (.aload_n 0, 1) := by decide +kernel
theorem dX8_ranks_57 : decode cX8_ranks 57 = .ok (.getfield 53, 3) := by decide +kernel
theorem dX8_ranks_60 : decode cX8_ranks 60 = .ok (.iload_n 3, 1) := by decide +kernel
theorem dX8_ranks_61 : decode cX8_ranks 61 = .ok (.iconst 1, 1) := by decide +kernel
theorem dX8_ranks_62 : decode cX8_ranks 62 = .ok (.isub, 1) := by decide +kernel
theorem dX8_ranks_63 : decode cX8_ranks 63 = .ok (.iaload, 1) := by decide +kernel
theorem dX8_ranks_64 : decode cX8_ranks 64 = .ok (.invokevirtual 149, 3) := by decide +kernel
theorem dX8_ranks_67 : decode cX8_ranks 67 = .ok (.i2l, 1) := by decide +kernel
theorem dX8_ranks_68 : decode cX8_ranks 68 = .ok (.lmul, 1) := by decide +kernel
theorem dX8_ranks_69 : decode cX8_ranks 69 = .ok (.aload_n 0, 1) := by decide +kernel
theorem dX8_ranks_70 : decode cX8_ranks 70 = .ok (.getfield 40, 3) := by decide +kernel
theorem dX8_ranks_73 : decode cX8_ranks 73 = .ok (.iload_n 2, 1) := by decide +kernel
theorem dX8_ranks_74 : decode cX8_ranks 74 = .ok (.laload, 1) := by decide +kernel
theorem dX8_ranks_75 : decode cX8_ranks 75 = .ok (.aload_n 0, 1) := by decide +kernel
theorem dX8_ranks_76 : decode cX8_ranks 76 = .ok (.iload_n 2, 1) := by decide +kernel
theorem dX8_ranks_77 : decode cX8_ranks 77 = .ok (.invokevirtual 149, 3) := by decide +kernel
theorem dX8_ranks_80 : decode cX8_ranks 80 = .ok (.i2l, 1) := by decide +kernel
theorem dX8_ranks_81 : decode cX8_ranks 81 = .ok (.lmul, 1) := by decide +kernel
theorem dX8_ranks_82 : decode cX8_ranks 82 = .ok (.lcmp, 1) := by decide +kernel
theorem dX8_ranks_83 : decode cX8_ranks 83 = .ok (.ifCond .ge 23, 3) := by decide +kernel
theorem dX8_ranks_86 : decode cX8_ranks 86 = .ok (.aload_n 0, 1) := by decide +kernel
theorem dX8_ranks_87 : decode cX8_ranks 87 = .ok (.getfield 53, 3) := by decide +kernel
theorem dX8_ranks_90 : decode cX8_ranks 90 = .ok (.iload_n 3, 1) := by decide +kernel
theorem dX8_ranks_91 : decode cX8_ranks 91 = .ok (.aload_n 0, 1) := by decide +kernel
theorem dX8_ranks_92 : decode cX8_ranks 92 = .ok (.getfield 53, 3) := by decide +kernel
theorem dX8_ranks_95 : decode cX8_ranks 95 = .ok (.iload_n 3, 1) := by decide +kernel
theorem dX8_ranks_96 : decode cX8_ranks 96 = .ok (.iconst 1, 1) := by decide +kernel
theorem dX8_ranks_97 : decode cX8_ranks 97 = .ok (.isub, 1) := by decide +kernel
theorem dX8_ranks_98 : decode cX8_ranks 98 = .ok (.iaload, 1) := by decide +kernel
theorem dX8_ranks_99 : decode cX8_ranks 99 = .ok (.iastore, 1) := by decide +kernel
theorem dX8_ranks_100 : decode cX8_ranks 100 = .ok (.iinc 3 (-1), 3) := by decide +kernel
theorem dX8_ranks_103 : decode cX8_ranks 103 = .ok (.goto (-65), 3) := by decide +kernel
theorem dX8_ranks_106 : decode cX8_ranks 106 = .ok (.aload_n 0, 1) := by decide +kernel
theorem dX8_ranks_107 : decode cX8_ranks 107 = .ok (.getfield 53, 3) := by decide +kernel
theorem dX8_ranks_110 : decode cX8_ranks 110 = .ok (.iload_n 3, 1) := by decide +kernel
theorem dX8_ranks_111 : decode cX8_ranks 111 = .ok (.iload_n 2, 1) := by decide +kernel
theorem dX8_ranks_112 : decode cX8_ranks 112 = .ok (.iastore, 1) := by decide +kernel
theorem dX8_ranks_113 : decode cX8_ranks 113 = .ok (.aload_n 0, 1) := by decide +kernel
theorem dX8_ranks_114 : decode cX8_ranks 114 = .ok (.dup, 1) := by decide +kernel
theorem dX8_ranks_115 : decode cX8_ranks 115 = .ok (.getfield 215, 3) := by decide +kernel
theorem dX8_ranks_118 : decode cX8_ranks 118 = .ok (.iconst 1, 1) := by decide +kernel
theorem dX8_ranks_119 : decode cX8_ranks 119 = .ok (.iadd, 1) := by decide +kernel
theorem dX8_ranks_120 : decode cX8_ranks 120 = .ok (.putfield 215, 3) := by decide +kernel
theorem dX8_ranks_123 : decode cX8_ranks 123 = .ok (.iinc 2 1, 3) := by decide +kernel
theorem dX8_ranks_126 : decode cX8_ranks 126 = .ok (.goto (-110), 3) := by decide +kernel
theorem dX8_ranks_129 : decode cX8_ranks 129 = .ok (.return_, 1) := by decide +kernel
theorem dX8_bits_0 : decode cX8_bits 0 = .ok (.iconst 0, 1) := by decide +kernel
theorem dX8_bits_1 : decode cX8_bits 1 = .ok (.istore_n 1, 1) := by decide +kernel
theorem dX8_bits_2 : decode cX8_bits 2 = .ok (.iconst 0, 1) := by decide +kernel
theorem dX8_bits_3 : decode cX8_bits 3 = .ok (.istore_n 2, 1) := by decide +kernel
theorem dX8_bits_4 : decode cX8_bits 4 = .ok (.iload_n 2, 1) := by decide +kernel
theorem dX8_bits_5 : decode cX8_bits 5 = .ok (.bipush 6, 2) := by decide +kernel
theorem dX8_bits_7 : decode cX8_bits 7 = .ok (.if_icmp .ge 17, 3) := by decide +kernel
theorem dX8_bits_10 : decode cX8_bits 10 = .ok (.iload_n 1, 1) := by decide +kernel
theorem dX8_bits_11 : decode cX8_bits 11 = .ok (.iload_n 0, 1) := by decide +kernel
theorem dX8_bits_12 : decode cX8_bits 12 = .ok (.iload_n 2, 1) := by decide +kernel
theorem dX8_bits_13 : decode cX8_bits 13 = .ok (.ishr, 1) := by decide +kernel
theorem dX8_bits_14 : decode cX8_bits 14 = .ok (.iconst 1, 1) := by decide +kernel
theorem dX8_bits_15 : decode cX8_bits 15 = .ok (.iand, 1) := by decide +kernel
theorem dX8_bits_16 : decode cX8_bits 16 = .ok (.iadd, 1) := by decide +kernel
theorem dX8_bits_17 : decode cX8_bits 17 = .ok (.istore_n 1, 1) := by decide +kernel
theorem dX8_bits_18 : decode cX8_bits 18 = .ok (.iinc 2 1, 3) := by decide +kernel
theorem dX8_bits_21 : decode cX8_bits 21 = .ok (.goto (-17), 3) := by decide +kernel
theorem dX8_bits_24 : decode cX8_bits 24 = .ok (.iload_n 1, 1) := by decide +kernel
theorem dX8_bits_25 : decode cX8_bits 25 = .ok (.ireturn, 1) := by decide +kernel
set_option maxRecDepth 20000 in
theorem ggX8_paged_X8_sum : GoodIn wsX8_paged wsX8_sum := goodIn_r _ [8, 9, 10, 11, 12, 7, 13, 14, 15, 16, 17, 18, 19, 20, 21, 22, 23, 24, 25, 26, 27, 28, 29, 30, 31, 32, 33, 34, 35, 36, 37, 38, 39, 40, 41] (by decide +kernel) (by decide +kernel)
set_option maxRecDepth 20000 in
theorem gX8_paged_X8_sum : GoodIn wsX8_paged (wsV RX8 149 RX8 yX8_sum wsX8_sum) := goodIn_app (goodIn_of _ (by decide +kernel)) ggX8_paged_X8_sum
theorem dX8_paged_0 : decode cX8_paged 0 = .ok (.lconst 0, 1) := by decide +kernel
theorem dX8_paged_1 : decode cX8_paged 1 = .ok (.lstore_n 2, 1) := by decide +kernel
theorem dX8_paged_2 : decode cX8_paged 2 = .ok (.iconst 0, 1) := by decide +kernel
theorem dX8_paged_3 : decode cX8_paged 3 = .ok (.istore 4, 2) := by decide +kernel
theorem dX8_paged_5 : decode cX8_paged 5 = .ok (.iload 4, 2) := by decide +kernel
theorem dX8_paged_7 : decode cX8_paged 7 = .ok (.aload_n 0, 1) := by decide +kernel
theorem dX8_paged_8 : decode cX8_paged 8 = .ok (.getfield 215, 3) := by decide +kernel
theorem dX8_paged_11 : decode cX8_paged 11 = .ok (.if_icmp .ge 62, 3) := by decide +kernel
theorem dX8_paged_14 : decode cX8_paged 14 = .ok (.iload 4, 2) := by decide +kernel
theorem dX8_paged_16 : decode cX8_paged 16 = .ok (.istore 5, 2) := by decide +kernel
theorem dX8_paged_18 : decode cX8_paged 18 = .ok (.iload_n 1, 1) := by decide +kernel
theorem dX8_paged_19 : decode cX8_paged 19 = .ok (.iload 5, 2) := by decide +kernel
theorem dX8_paged_21 : decode cX8_paged 21 = .ok (.ishr, 1) := by decide +kernel
theorem dX8_paged_22 : decode cX8_paged 22 = .ok (.iconst 1, 1) := by decide +kernel
theorem dX8_paged_23 : decode cX8_paged 23 = .ok (.iand, 1) := by decide +kernel
theorem dX8_paged_24 : decode cX8_paged 24 = .ok (.ifCond .ne 9, 3) := by decide +kernel
theorem dX8_paged_27 : decode cX8_paged 27 = .ok (.iinc 5 1, 3) := by decide +kernel
theorem dX8_paged_30 : decode cX8_paged 30 = .ok (.goto (-12), 3) := by decide +kernel
theorem dX8_paged_33 : decode cX8_paged 33 = .ok (.lload_n 2, 1) := by decide +kernel
theorem dX8_paged_34 : decode cX8_paged 34 = .ok (.aload_n 0, 1) := by decide +kernel
theorem dX8_paged_35 : decode cX8_paged 35 = .ok (.getfield 40, 3) := by decide +kernel
theorem dX8_paged_38 : decode cX8_paged 38 = .ok (.aload_n 0, 1) := by decide +kernel
theorem dX8_paged_39 : decode cX8_paged 39 = .ok (.getfield 53, 3) := by decide +kernel
theorem dX8_paged_42 : decode cX8_paged 42 = .ok (.iload 4, 2) := by decide +kernel
theorem dX8_paged_44 : decode cX8_paged 44 = .ok (.iaload, 1) := by decide +kernel
theorem dX8_paged_45 : decode cX8_paged 45 = .ok (.laload, 1) := by decide +kernel
theorem dX8_paged_46 : decode cX8_paged 46 = .ok (.aload_n 0, 1) := by decide +kernel
theorem dX8_paged_47 : decode cX8_paged 47 = .ok (.aload_n 0, 1) := by decide +kernel
theorem dX8_paged_48 : decode cX8_paged 48 = .ok (.getfield 53, 3) := by decide +kernel
theorem dX8_paged_51 : decode cX8_paged 51 = .ok (.iload 4, 2) := by decide +kernel
theorem dX8_paged_53 : decode cX8_paged 53 = .ok (.iaload, 1) := by decide +kernel
theorem dX8_paged_54 : decode cX8_paged 54 = .ok (.invokevirtual 149, 3) := by decide +kernel
theorem dX8_paged_57 : decode cX8_paged 57 = .ok (.i2l, 1) := by decide +kernel
theorem dX8_paged_58 : decode cX8_paged 58 = .ok (.lmul, 1) := by decide +kernel
theorem dX8_paged_59 : decode cX8_paged 59 = .ok (.iload 5, 2) := by decide +kernel
theorem dX8_paged_61 : decode cX8_paged 61 = .ok (.iconst 1, 1) := by decide +kernel
theorem dX8_paged_62 : decode cX8_paged 62 = .ok (.iadd, 1) := by decide +kernel
theorem dX8_paged_63 : decode cX8_paged 63 = .ok (.i2l, 1) := by decide +kernel
theorem dX8_paged_64 : decode cX8_paged 64 = .ok (.lmul, 1) := by decide +kernel
theorem dX8_paged_65 : decode cX8_paged 65 = .ok (.ladd, 1) := by decide +kernel
theorem dX8_paged_66 : decode cX8_paged 66 = .ok (.lstore_n 2, 1) := by decide +kernel
theorem dX8_paged_67 : decode cX8_paged 67 = .ok (.iinc 4 1, 3) := by decide +kernel
theorem dX8_paged_70 : decode cX8_paged 70 = .ok (.goto (-65), 3) := by decide +kernel
theorem dX8_paged_73 : decode cX8_paged 73 = .ok (.lload_n 2, 1) := by decide +kernel
theorem dX8_paged_74 : decode cX8_paged 74 = .ok (.lreturn, 1) := by decide +kernel
theorem dX8_isFirst_0 : decode cX8_isFirst 0 = .ok (.iload_n 0, 1) := by decide +kernel
theorem dX8_isFirst_1 : decode cX8_isFirst 1 = .ok (.iload_n 1, 1) := by decide +kernel
theorem dX8_isFirst_2 : decode cX8_isFirst 2 = .ok (.ixor, 1) := by decide +kernel
theorem dX8_isFirst_3 : decode cX8_isFirst 3 = .ok (.istore_n 2, 1) := by decide +kernel
theorem dX8_isFirst_4 : decode cX8_isFirst 4 = .ok (.iload_n 2, 1) := by decide +kernel
theorem dX8_isFirst_5 : decode cX8_isFirst 5 = .ok (.iload_n 2, 1) := by decide +kernel
theorem dX8_isFirst_6 : decode cX8_isFirst 6 = .ok (.ineg, 1) := by decide +kernel
theorem dX8_isFirst_7 : decode cX8_isFirst 7 = .ok (.iand, 1) := by decide +kernel
theorem dX8_isFirst_8 : decode cX8_isFirst 8 = .ok (.istore_n 3, 1) := by decide +kernel
theorem dX8_isFirst_9 : decode cX8_isFirst 9 = .ok (.iload_n 0, 1) := by decide +kernel
theorem dX8_isFirst_10 : decode cX8_isFirst 10 = .ok (.iload_n 3, 1) := by decide +kernel
theorem dX8_isFirst_11 : decode cX8_isFirst 11 = .ok (.iand, 1) := by decide +kernel
theorem dX8_isFirst_12 : decode cX8_isFirst 12 = .ok (.ifCond .eq 7, 3) := by decide +kernel
theorem dX8_isFirst_15 : decode cX8_isFirst 15 = .ok (.iconst 1, 1) := by decide +kernel
theorem dX8_isFirst_16 : decode cX8_isFirst 16 = .ok (.goto 4, 3) := by decide +kernel
theorem dX8_isFirst_19 : decode cX8_isFirst 19 = .ok (.iconst 0, 1) := by decide +kernel
theorem dX8_isFirst_20 : decode cX8_isFirst 20 = .ok (.ireturn, 1) := by decide +kernel
set_option maxRecDepth 20000 in
theorem ggX8_splits_X8_ranks : GoodIn wsX8_splits wsX8_ranks := goodIn_r _ [8, 1, 9, 10, 11, 12, 13, 14, 7, 15, 16, 17, 18, 19, 20, 21, 22, 23, 24, 25, 26, 27, 28, 29, 30, 31, 32, 33, 34, 35, 36, 37, 38, 39, 40, 41, 42, 43, 44, 45, 46, 47, 48, 59, 60, 61, 62, 63, 64, 65, 66, 67, 68, 69, 70, 71, 72, 73, 74, 75, 76, 77, 78, 79, 80, 81, 82, 83, 84] (by decide +kernel) (by decide +kernel)
set_option maxRecDepth 20000 in
theorem gX8_splits_X8_ranks : GoodIn wsX8_splits (wsV RX8 218 RX8 yX8_ranks wsX8_ranks) := goodIn_app (goodIn_of _ (by decide +kernel)) ggX8_splits_X8_ranks
set_option maxRecDepth 20000 in
theorem ggX8_splits_X8_paged : GoodIn wsX8_splits wsX8_paged := goodIn_r _ [52, 1, 10, 11, 45, 46, 47, 7, 48, 16, 37, 38, 39, 40, 9, 31, 59, 60, 61, 62, 63, 64, 65, 66, 67, 68, 69, 70, 71, 72, 73, 74, 75, 76, 77, 78, 79, 80, 81, 82, 83, 84] (by decide +kernel) (by decide +kernel)
set_option maxRecDepth 20000 in
theorem gX8_splits_X8_paged : GoodIn wsX8_splits (wsV RX8 224 RX8 yX8_paged wsX8_paged) := goodIn_app (goodIn_of _ (by decide +kernel)) ggX8_splits_X8_paged
set_option maxRecDepth 20000 in
theorem ggX8_splits_X8_bits : GoodIn wsX8_splits wsX8_bits := goodIn_r _ [55] (by decide +kernel) (by decide +kernel)
set_option maxRecDepth 20000 in
theorem gX8_splits_X8_bits : GoodIn wsX8_splits (va_wsS RX8 227 yX8_bits wsX8_bits) := goodIn_app (goodIn_of _ (by decide +kernel)) ggX8_splits_X8_bits
set_option maxRecDepth 20000 in
theorem ggX8_splits_X8_isFirst : GoodIn wsX8_splits wsX8_isFirst := goodIn_r _ [58] (by decide +kernel) (by decide +kernel)
set_option maxRecDepth 20000 in
theorem gX8_splits_X8_isFirst : GoodIn wsX8_splits (va_wsS RX8 230 yX8_isFirst wsX8_isFirst) := goodIn_app (goodIn_of _ (by decide +kernel)) ggX8_splits_X8_isFirst
theorem dX8_splits_0 : decode cX8_splits 0 = .ok (.aload_n 0, 1) := by decide +kernel
theorem dX8_splits_1 : decode cX8_splits 1 = .ok (.invokevirtual 218, 3) := by decide +kernel
theorem dX8_splits_4 : decode cX8_splits 4 = .ok (.iconst 1, 1) := by decide +kernel
theorem dX8_splits_5 : decode cX8_splits 5 = .ok (.aload_n 0, 1) := by decide +kernel
theorem dX8_splits_6 : decode cX8_splits 6 = .ok (.getfield 215, 3) := by decide +kernel
theorem dX8_splits_9 : decode cX8_splits 9 = .ok (.iconst 1, 1) := by decide +kernel
theorem dX8_splits_10 : decode cX8_splits 10 = .ok (.isub, 1) := by decide +kernel
theorem dX8_splits_11 : decode cX8_splits 11 = .ok (.ishl, 1) := by decide +kernel
theorem dX8_splits_12 : decode cX8_splits 12 = .ok (.istore_n 1, 1) := by decide +kernel
theorem dX8_splits_13 : decode cX8_splits 13 = .ok (.aload_n 0, 1) := by decide +kernel
theorem dX8_splits_14 : decode cX8_splits 14 = .ok (.iload_n 1, 1) := by decide +kernel
theorem dX8_splits_15 : decode cX8_splits 15 = .ok (.putfield 221, 3) := by decide +kernel
theorem dX8_splits_18 : decode cX8_splits 18 = .ok (.aload_n 0, 1) := by decide +kernel
theorem dX8_splits_19 : decode cX8_splits 19 = .ok (.iload_n 1, 1) := by decide +kernel
theorem dX8_splits_20 : decode cX8_splits 20 = .ok (.invokevirtual 224, 3) := by decide +kernel
theorem dX8_splits_23 : decode cX8_splits 23 = .ok (.lstore_n 2, 1) := by decide +kernel
theorem dX8_splits_24 : decode cX8_splits 24 = .ok (.iload_n 1, 1) := by decide +kernel
theorem dX8_splits_25 : decode cX8_splits 25 = .ok (.iconst 1, 1) := by decide +kernel
theorem dX8_splits_26 : decode cX8_splits 26 = .ok (.iadd, 1) := by decide +kernel
theorem dX8_splits_27 : decode cX8_splits 27 = .ok (.istore 4, 2) := by decide +kernel
theorem dX8_splits_29 : decode cX8_splits 29 = .ok (.iload 4, 2) := by decide +kernel
theorem dX8_splits_31 : decode cX8_splits 31 = .ok (.iconst 2, 1) := by decide +kernel
theorem dX8_splits_32 : decode cX8_splits 32 = .ok (.iload_n 1, 1) := by decide +kernel
theorem dX8_splits_33 : decode cX8_splits 33 = .ok (.imul, 1) := by decide +kernel
theorem dX8_splits_34 : decode cX8_splits 34 = .ok (.if_icmp .ge 130, 3) := by decide +kernel
theorem dX8_splits_37 : decode cX8_splits 37 = .ok (.iload 4, 2) := by decide +kernel
theorem dX8_splits_39 : decode cX8_splits 39 = .ok (.invokestatic 227, 3) := by decide +kernel
theorem dX8_splits_42 : decode cX8_splits 42 = .ok (.aload_n 0, 1) := by decide +kernel
theorem dX8_splits_43 : decode cX8_splits 43 = .ok (.getfield 16, 3) := by decide +kernel
theorem dX8_splits_46 : decode cX8_splits 46 = .ok (.iconst 0, 1) := by decide +kernel
theorem dX8_splits_47 : decode cX8_splits 47 = .ok (.iaload, 1) := by decide +kernel
theorem dX8_splits_48 : decode cX8_splits 48 = .ok (.if_icmp .gt 12, 3) := by decide +kernel
theorem dX8_splits_51 : decode cX8_splits 51 = .ok (.aload_n 0, 1) := by decide +kernel
theorem dX8_splits_52 : decode cX8_splits 52 = .ok (.iload 4, 2) := by decide +kernel
theorem dX8_splits_54 : decode cX8_splits 54 = .ok (.invokevirtual 224, 3) := by decide +kernel
theorem dX8_splits_57 : decode cX8_splits 57 = .ok (.goto 6, 3) := by decide +kernel
theorem dX8_splits_60 : decode cX8_splits 60 = .ok (.lload_n 2, 1) := by decide +kernel
theorem dX8_splits_61 : decode cX8_splits 61 = .ok (.lconst 1, 1) := by decide +kernel
theorem dX8_splits_62 : decode cX8_splits 62 = .ok (.ladd, 1) := by decide +kernel
theorem dX8_splits_63 : decode cX8_splits 63 = .ok (.lstore 5, 2) := by decide +kernel
theorem dX8_splits_65 : decode cX8_splits 65 = .ok (.lload 5, 2) := by decide +kernel
theorem dX8_splits_67 : decode cX8_splits 67 = .ok (.lload_n 2, 1) := by decide +kernel
theorem dX8_splits_68 : decode cX8_splits 68 = .ok (.lcmp, 1) := by decide +kernel
theorem dX8_splits_69 : decode cX8_splits 69 = .ok (.ifCond .lt 52, 3) := by decide +kernel
theorem dX8_splits_72 : decode cX8_splits 72 = .ok (.lload 5, 2) := by decide +kernel
theorem dX8_splits_74 : decode cX8_splits 74 = .ok (.lload_n 2, 1) := by decide +kernel
theorem dX8_splits_75 : decode cX8_splits 75 = .ok (.lcmp, 1) := by decide +kernel
theorem dX8_splits_76 : decode cX8_splits 76 = .ok (.ifCond .ne 49, 3) := by decide +kernel
theorem dX8_splits_79 : decode cX8_splits 79 = .ok (.iload 4, 2) := by decide +kernel
theorem dX8_splits_81 : decode cX8_splits 81 = .ok (.invokestatic 227, 3) := by decide +kernel
theorem dX8_splits_84 : decode cX8_splits 84 = .ok (.aload_n 0, 1) := by decide +kernel
theorem dX8_splits_85 : decode cX8_splits 85 = .ok (.getfield 221, 3) := by decide +kernel
theorem dX8_splits_88 : decode cX8_splits 88 = .ok (.invokestatic 227, 3) := by decide +kernel
theorem dX8_splits_91 : decode cX8_splits 91 = .ok (.if_icmp .lt 30, 3) := by decide +kernel
theorem dX8_splits_94 : decode cX8_splits 94 = .ok (.iload 4, 2) := by decide +kernel
theorem dX8_splits_96 : decode cX8_splits 96 = .ok (.invokestatic 227, 3) := by decide +kernel
theorem dX8_splits_99 : decode cX8_splits 99 = .ok (.aload_n 0, 1) := by decide +kernel
theorem dX8_splits_100 : decode cX8_splits 100 = .ok (.getfield 221, 3) := by decide +kernel
theorem dX8_splits_103 : decode cX8_splits 103 = .ok (.invokestatic 227, 3) := by decide +kernel
theorem dX8_splits_106 : decode cX8_splits 106 = .ok (.if_icmp .ne 19, 3) := by decide +kernel
theorem dX8_splits_109 : decode cX8_splits 109 = .ok (.iload 4, 2) := by decide +kernel
theorem dX8_splits_111 : decode cX8_splits 111 = .ok (.aload_n 0, 1) := by decide +kernel
theorem dX8_splits_112 : decode cX8_splits 112 = .ok (.getfield 221, 3) := by decide +kernel
theorem dX8_splits_115 : decode cX8_splits 115 = .ok (.invokestatic 230, 3) := by decide +kernel
theorem dX8_splits_118 : decode cX8_splits 118 = .ok (.ifCond .eq 7, 3) := by decide +kernel
theorem dX8_splits_121 : decode cX8_splits 121 = .ok (.iconst 1, 1) := by decide +kernel
theorem dX8_splits_122 : decode cX8_splits 122 = .ok (.goto 4, 3) := by decide +kernel
theorem dX8_splits_125 : decode cX8_splits 125 = .ok (.iconst 0, 1) := by decide +kernel
theorem dX8_splits_126 : decode cX8_splits 126 = .ok (.istore 7, 2) := by decide +kernel
theorem dX8_splits_128 : decode cX8_splits 128 = .ok (.iload 7, 2) := by decide +kernel
theorem dX8_splits_130 : decode cX8_splits 130 = .ok (.ifCond .eq 8, 3) := by decide +kernel
theorem dX8_splits_133 : decode cX8_splits 133 = .ok (.lload 5, 2) := by decide +kernel
theorem dX8_splits_135 : decode cX8_splits 135 = .ok (.goto 4, 3) := by decide +kernel
theorem dX8_splits_138 : decode cX8_splits 138 = .ok (.lload_n 2, 1) := by decide +kernel
theorem dX8_splits_139 : decode cX8_splits 139 = .ok (.lstore_n 2, 1) := by decide +kernel
theorem dX8_splits_140 : decode cX8_splits 140 = .ok (.aload_n 0, 1) := by decide +kernel
theorem dX8_splits_141 : decode cX8_splits 141 = .ok (.iload 7, 2) := by decide +kernel
theorem dX8_splits_143 : decode cX8_splits 143 = .ok (.ifCond .eq 8, 3) := by decide +kernel
theorem dX8_splits_146 : decode cX8_splits 146 = .ok (.iload 4, 2) := by decide +kernel
theorem dX8_splits_148 : decode cX8_splits 148 = .ok (.goto 7, 3) := by decide +kernel
theorem dX8_splits_151 : decode cX8_splits 151 = .ok (.aload_n 0, 1) := by decide +kernel
theorem dX8_splits_152 : decode cX8_splits 152 = .ok (.getfield 221, 3) := by decide +kernel
theorem dX8_splits_155 : decode cX8_splits 155 = .ok (.putfield 221, 3) := by decide +kernel
theorem dX8_splits_158 : decode cX8_splits 158 = .ok (.iinc 4 1, 3) := by decide +kernel
theorem dX8_splits_161 : decode cX8_splits 161 = .ok (.goto (-132), 3) := by decide +kernel
theorem dX8_splits_164 : decode cX8_splits 164 = .ok (.return_, 1) := by decide +kernel
set_option maxRecDepth 20000 in
theorem ggX8_round_X8_splits : GoodIn wsX8_round wsX8_splits := goodIn_r _ [8, 2, 1, 9, 10, 11, 12, 7, 13, 14, 15, 3, 16, 17, 18, 19, 20, 21, 22, 23, 24, 25, 26, 27, 28, 29, 30, 31, 32, 33, 34, 35, 36, 37, 38, 39, 40, 41, 42, 43, 44, 45, 46, 47, 48, 49, 50, 51, 52, 53, 54, 55, 56, 57, 58, 59, 60, 61, 62, 63, 64, 65, 66, 67, 68, 69, 70, 71, 72, 73, 74, 75, 76, 77, 78, 79, 80, 81, 82, 83, 84, 85, 86, 87, 88] (by decide +kernel) (by decide +kernel)
set_option maxRecDepth 20000 in
theorem gX8_round_X8_splits : GoodIn wsX8_round (wsV RX8 233 RX8 yX8_splits wsX8_splits) := goodIn_app (goodIn_of _ (by decide +kernel)) ggX8_round_X8_splits
set_option maxRecDepth 20000 in
theorem ggX8_round_X8_bits : GoodIn wsX8_round wsX8_bits := goodIn_r _ [59] (by decide +kernel) (by decide +kernel)
set_option maxRecDepth 20000 in
theorem gX8_round_X8_bits : GoodIn wsX8_round (va_wsS RX8 227 yX8_bits wsX8_bits) := goodIn_app (goodIn_of _ (by decide +kernel)) ggX8_round_X8_bits
theorem dX8_round_0 : decode cX8_round 0 = .ok (.iload_n 1, 1) := by decide +kernel
theorem dX8_round_1 : decode cX8_round 1 = .ok (.iconst (-1), 1) := by decide +kernel
theorem dX8_round_2 : decode cX8_round 2 = .ok (.if_icmp .ge 5, 3) := by decide +kernel
theorem dX8_round_5 : decode cX8_round 5 = .ok (.iconst (-1), 1) := by decide +kernel
theorem dX8_round_6 : decode cX8_round 6 = .ok (.ireturn, 1) := by decide +kernel
theorem dX8_round_7 : decode cX8_round 7 = .ok (.aload_n 0, 1) := by decide +kernel
theorem dX8_round_8 : decode cX8_round 8 = .ok (.invokevirtual 233, 3) := by decide +kernel
theorem dX8_round_11 : decode cX8_round 11 = .ok (.iload_n 1, 1) := by decide +kernel
theorem dX8_round_12 : decode cX8_round 12 = .ok (.ifCond .ge 11, 3) := by decide +kernel
theorem dX8_round_15 : decode cX8_round 15 = .ok (.aload_n 0, 1) := by decide +kernel
theorem dX8_round_16 : decode cX8_round 16 = .ok (.getfield 221, 3) := by decide +kernel
theorem dX8_round_19 : decode cX8_round 19 = .ok (.invokestatic 227, 3) := by decide +kernel
theorem dX8_round_22 : decode cX8_round 22 = .ok (.ireturn, 1) := by decide +kernel
theorem dX8_round_23 : decode cX8_round 23 = .ok (.iconst 0, 1) := by decide +kernel
theorem dX8_round_24 : decode cX8_round 24 = .ok (.istore_n 2, 1) := by decide +kernel
theorem dX8_round_25 : decode cX8_round 25 = .ok (.iconst 0, 1) := by decide +kernel
theorem dX8_round_26 : decode cX8_round 26 = .ok (.istore_n 3, 1) := by decide +kernel
theorem dX8_round_27 : decode cX8_round 27 = .ok (.iconst 0, 1) := by decide +kernel
theorem dX8_round_28 : decode cX8_round 28 = .ok (.istore 4, 2) := by decide +kernel
theorem dX8_round_30 : decode cX8_round 30 = .ok (.iload 4, 2) := by decide +kernel
theorem dX8_round_32 : decode cX8_round 32 = .ok (.aload_n 0, 1) := by decide +kernel
theorem dX8_round_33 : decode cX8_round 33 = .ok (.getfield 215, 3) := by decide +kernel
theorem dX8_round_36 : decode cX8_round 36 = .ok (.if_icmp .ge 42, 3) := by decide +kernel
theorem dX8_round_39 : decode cX8_round 39 = .ok (.iload_n 3, 1) := by decide +kernel
theorem dX8_round_40 : decode cX8_round 40 = .ok (.iload_n 2, 1) := by decide +kernel
theorem dX8_round_41 : decode cX8_round 41 = .ok (.iload_n 1, 1) := by decide +kernel
theorem dX8_round_42 : decode cX8_round 42 = .ok (.if_icmp .ne 15, 3) := by decide +kernel
theorem dX8_round_45 : decode cX8_round 45 = .ok (.iconst 1, 1) := by decide +kernel
theorem dX8_round_46 : decode cX8_round 46 = .ok (.aload_n 0, 1) := by decide +kernel
theorem dX8_round_47 : decode cX8_round 47 = .ok (.getfield 53, 3) := by decide +kernel
theorem dX8_round_50 : decode cX8_round 50 = .ok (.iload 4, 2) := by decide +kernel
theorem dX8_round_52 : decode cX8_round 52 = .ok (.iaload, 1) := by decide +kernel
theorem dX8_round_53 : decode cX8_round 53 = .ok (.ishl, 1) := by decide +kernel
theorem dX8_round_54 : decode cX8_round 54 = .ok (.goto 4, 3) := by decide +kernel
theorem dX8_round_57 : decode cX8_round 57 = .ok (.iconst 0, 1) := by decide +kernel
theorem dX8_round_58 : decode cX8_round 58 = .ok (.ior, 1) := by decide +kernel
theorem dX8_round_59 : decode cX8_round 59 = .ok (.istore_n 3, 1) := by decide +kernel
theorem dX8_round_60 : decode cX8_round 60 = .ok (.iload_n 2, 1) := by decide +kernel
theorem dX8_round_61 : decode cX8_round 61 = .ok (.aload_n 0, 1) := by decide +kernel
theorem dX8_round_62 : decode cX8_round 62 = .ok (.getfield 221, 3) := by decide +kernel
theorem dX8_round_65 : decode cX8_round 65 = .ok (.iload 4, 2) := by decide +kernel
theorem dX8_round_67 : decode cX8_round 67 = .ok (.ishr, 1) := by decide +kernel
theorem dX8_round_68 : decode cX8_round 68 = .ok (.iconst 1, 1) := by decide +kernel
theorem dX8_round_69 : decode cX8_round 69 = .ok (.iand, 1) := by decide +kernel
theorem dX8_round_70 : decode cX8_round 70 = .ok (.iadd, 1) := by decide +kernel
theorem dX8_round_71 : decode cX8_round 71 = .ok (.istore_n 2, 1) := by decide +kernel
theorem dX8_round_72 : decode cX8_round 72 = .ok (.iinc 4 1, 3) := by decide +kernel
theorem dX8_round_75 : decode cX8_round 75 = .ok (.goto (-45), 3) := by decide +kernel
theorem dX8_round_78 : decode cX8_round 78 = .ok (.iload_n 3, 1) := by decide +kernel
theorem dX8_round_79 : decode cX8_round 79 = .ok (.ifCond .ne 8, 3) := by decide +kernel
theorem dX8_round_82 : decode cX8_round 82 = .ok (.bipush (-4), 2) := by decide +kernel
theorem dX8_round_84 : decode cX8_round 84 = .ok (.goto 4, 3) := by decide +kernel
theorem dX8_round_87 : decode cX8_round 87 = .ok (.iload_n 3, 1) := by decide +kernel
theorem dX8_round_88 : decode cX8_round 88 = .ok (.ireturn, 1) := by decide +kernel
set_option maxRecDepth 20000 in
theorem ggX8_page_X8_splits : GoodIn wsX8_page wsX8_splits := goodIn_r _ [8, 9, 3, 10, 11, 12, 13, 7, 14, 15, 16, 1, 17, 18, 19, 20, 2, 21, 22, 23, 24, 25, 26, 27, 28, 29, 30, 31, 32, 33, 34, 35, 36, 37, 38, 39, 40, 41, 42, 43, 44, 45, 46, 47, 48, 49, 50, 51, 52, 53, 54, 55, 56, 57, 58, 59, 60, 61, 62, 72, 73, 74, 75, 76, 77, 78, 79, 80, 81, 82, 83, 84, 85, 86, 87, 88, 89, 90, 91, 92, 93, 94, 95, 96, 97] (by decide +kernel) (by decide +kernel)
set_option maxRecDepth 20000 in
theorem gX8_page_X8_splits : GoodIn wsX8_page (wsV RX8 233 RX8 yX8_splits wsX8_splits) := goodIn_app (goodIn_of _ (by decide +kernel)) ggX8_page_X8_splits
set_option maxRecDepth 20000 in
theorem ggX8_page_X8_keeps : GoodIn wsX8_page wsX8_keeps := goodIn_r _ [66, 67, 68, 2, 72, 73, 74, 75, 76, 77, 78, 79, 80, 81, 82, 83, 84, 85, 86, 87, 88, 89, 90, 91, 92, 93, 94, 95, 96, 97] (by decide +kernel) (by decide +kernel)
set_option maxRecDepth 20000 in
theorem gX8_page_X8_keeps : GoodIn wsX8_page (wsV RX8 139 RX8 yX8_keeps wsX8_keeps) := goodIn_app (goodIn_of _ (by decide +kernel)) ggX8_page_X8_keeps
set_option maxRecDepth 20000 in
theorem ggX8_page_X8_registers : GoodIn wsX8_page wsX8_registers := goodIn_r _ [71] (by decide +kernel) (by decide +kernel)
set_option maxRecDepth 20000 in
theorem gX8_page_X8_registers : GoodIn wsX8_page (va_wsS RX8 142 yX8_registers wsX8_registers) := goodIn_app (goodIn_of _ (by decide +kernel)) ggX8_page_X8_registers
theorem dX8_page_0 : decode cX8_page 0 = .ok (.aload_n 0, 1) := by decide +kernel
theorem dX8_page_1 : decode cX8_page 1 = .ok (.invokevirtual 233, 3) := by decide +kernel
theorem dX8_page_4 : decode cX8_page 4 = .ok (.iconst 0, 1) := by decide +kernel
theorem dX8_page_5 : decode cX8_page 5 = .ok (.istore_n 1, 1) := by decide +kernel
theorem dX8_page_6 : decode cX8_page 6 = .ok (.aload_n 0, 1) := by decide +kernel
theorem dX8_page_7 : decode cX8_page 7 = .ok (.getfield 53, 3) := by decide +kernel
theorem dX8_page_10 : decode cX8_page 10 = .ok (.iload_n 1, 1) := by decide +kernel
theorem dX8_page_11 : decode cX8_page 11 = .ok (.iaload, 1) := by decide +kernel
theorem dX8_page_12 : decode cX8_page 12 = .ok (.aload_n 0, 1) := by decide +kernel
theorem dX8_page_13 : decode cX8_page 13 = .ok (.getfield 19, 3) := by decide +kernel
theorem dX8_page_16 : decode cX8_page 16 = .ok (.bipush 14, 2) := by decide +kernel
theorem dX8_page_18 : decode cX8_page 18 = .ok (.iaload, 1) := by decide +kernel
theorem dX8_page_19 : decode cX8_page 19 = .ok (.if_icmp .eq 9, 3) := by decide +kernel
theorem dX8_page_22 : decode cX8_page 22 = .ok (.iinc 1 1, 3) := by decide +kernel
theorem dX8_page_25 : decode cX8_page 25 = .ok (.goto (-19), 3) := by decide +kernel
theorem dX8_page_28 : decode cX8_page 28 = .ok (.aload_n 0, 1) := by decide +kernel
theorem dX8_page_29 : decode cX8_page 29 = .ok (.getfield 221, 3) := by decide +kernel
theorem dX8_page_32 : decode cX8_page 32 = .ok (.iload_n 1, 1) := by decide +kernel
theorem dX8_page_33 : decode cX8_page 33 = .ok (.ishr, 1) := by decide +kernel
theorem dX8_page_34 : decode cX8_page 34 = .ok (.iconst 1, 1) := by decide +kernel
theorem dX8_page_35 : decode cX8_page 35 = .ok (.iand, 1) := by decide +kernel
theorem dX8_page_36 : decode cX8_page 36 = .ok (.ifCond .ne 9, 3) := by decide +kernel
theorem dX8_page_39 : decode cX8_page 39 = .ok (.iinc 1 1, 3) := by decide +kernel
theorem dX8_page_42 : decode cX8_page 42 = .ok (.goto (-14), 3) := by decide +kernel
theorem dX8_page_45 : decode cX8_page 45 = .ok (.aload_n 0, 1) := by decide +kernel
theorem dX8_page_46 : decode cX8_page 46 = .ok (.invokevirtual 139, 3) := by decide +kernel
theorem dX8_page_49 : decode cX8_page 49 = .ok (.aload_n 0, 1) := by decide +kernel
theorem dX8_page_50 : decode cX8_page 50 = .ok (.getfield 19, 3) := by decide +kernel
theorem dX8_page_53 : decode cX8_page 53 = .ok (.bipush 19, 2) := by decide +kernel
theorem dX8_page_55 : decode cX8_page 55 = .ok (.dup2, 1) := by decide +kernel
theorem dX8_page_56 : decode cX8_page 56 = .ok (.iaload, 1) := by decide +kernel
theorem dX8_page_57 : decode cX8_page 57 = .ok (.iload_n 1, 1) := by decide +kernel
theorem dX8_page_58 : decode cX8_page 58 = .ok (.iconst 1, 1) := by decide +kernel
theorem dX8_page_59 : decode cX8_page 59 = .ok (.iadd, 1) := by decide +kernel
theorem dX8_page_60 : decode cX8_page 60 = .ok (.iadd, 1) := by decide +kernel
theorem dX8_page_61 : decode cX8_page 61 = .ok (.iastore, 1) := by decide +kernel
theorem dX8_page_62 : decode cX8_page 62 = .ok (.aload_n 0, 1) := by decide +kernel
theorem dX8_page_63 : decode cX8_page 63 = .ok (.getfield 19, 3) := by decide +kernel
theorem dX8_page_66 : decode cX8_page 66 = .ok (.invokestatic 142, 3) := by decide +kernel
theorem dX8_page_69 : decode cX8_page 69 = .ok (.iload_n 1, 1) := by decide +kernel
theorem dX8_page_70 : decode cX8_page 70 = .ok (.iconst 1, 1) := by decide +kernel
theorem dX8_page_71 : decode cX8_page 71 = .ok (.iadd, 1) := by decide +kernel
theorem dX8_page_72 : decode cX8_page 72 = .ok (.ireturn, 1) := by decide +kernel
set_option maxRecDepth 20000 in
theorem ggX8_walk_X8_isIn : GoodIn wsX8_walk wsX8_isIn := goodIn_r _ [11] (by decide +kernel) (by decide +kernel)
set_option maxRecDepth 20000 in
theorem gX8_walk_X8_isIn : GoodIn wsX8_walk (va_wsS RX8 98 yX8_isIn wsX8_isIn) := goodIn_app (goodIn_of _ (by decide +kernel)) ggX8_walk_X8_isIn
set_option maxRecDepth 20000 in
theorem ggX8_walk_X8_sum : GoodIn wsX8_walk wsX8_sum := goodIn_r _ [15, 2, 16, 17, 18, 10, 19, 6, 7, 39, 40, 41, 42, 43, 44, 45, 46, 47, 48, 49, 50, 51, 52, 53, 54, 55, 56, 57, 58, 59, 60, 61, 62, 63, 64] (by decide +kernel) (by decide +kernel)
set_option maxRecDepth 20000 in
theorem gX8_walk_X8_sum : GoodIn wsX8_walk (wsV RX8 149 RX8 yX8_sum wsX8_sum) := goodIn_app (goodIn_of _ (by decide +kernel)) ggX8_walk_X8_sum
set_option maxRecDepth 20000 in
theorem ggX8_walk_X8_goes : GoodIn wsX8_walk wsX8_goes := goodIn_r _ [23, 24, 25, 26, 10, 27, 2, 28, 29, 30, 31, 6, 32, 33, 34, 35, 7, 36, 37, 38, 39, 40, 41, 42, 43, 44, 45, 46, 47, 48, 49, 50, 51, 52, 53, 54, 55, 56, 57, 58, 59, 60, 61, 62, 63, 64] (by decide +kernel) (by decide +kernel)
set_option maxRecDepth 20000 in
theorem gX8_walk_X8_goes : GoodIn wsX8_walk (wsV RX8 166 RX8 yX8_goes wsX8_goes) := goodIn_app (goodIn_of _ (by decide +kernel)) ggX8_walk_X8_goes
theorem dX8_walk_0 : decode cX8_walk 0 = .ok (.iload_n 1, 1) := by decide +kernel
theorem dX8_walk_1 : decode cX8_walk 1 = .ok (.iconst 0, 1) := by decide +kernel
theorem dX8_walk_2 : decode cX8_walk 2 = .ok (.sipush 9999, 3) := by decide +kernel
theorem dX8_walk_5 : decode cX8_walk 5 = .ok (.invokestatic 98, 3) := by decide +kernel
theorem dX8_walk_8 : decode cX8_walk 8 = .ok (.ifCond .eq 22, 3) := by decide +kernel
theorem dX8_walk_11 : decode cX8_walk 11 = .ok (.iload_n 2, 1) := by decide +kernel
theorem dX8_walk_12 : decode cX8_walk 12 = .ok (.iconst 1, 1) := by decide +kernel
theorem dX8_walk_13 : decode cX8_walk 13 = .ok (.bipush 60, 2) := by decide +kernel
theorem dX8_walk_15 : decode cX8_walk 15 = .ok (.invokestatic 98, 3) := by decide +kernel
theorem dX8_walk_18 : decode cX8_walk 18 = .ok (.ifCond .eq 12, 3) := by decide +kernel
theorem dX8_walk_21 : decode cX8_walk 21 = .ok (.iload_n 3, 1) := by decide +kernel
theorem dX8_walk_22 : decode cX8_walk 22 = .ok (.iconst 0, 1) := by decide +kernel
theorem dX8_walk_23 : decode cX8_walk 23 = .ok (.iconst 2, 1) := by decide +kernel
theorem dX8_walk_24 : decode cX8_walk 24 = .ok (.invokestatic 98, 3) := by decide +kernel
theorem dX8_walk_27 : decode cX8_walk 27 = .ok (.ifCond .ne 5, 3) := by decide +kernel
theorem dX8_walk_30 : decode cX8_walk 30 = .ok (.iconst (-1), 1) := by decide +kernel
theorem dX8_walk_31 : decode cX8_walk 31 = .ok (.ireturn, 1) := by decide +kernel
theorem dX8_walk_32 : decode cX8_walk 32 = .ok (.iconst 0, 1) := by decide +kernel
theorem dX8_walk_33 : decode cX8_walk 33 = .ok (.istore 4, 2) := by decide +kernel
theorem dX8_walk_35 : decode cX8_walk 35 = .ok (.iload 4, 2) := by decide +kernel
theorem dX8_walk_37 : decode cX8_walk 37 = .ok (.bipush 20, 2) := by decide +kernel
theorem dX8_walk_39 : decode cX8_walk 39 = .ok (.if_icmp .ge 23, 3) := by decide +kernel
theorem dX8_walk_42 : decode cX8_walk 42 = .ok (.aload_n 0, 1) := by decide +kernel
theorem dX8_walk_43 : decode cX8_walk 43 = .ok (.getfield 56, 3) := by decide +kernel
theorem dX8_walk_46 : decode cX8_walk 46 = .ok (.iload 4, 2) := by decide +kernel
theorem dX8_walk_48 : decode cX8_walk 48 = .ok (.aload_n 0, 1) := by decide +kernel
theorem dX8_walk_49 : decode cX8_walk 49 = .ok (.getfield 19, 3) := by decide +kernel
theorem dX8_walk_52 : decode cX8_walk 52 = .ok (.iload 4, 2) := by decide +kernel
theorem dX8_walk_54 : decode cX8_walk 54 = .ok (.iaload, 1) := by decide +kernel
theorem dX8_walk_55 : decode cX8_walk 55 = .ok (.iastore, 1) := by decide +kernel
theorem dX8_walk_56 : decode cX8_walk 56 = .ok (.iinc 4 1, 3) := by decide +kernel
theorem dX8_walk_59 : decode cX8_walk 59 = .ok (.goto (-24), 3) := by decide +kernel
theorem dX8_walk_62 : decode cX8_walk 62 = .ok (.iconst 0, 1) := by decide +kernel
theorem dX8_walk_63 : decode cX8_walk 63 = .ok (.istore 4, 2) := by decide +kernel
theorem dX8_walk_65 : decode cX8_walk 65 = .ok (.iconst 0, 1) := by decide +kernel
theorem dX8_walk_66 : decode cX8_walk 66 = .ok (.istore 5, 2) := by decide +kernel
theorem dX8_walk_68 : decode cX8_walk 68 = .ok (.iload 5, 2) := by decide +kernel
theorem dX8_walk_70 : decode cX8_walk 70 = .ok (.iload_n 2, 1) := by decide +kernel
theorem dX8_walk_71 : decode cX8_walk 71 = .ok (.if_icmp .ge 164, 3) := by decide +kernel
theorem dX8_walk_74 : decode cX8_walk 74 = .ok (.ldc2_w 236, 3) := by decide +kernel
theorem dX8_walk_77 : decode cX8_walk 77 = .ok (.iload_n 1, 1) := by decide +kernel
theorem dX8_walk_78 : decode cX8_walk 78 = .ok (.i2l, 1) := by decide +kernel
theorem dX8_walk_79 : decode cX8_walk 79 = .ok (.lmul, 1) := by decide +kernel
theorem dX8_walk_80 : decode cX8_walk 80 = .ok (.ldc2_w 238, 3) := by decide +kernel
theorem dX8_walk_83 : decode cX8_walk 83 = .ok (.iload 5, 2) := by decide +kernel
theorem dX8_walk_85 : decode cX8_walk 85 = .ok (.i2l, 1) := by decide +kernel
theorem dX8_walk_86 : decode cX8_walk 86 = .ok (.lmul, 1) := by decide +kernel
theorem dX8_walk_87 : decode cX8_walk 87 = .ok (.ladd, 1) := by decide +kernel
theorem dX8_walk_88 : decode cX8_walk 88 = .ok (.lconst 1, 1) := by decide +kernel
theorem dX8_walk_89 : decode cX8_walk 89 = .ok (.ladd, 1) := by decide +kernel
theorem dX8_walk_90 : decode cX8_walk 90 = .ok (.lstore 6, 2) := by decide +kernel
theorem dX8_walk_92 : decode cX8_walk 92 = .ok (.aload_n 0, 1) := by decide +kernel
theorem dX8_walk_93 : decode cX8_walk 93 = .ok (.getfield 56, 3) := by decide +kernel
theorem dX8_walk_96 : decode cX8_walk 96 = .ok (.bipush 14, 2) := by decide +kernel
theorem dX8_walk_98 : decode cX8_walk 98 = .ok (.iaload, 1) := by decide +kernel
theorem dX8_walk_99 : decode cX8_walk 99 = .ok (.istore 8, 2) := by decide +kernel
theorem dX8_walk_101 : decode cX8_walk 101 = .ok (.lload 6, 2) := by decide +kernel
theorem dX8_walk_103 : decode cX8_walk 103 = .ok (.lload 6, 2) := by decide +kernel
theorem dX8_walk_105 : decode cX8_walk 105 = .ok (.lmul, 1) := by decide +kernel
theorem dX8_walk_106 : decode cX8_walk 106 = .ok (.ldc2_w 240, 3) := by decide +kernel
theorem dX8_walk_109 : decode cX8_walk 109 = .ok (.lrem, 1) := by decide +kernel
theorem dX8_walk_110 : decode cX8_walk 110 = .ok (.l2i, 1) := by decide +kernel
theorem dX8_walk_111 : decode cX8_walk 111 = .ok (.aload_n 0, 1) := by decide +kernel
theorem dX8_walk_112 : decode cX8_walk 112 = .ok (.iload 8, 2) := by decide +kernel
theorem dX8_walk_114 : decode cX8_walk 114 = .ok (.invokevirtual 149, 3) := by decide +kernel
theorem dX8_walk_117 : decode cX8_walk 117 = .ok (.irem, 1) := by decide +kernel
theorem dX8_walk_118 : decode cX8_walk 118 = .ok (.istore 9, 2) := by decide +kernel
theorem dX8_walk_120 : decode cX8_walk 120 = .ok (.iload 8, 2) := by decide +kernel
theorem dX8_walk_122 : decode cX8_walk 122 = .ok (.istore 10, 2) := by decide +kernel
theorem dX8_walk_124 : decode cX8_walk 124 = .ok (.aload_n 0, 1) := by decide +kernel
theorem dX8_walk_125 : decode cX8_walk 125 = .ok (.getfield 19, 3) := by decide +kernel
theorem dX8_walk_128 : decode cX8_walk 128 = .ok (.iload 8, 2) := by decide +kernel
theorem dX8_walk_130 : decode cX8_walk 130 = .ok (.iaload, 1) := by decide +kernel
theorem dX8_walk_131 : decode cX8_walk 131 = .ok (.istore 11, 2) := by decide +kernel
theorem dX8_walk_133 : decode cX8_walk 133 = .ok (.iconst 0, 1) := by decide +kernel
theorem dX8_walk_134 : decode cX8_walk 134 = .ok (.istore 12, 2) := by decide +kernel
theorem dX8_walk_136 : decode cX8_walk 136 = .ok (.iload 12, 2) := by decide +kernel
theorem dX8_walk_138 : decode cX8_walk 138 = .ok (.aload_n 0, 1) := by decide +kernel
theorem dX8_walk_139 : decode cX8_walk 139 = .ok (.getfield 76, 3) := by decide +kernel
theorem dX8_walk_142 : decode cX8_walk 142 = .ok (.if_icmp .ge 59, 3) := by decide +kernel
theorem dX8_walk_145 : decode cX8_walk 145 = .ok (.iload 9, 2) := by decide +kernel
theorem dX8_walk_147 : decode cX8_walk 147 = .ok (.iload 11, 2) := by decide +kernel
theorem dX8_walk_149 : decode cX8_walk 149 = .ok (.if_icmp .lt 52, 3) := by decide +kernel
theorem dX8_walk_152 : decode cX8_walk 152 = .ok (.iload 11, 2) := by decide +kernel
theorem dX8_walk_154 : decode cX8_walk 154 = .ok (.aload_n 0, 1) := by decide +kernel
theorem dX8_walk_155 : decode cX8_walk 155 = .ok (.getfield 13, 3) := by decide +kernel
theorem dX8_walk_158 : decode cX8_walk 158 = .ok (.bipush 6, 2) := by decide +kernel
theorem dX8_walk_160 : decode cX8_walk 160 = .ok (.iload 8, 2) := by decide +kernel
theorem dX8_walk_162 : decode cX8_walk 162 = .ok (.imul, 1) := by decide +kernel
theorem dX8_walk_163 : decode cX8_walk 163 = .ok (.iload 12, 2) := by decide +kernel
theorem dX8_walk_165 : decode cX8_walk 165 = .ok (.iadd, 1) := by decide +kernel
theorem dX8_walk_166 : decode cX8_walk 166 = .ok (.iaload, 1) := by decide +kernel
theorem dX8_walk_167 : decode cX8_walk 167 = .ok (.iadd, 1) := by decide +kernel
theorem dX8_walk_168 : decode cX8_walk 168 = .ok (.istore 11, 2) := by decide +kernel
theorem dX8_walk_170 : decode cX8_walk 170 = .ok (.aload_n 0, 1) := by decide +kernel
theorem dX8_walk_171 : decode cX8_walk 171 = .ok (.getfield 13, 3) := by decide +kernel
theorem dX8_walk_174 : decode cX8_walk 174 = .ok (.bipush 6, 2) := by decide +kernel
theorem dX8_walk_176 : decode cX8_walk 176 = .ok (.iload 8, 2) := by decide +kernel
theorem dX8_walk_178 : decode cX8_walk 178 = .ok (.imul, 1) := by decide +kernel
theorem dX8_walk_179 : decode cX8_walk 179 = .ok (.iload 12, 2) := by decide +kernel
theorem dX8_walk_181 : decode cX8_walk 181 = .ok (.iadd, 1) := by decide +kernel
theorem dX8_walk_182 : decode cX8_walk 182 = .ok (.iaload, 1) := by decide +kernel
theorem dX8_walk_183 : decode cX8_walk 183 = .ok (.ifCond .le 8, 3) := by decide +kernel
theorem dX8_walk_186 : decode cX8_walk 186 = .ok (.iload 12, 2) := by decide +kernel
theorem dX8_walk_188 : decode cX8_walk 188 = .ok (.goto 5, 3) := by decide +kernel
theorem dX8_walk_191 : decode cX8_walk 191 = .ok (.iload 10, 2) := by decide +kernel
theorem dX8_walk_193 : decode cX8_walk 193 = .ok (.istore 10, 2) := by decide +kernel
theorem dX8_walk_195 : decode cX8_walk 195 = .ok (.iinc 12 1, 3) := by decide +kernel
theorem dX8_walk_198 : decode cX8_walk 198 = .ok (.goto (-62), 3) := by decide +kernel
theorem dX8_walk_201 : decode cX8_walk 201 = .ok (.iload 4, 2) := by decide +kernel
theorem dX8_walk_203 : decode cX8_walk 203 = .ok (.iload 10, 2) := by decide +kernel
theorem dX8_walk_205 : decode cX8_walk 205 = .ok (.iload 8, 2) := by decide +kernel
theorem dX8_walk_207 : decode cX8_walk 207 = .ok (.if_icmp .ne 7, 3) := by decide +kernel
theorem dX8_walk_210 : decode cX8_walk 210 = .ok (.iconst 0, 1) := by decide +kernel
theorem dX8_walk_211 : decode cX8_walk 211 = .ok (.goto 4, 3) := by decide +kernel
theorem dX8_walk_214 : decode cX8_walk 214 = .ok (.iconst 1, 1) := by decide +kernel
theorem dX8_walk_215 : decode cX8_walk 215 = .ok (.iadd, 1) := by decide +kernel
theorem dX8_walk_216 : decode cX8_walk 216 = .ok (.istore 4, 2) := by decide +kernel
theorem dX8_walk_218 : decode cX8_walk 218 = .ok (.aload_n 0, 1) := by decide +kernel
theorem dX8_walk_219 : decode cX8_walk 219 = .ok (.aload_n 0, 1) := by decide +kernel
theorem dX8_walk_220 : decode cX8_walk 220 = .ok (.getfield 56, 3) := by decide +kernel
theorem dX8_walk_223 : decode cX8_walk 223 = .ok (.iload 10, 2) := by decide +kernel
theorem dX8_walk_225 : decode cX8_walk 225 = .ok (.invokevirtual 166, 3) := by decide +kernel
theorem dX8_walk_228 : decode cX8_walk 228 = .ok (.pop, 1) := by decide +kernel
theorem dX8_walk_229 : decode cX8_walk 229 = .ok (.iinc 5 1, 3) := by decide +kernel
theorem dX8_walk_232 : decode cX8_walk 232 = .ok (.goto (-164), 3) := by decide +kernel
theorem dX8_walk_235 : decode cX8_walk 235 = .ok (.iload_n 3, 1) := by decide +kernel
theorem dX8_walk_236 : decode cX8_walk 236 = .ok (.ifCond .ne 13, 3) := by decide +kernel
theorem dX8_walk_239 : decode cX8_walk 239 = .ok (.aload_n 0, 1) := by decide +kernel
theorem dX8_walk_240 : decode cX8_walk 240 = .ok (.getfield 56, 3) := by decide +kernel
theorem dX8_walk_243 : decode cX8_walk 243 = .ok (.bipush 14, 2) := by decide +kernel
theorem dX8_walk_245 : decode cX8_walk 245 = .ok (.iaload, 1) := by decide +kernel
theorem dX8_walk_246 : decode cX8_walk 246 = .ok (.goto 28, 3) := by decide +kernel
theorem dX8_walk_249 : decode cX8_walk 249 = .ok (.iload_n 3, 1) := by decide +kernel
theorem dX8_walk_250 : decode cX8_walk 250 = .ok (.iconst 1, 1) := by decide +kernel
theorem dX8_walk_251 : decode cX8_walk 251 = .ok (.if_icmp .ne 21, 3) := by decide +kernel
theorem dX8_walk_254 : decode cX8_walk 254 = .ok (.aload_n 0, 1) := by decide +kernel
theorem dX8_walk_255 : decode cX8_walk 255 = .ok (.getfield 56, 3) := by decide +kernel
theorem dX8_walk_258 : decode cX8_walk 258 = .ok (.bipush 18, 2) := by decide +kernel
theorem dX8_walk_260 : decode cX8_walk 260 = .ok (.iaload, 1) := by decide +kernel
theorem dX8_walk_261 : decode cX8_walk 261 = .ok (.aload_n 0, 1) := by decide +kernel
theorem dX8_walk_262 : decode cX8_walk 262 = .ok (.getfield 19, 3) := by decide +kernel
theorem dX8_walk_265 : decode cX8_walk 265 = .ok (.bipush 18, 2) := by decide +kernel
theorem dX8_walk_267 : decode cX8_walk 267 = .ok (.iaload, 1) := by decide +kernel
theorem dX8_walk_268 : decode cX8_walk 268 = .ok (.isub, 1) := by decide +kernel
theorem dX8_walk_269 : decode cX8_walk 269 = .ok (.goto 5, 3) := by decide +kernel
theorem dX8_walk_272 : decode cX8_walk 272 = .ok (.iload 4, 2) := by decide +kernel
theorem dX8_walk_274 : decode cX8_walk 274 = .ok (.ireturn, 1) := by decide +kernel
theorem dX8_count_0 : decode cX8_count 0 = .ok (.iload_n 1, 1) := by decide +kernel
theorem dX8_count_1 : decode cX8_count 1 = .ok (.tableswitch 94 0 9 #[55, 60, 65, 65, 75, 75, 75, 75, 84, 89], 55) := by decide +kernel
theorem dX8_count_56 : decode cX8_count 56 = .ok (.aload_n 0, 1) := by decide +kernel
theorem dX8_count_57 : decode cX8_count 57 = .ok (.getfield 76, 3) := by decide +kernel
theorem dX8_count_60 : decode cX8_count 60 = .ok (.ireturn, 1) := by decide +kernel
theorem dX8_count_61 : decode cX8_count 61 = .ok (.aload_n 0, 1) := by decide +kernel
theorem dX8_count_62 : decode cX8_count 62 = .ok (.getfield 79, 3) := by decide +kernel
theorem dX8_count_65 : decode cX8_count 65 = .ok (.ireturn, 1) := by decide +kernel
theorem dX8_count_66 : decode cX8_count 66 = .ok (.aload_n 0, 1) := by decide +kernel
theorem dX8_count_67 : decode cX8_count 67 = .ok (.getfield 19, 3) := by decide +kernel
theorem dX8_count_70 : decode cX8_count 70 = .ok (.bipush 10, 2) := by decide +kernel
theorem dX8_count_72 : decode cX8_count 72 = .ok (.iload_n 1, 1) := by decide +kernel
theorem dX8_count_73 : decode cX8_count 73 = .ok (.iadd, 1) := by decide +kernel
theorem dX8_count_74 : decode cX8_count 74 = .ok (.iaload, 1) := by decide +kernel
theorem dX8_count_75 : decode cX8_count 75 = .ok (.ireturn, 1) := by decide +kernel
theorem dX8_count_76 : decode cX8_count 76 = .ok (.aload_n 0, 1) := by decide +kernel
theorem dX8_count_77 : decode cX8_count 77 = .ok (.getfield 16, 3) := by decide +kernel
theorem dX8_count_80 : decode cX8_count 80 = .ok (.iload_n 1, 1) := by decide +kernel
theorem dX8_count_81 : decode cX8_count 81 = .ok (.iconst 4, 1) := by decide +kernel
theorem dX8_count_82 : decode cX8_count 82 = .ok (.isub, 1) := by decide +kernel
theorem dX8_count_83 : decode cX8_count 83 = .ok (.iaload, 1) := by decide +kernel
theorem dX8_count_84 : decode cX8_count 84 = .ok (.ireturn, 1) := by decide +kernel
theorem dX8_count_85 : decode cX8_count 85 = .ok (.aload_n 0, 1) := by decide +kernel
theorem dX8_count_86 : decode cX8_count 86 = .ok (.getfield 82, 3) := by decide +kernel
theorem dX8_count_89 : decode cX8_count 89 = .ok (.ireturn, 1) := by decide +kernel
theorem dX8_count_90 : decode cX8_count 90 = .ok (.aload_n 0, 1) := by decide +kernel
theorem dX8_count_91 : decode cX8_count 91 = .ok (.getfield 85, 3) := by decide +kernel
theorem dX8_count_94 : decode cX8_count 94 = .ok (.ireturn, 1) := by decide +kernel
theorem dX8_count_95 : decode cX8_count 95 = .ok (.iconst (-1), 1) := by decide +kernel
theorem dX8_count_96 : decode cX8_count 96 = .ok (.ireturn, 1) := by decide +kernel
theorem dJ6_bitCount_0f7a4_0 : decode cJ6_bitCount_0f7a4 0 = .ok (.iload_n 0, 1) := by decide +kernel
theorem dJ6_bitCount_0f7a4_1 : decode cJ6_bitCount_0f7a4 1 = .ok (.iload_n 0, 1) := by decide +kernel
theorem dJ6_bitCount_0f7a4_2 : decode cJ6_bitCount_0f7a4 2 = .ok (.iconst 1, 1) := by decide +kernel
theorem dJ6_bitCount_0f7a4_3 : decode cJ6_bitCount_0f7a4 3 = .ok (.iushr, 1) := by decide +kernel
theorem dJ6_bitCount_0f7a4_4 : decode cJ6_bitCount_0f7a4 4 = .ok (.ldc_w 265, 3) := by decide +kernel
theorem dJ6_bitCount_0f7a4_7 : decode cJ6_bitCount_0f7a4 7 = .ok (.iand, 1) := by decide +kernel
theorem dJ6_bitCount_0f7a4_8 : decode cJ6_bitCount_0f7a4 8 = .ok (.isub, 1) := by decide +kernel
theorem dJ6_bitCount_0f7a4_9 : decode cJ6_bitCount_0f7a4 9 = .ok (.istore_n 0, 1) := by decide +kernel
theorem dJ6_bitCount_0f7a4_10 : decode cJ6_bitCount_0f7a4 10 = .ok (.iload_n 0, 1) := by decide +kernel
theorem dJ6_bitCount_0f7a4_11 : decode cJ6_bitCount_0f7a4 11 = .ok (.ldc_w 266, 3) := by decide +kernel
theorem dJ6_bitCount_0f7a4_14 : decode cJ6_bitCount_0f7a4 14 = .ok (.iand, 1) := by decide +kernel
theorem dJ6_bitCount_0f7a4_15 : decode cJ6_bitCount_0f7a4 15 = .ok (.iload_n 0, 1) := by decide +kernel
theorem dJ6_bitCount_0f7a4_16 : decode cJ6_bitCount_0f7a4 16 = .ok (.iconst 2, 1) := by decide +kernel
theorem dJ6_bitCount_0f7a4_17 : decode cJ6_bitCount_0f7a4 17 = .ok (.iushr, 1) := by decide +kernel
theorem dJ6_bitCount_0f7a4_18 : decode cJ6_bitCount_0f7a4 18 = .ok (.ldc_w 266, 3) := by decide +kernel
theorem dJ6_bitCount_0f7a4_21 : decode cJ6_bitCount_0f7a4 21 = .ok (.iand, 1) := by decide +kernel
theorem dJ6_bitCount_0f7a4_22 : decode cJ6_bitCount_0f7a4 22 = .ok (.iadd, 1) := by decide +kernel
theorem dJ6_bitCount_0f7a4_23 : decode cJ6_bitCount_0f7a4 23 = .ok (.istore_n 0, 1) := by decide +kernel
theorem dJ6_bitCount_0f7a4_24 : decode cJ6_bitCount_0f7a4 24 = .ok (.iload_n 0, 1) := by decide +kernel
theorem dJ6_bitCount_0f7a4_25 : decode cJ6_bitCount_0f7a4 25 = .ok (.iload_n 0, 1) := by decide +kernel
theorem dJ6_bitCount_0f7a4_26 : decode cJ6_bitCount_0f7a4 26 = .ok (.iconst 4, 1) := by decide +kernel
theorem dJ6_bitCount_0f7a4_27 : decode cJ6_bitCount_0f7a4 27 = .ok (.iushr, 1) := by decide +kernel
theorem dJ6_bitCount_0f7a4_28 : decode cJ6_bitCount_0f7a4 28 = .ok (.iadd, 1) := by decide +kernel
theorem dJ6_bitCount_0f7a4_29 : decode cJ6_bitCount_0f7a4 29 = .ok (.ldc_w 267, 3) := by decide +kernel
theorem dJ6_bitCount_0f7a4_32 : decode cJ6_bitCount_0f7a4 32 = .ok (.iand, 1) := by decide +kernel
theorem dJ6_bitCount_0f7a4_33 : decode cJ6_bitCount_0f7a4 33 = .ok (.istore_n 0, 1) := by decide +kernel
theorem dJ6_bitCount_0f7a4_34 : decode cJ6_bitCount_0f7a4 34 = .ok (.iload_n 0, 1) := by decide +kernel
theorem dJ6_bitCount_0f7a4_35 : decode cJ6_bitCount_0f7a4 35 = .ok (.iload_n 0, 1) := by decide +kernel
theorem dJ6_bitCount_0f7a4_36 : decode cJ6_bitCount_0f7a4 36 = .ok (.bipush 8, 2) := by decide +kernel
theorem dJ6_bitCount_0f7a4_38 : decode cJ6_bitCount_0f7a4 38 = .ok (.iushr, 1) := by decide +kernel
theorem dJ6_bitCount_0f7a4_39 : decode cJ6_bitCount_0f7a4 39 = .ok (.iadd, 1) := by decide +kernel
theorem dJ6_bitCount_0f7a4_40 : decode cJ6_bitCount_0f7a4 40 = .ok (.istore_n 0, 1) := by decide +kernel
theorem dJ6_bitCount_0f7a4_41 : decode cJ6_bitCount_0f7a4 41 = .ok (.iload_n 0, 1) := by decide +kernel
theorem dJ6_bitCount_0f7a4_42 : decode cJ6_bitCount_0f7a4 42 = .ok (.iload_n 0, 1) := by decide +kernel
theorem dJ6_bitCount_0f7a4_43 : decode cJ6_bitCount_0f7a4 43 = .ok (.bipush 16, 2) := by decide +kernel
theorem dJ6_bitCount_0f7a4_45 : decode cJ6_bitCount_0f7a4 45 = .ok (.iushr, 1) := by decide +kernel
theorem dJ6_bitCount_0f7a4_46 : decode cJ6_bitCount_0f7a4 46 = .ok (.iadd, 1) := by decide +kernel
theorem dJ6_bitCount_0f7a4_47 : decode cJ6_bitCount_0f7a4 47 = .ok (.istore_n 0, 1) := by decide +kernel
theorem dJ6_bitCount_0f7a4_48 : decode cJ6_bitCount_0f7a4 48 = .ok (.iload_n 0, 1) := by decide +kernel
theorem dJ6_bitCount_0f7a4_49 : decode cJ6_bitCount_0f7a4 49 = .ok (.bipush 63, 2) := by decide +kernel
theorem dJ6_bitCount_0f7a4_51 : decode cJ6_bitCount_0f7a4 51 = .ok (.iand, 1) := by decide +kernel
theorem dJ6_bitCount_0f7a4_52 : decode cJ6_bitCount_0f7a4 52 = .ok (.ireturn, 1) := by decide +kernel
theorem dJ9_max_7cf53_0 : decode cJ9_max_7cf53 0 = .ok (.iload_n 0, 1) := by decide +kernel
theorem dJ9_max_7cf53_1 : decode cJ9_max_7cf53 1 = .ok (.iload_n 1, 1) := by decide +kernel
theorem dJ9_max_7cf53_2 : decode cJ9_max_7cf53 2 = .ok (.if_icmp .lt 7, 3) := by decide +kernel
theorem dJ9_max_7cf53_5 : decode cJ9_max_7cf53 5 = .ok (.iload_n 0, 1) := by decide +kernel
theorem dJ9_max_7cf53_6 : decode cJ9_max_7cf53 6 = .ok (.goto 4, 3) := by decide +kernel
theorem dJ9_max_7cf53_9 : decode cJ9_max_7cf53 9 = .ok (.iload_n 1, 1) := by decide +kernel
theorem dJ9_max_7cf53_10 : decode cJ9_max_7cf53 10 = .ok (.ireturn, 1) := by decide +kernel
theorem dJ9_min_7cf53_0 : decode cJ9_min_7cf53 0 = .ok (.iload_n 0, 1) := by decide +kernel
theorem dJ9_min_7cf53_1 : decode cJ9_min_7cf53 1 = .ok (.iload_n 1, 1) := by decide +kernel
theorem dJ9_min_7cf53_2 : decode cJ9_min_7cf53 2 = .ok (.if_icmp .gt 7, 3) := by decide +kernel
theorem dJ9_min_7cf53_5 : decode cJ9_min_7cf53 5 = .ok (.iload_n 0, 1) := by decide +kernel
theorem dJ9_min_7cf53_6 : decode cJ9_min_7cf53 6 = .ok (.goto 4, 3) := by decide +kernel
theorem dJ9_min_7cf53_9 : decode cJ9_min_7cf53 9 = .ok (.iload_n 1, 1) := by decide +kernel
theorem dJ9_min_7cf53_10 : decode cJ9_min_7cf53 10 = .ok (.ireturn, 1) := by decide +kernel
set_option maxRecDepth 20000 in
theorem ggJ0_length_8abf5_J0_coder_7d493 : GoodIn wsJ0_length_8abf5 wsJ0_coder_7d493 := goodIn_r _ [6, 7, 8] (by decide +kernel) (by decide +kernel)
set_option maxRecDepth 20000 in
theorem gJ0_length_8abf5_J0_coder_7d493 : GoodIn wsJ0_length_8abf5 (wsV RJ0 335 RJ0 yJ0_coder_7d493 wsJ0_coder_7d493) := goodIn_app (goodIn_of _ (by decide +kernel)) ggJ0_length_8abf5_J0_coder_7d493
theorem dJ0_length_8abf5_0 : decode cJ0_length_8abf5 0 = .ok (.aload_n 0, 1) := by decide +kernel
theorem dJ0_length_8abf5_1 : decode cJ0_length_8abf5 1 = .ok (.getfield 9, 3) := by decide +kernel
theorem dJ0_length_8abf5_4 : decode cJ0_length_8abf5 4 = .ok (.arraylength, 1) := by decide +kernel
theorem dJ0_length_8abf5_5 : decode cJ0_length_8abf5 5 = .ok (.aload_n 0, 1) := by decide +kernel
theorem dJ0_length_8abf5_6 : decode cJ0_length_8abf5 6 = .ok (.invokevirtual 335, 3) := by decide +kernel
theorem dJ0_length_8abf5_9 : decode cJ0_length_8abf5 9 = .ok (.ishr, 1) := by decide +kernel
theorem dJ0_length_8abf5_10 : decode cJ0_length_8abf5 10 = .ok (.ireturn, 1) := by decide +kernel
set_option maxRecDepth 20000 in
theorem ggJ0_charAt_5068e_J0_isLatin1_aae02 : GoodIn wsJ0_charAt_5068e wsJ0_isLatin1_aae02 := goodIn_r _ [6, 7, 8] (by decide +kernel) (by decide +kernel)
set_option maxRecDepth 20000 in
theorem gJ0_charAt_5068e_J0_isLatin1_aae02 : GoodIn wsJ0_charAt_5068e (wsV RJ0 492 RJ0 yJ0_isLatin1_aae02 wsJ0_isLatin1_aae02) := goodIn_app (goodIn_of _ (by decide +kernel)) ggJ0_charAt_5068e_J0_isLatin1_aae02
set_option maxRecDepth 20000 in
theorem ggJ0_charAt_5068e_J1_charAt_3b067 : GoodIn wsJ0_charAt_5068e wsJ1_charAt_3b067 := goodIn_r _ [12, 13, 14, 5, 15, 16, 17, 18, 19, 20] (by decide +kernel) (by decide +kernel)
set_option maxRecDepth 20000 in
theorem gJ0_charAt_5068e_J1_charAt_3b067 : GoodIn wsJ0_charAt_5068e (va_wsS RJ0 495 yJ1_charAt_3b067 wsJ1_charAt_3b067) := goodIn_app (goodIn_of _ (by decide +kernel)) ggJ0_charAt_5068e_J1_charAt_3b067
set_option maxRecDepth 20000 in
theorem ggJ0_charAt_5068e_J2_charAt_3b067 : GoodIn wsJ0_charAt_5068e wsJ2_charAt_3b067 := goodIn_r _ [24, 25, 26, 23, 27, 28, 29, 30, 31, 14, 5, 15, 16, 17, 18, 19, 20, 32, 33, 34, 35, 36, 37] (by decide +kernel) (by decide +kernel)
set_option maxRecDepth 20000 in
theorem gJ0_charAt_5068e_J2_charAt_3b067 : GoodIn wsJ0_charAt_5068e (va_wsS RJ0 498 yJ2_charAt_3b067 wsJ2_charAt_3b067) := goodIn_app (goodIn_of _ (by decide +kernel)) ggJ0_charAt_5068e_J2_charAt_3b067
theorem dJ0_charAt_5068e_0 : decode cJ0_charAt_5068e 0 = .ok (.aload_n 0, 1) := by decide +kernel
theorem dJ0_charAt_5068e_1 : decode cJ0_charAt_5068e 1 = .ok (.invokevirtual 492, 3) := by decide +kernel
theorem dJ0_charAt_5068e_4 : decode cJ0_charAt_5068e 4 = .ok (.ifCond .eq 12, 3) := by decide +kernel
theorem dJ0_charAt_5068e_7 : decode cJ0_charAt_5068e 7 = .ok (.aload_n 0, 1) := by decide +kernel
theorem dJ0_charAt_5068e_8 : decode cJ0_charAt_5068e 8 = .ok (.getfield 9, 3) := by decide +kernel
theorem dJ0_charAt_5068e_11 : decode cJ0_charAt_5068e 11 = .ok (.iload_n 1, 1) := by decide +kernel
theorem dJ0_charAt_5068e_12 : decode cJ0_charAt_5068e 12 = .ok (.invokestatic 495, 3) := by decide +kernel
theorem dJ0_charAt_5068e_15 : decode cJ0_charAt_5068e 15 = .ok (.ireturn, 1) := by decide +kernel
theorem dJ0_charAt_5068e_16 : decode cJ0_charAt_5068e 16 = .ok (.aload_n 0, 1) := by decide +kernel
theorem dJ0_charAt_5068e_17 : decode cJ0_charAt_5068e 17 = .ok (.getfield 9, 3) := by decide +kernel
theorem dJ0_charAt_5068e_20 : decode cJ0_charAt_5068e 20 = .ok (.iload_n 1, 1) := by decide +kernel
theorem dJ0_charAt_5068e_21 : decode cJ0_charAt_5068e 21 = .ok (.invokestatic 498, 3) := by decide +kernel
theorem dJ0_charAt_5068e_24 : decode cJ0_charAt_5068e 24 = .ok (.ireturn, 1) := by decide +kernel
theorem dJ0_coder_7d493_0 : decode cJ0_coder_7d493 0 = .ok (.getstatic 38, 3) := by decide +kernel
theorem dJ0_coder_7d493_3 : decode cJ0_coder_7d493 3 = .ok (.ifCond .eq 10, 3) := by decide +kernel
theorem dJ0_coder_7d493_6 : decode cJ0_coder_7d493 6 = .ok (.aload_n 0, 1) := by decide +kernel
theorem dJ0_coder_7d493_7 : decode cJ0_coder_7d493 7 = .ok (.getfield 15, 3) := by decide +kernel
theorem dJ0_coder_7d493_10 : decode cJ0_coder_7d493 10 = .ok (.goto 4, 3) := by decide +kernel
theorem dJ0_coder_7d493_13 : decode cJ0_coder_7d493 13 = .ok (.iconst 1, 1) := by decide +kernel
theorem dJ0_coder_7d493_14 : decode cJ0_coder_7d493 14 = .ok (.ireturn, 1) := by decide +kernel
theorem dJ0_isLatin1_aae02_0 : decode cJ0_isLatin1_aae02 0 = .ok (.getstatic 38, 3) := by decide +kernel
theorem dJ0_isLatin1_aae02_3 : decode cJ0_isLatin1_aae02 3 = .ok (.ifCond .eq 14, 3) := by decide +kernel
theorem dJ0_isLatin1_aae02_6 : decode cJ0_isLatin1_aae02 6 = .ok (.aload_n 0, 1) := by decide +kernel
theorem dJ0_isLatin1_aae02_7 : decode cJ0_isLatin1_aae02 7 = .ok (.getfield 15, 3) := by decide +kernel
theorem dJ0_isLatin1_aae02_10 : decode cJ0_isLatin1_aae02 10 = .ok (.ifCond .ne 7, 3) := by decide +kernel
theorem dJ0_isLatin1_aae02_13 : decode cJ0_isLatin1_aae02 13 = .ok (.iconst 1, 1) := by decide +kernel
theorem dJ0_isLatin1_aae02_14 : decode cJ0_isLatin1_aae02 14 = .ok (.goto 4, 3) := by decide +kernel
theorem dJ0_isLatin1_aae02_17 : decode cJ0_isLatin1_aae02 17 = .ok (.iconst 0, 1) := by decide +kernel
theorem dJ0_isLatin1_aae02_18 : decode cJ0_isLatin1_aae02 18 = .ok (.ireturn, 1) := by decide +kernel
set_option maxRecDepth 20000 in
theorem ggJ0_checkIndex_df160_J3_checkIndex_8e157 : GoodIn wsJ0_checkIndex_df160 wsJ3_checkIndex_8e157 := goodIn_r _ [5] (by decide +kernel) (by decide +kernel)
set_option maxRecDepth 20000 in
theorem gJ0_checkIndex_df160_J3_checkIndex_8e157 : GoodIn wsJ0_checkIndex_df160 (va_wsS RJ0 1059 yJ3_checkIndex_8e157 wsJ3_checkIndex_8e157) := goodIn_app (goodIn_of _ (by decide +kernel)) ggJ0_checkIndex_df160_J3_checkIndex_8e157
theorem dJ0_checkIndex_df160_0 : decode cJ0_checkIndex_df160 0 = .ok (.iload_n 0, 1) := by decide +kernel
theorem dJ0_checkIndex_df160_1 : decode cJ0_checkIndex_df160 1 = .ok (.iload_n 1, 1) := by decide +kernel
theorem dJ0_checkIndex_df160_2 : decode cJ0_checkIndex_df160 2 = .ok (.getstatic 1053, 3) := by decide +kernel
theorem dJ0_checkIndex_df160_5 : decode cJ0_checkIndex_df160 5 = .ok (.invokestatic 1059, 3) := by decide +kernel
theorem dJ0_checkIndex_df160_8 : decode cJ0_checkIndex_df160 8 = .ok (.pop, 1) := by decide +kernel
theorem dJ0_checkIndex_df160_9 : decode cJ0_checkIndex_df160 9 = .ok (.return_, 1) := by decide +kernel
set_option maxRecDepth 20000 in
theorem ggJ1_charAt_3b067_J0_checkIndex_df160 : GoodIn wsJ1_charAt_3b067 wsJ0_checkIndex_df160 := goodIn_r _ [4, 5, 6, 7, 8, 9] (by decide +kernel) (by decide +kernel)
set_option maxRecDepth 20000 in
theorem gJ1_charAt_3b067_J0_checkIndex_df160 : GoodIn wsJ1_charAt_3b067 (va_wsS RJ1 9 yJ0_checkIndex_df160 wsJ0_checkIndex_df160) := goodIn_app (goodIn_of _ (by decide +kernel)) ggJ1_charAt_3b067_J0_checkIndex_df160
theorem dJ1_charAt_3b067_0 : decode cJ1_charAt_3b067 0 = .ok (.iload_n 1, 1) := by decide +kernel
theorem dJ1_charAt_3b067_1 : decode cJ1_charAt_3b067 1 = .ok (.aload_n 0, 1) := by decide +kernel
theorem dJ1_charAt_3b067_2 : decode cJ1_charAt_3b067 2 = .ok (.arraylength, 1) := by decide +kernel
theorem dJ1_charAt_3b067_3 : decode cJ1_charAt_3b067 3 = .ok (.invokestatic 9, 3) := by decide +kernel
theorem dJ1_charAt_3b067_6 : decode cJ1_charAt_3b067 6 = .ok (.aload_n 0, 1) := by decide +kernel
theorem dJ1_charAt_3b067_7 : decode cJ1_charAt_3b067 7 = .ok (.iload_n 1, 1) := by decide +kernel
theorem dJ1_charAt_3b067_8 : decode cJ1_charAt_3b067 8 = .ok (.baload, 1) := by decide +kernel
theorem dJ1_charAt_3b067_9 : decode cJ1_charAt_3b067 9 = .ok (.sipush 255, 3) := by decide +kernel
theorem dJ1_charAt_3b067_12 : decode cJ1_charAt_3b067 12 = .ok (.iand, 1) := by decide +kernel
theorem dJ1_charAt_3b067_13 : decode cJ1_charAt_3b067 13 = .ok (.i2c, 1) := by decide +kernel
theorem dJ1_charAt_3b067_14 : decode cJ1_charAt_3b067 14 = .ok (.ireturn, 1) := by decide +kernel
set_option maxRecDepth 20000 in
theorem ggJ2_getChar_3b067_J2_length_9d52b : GoodIn wsJ2_getChar_3b067 wsJ2_length_9d52b := goodIn_r _ [7] (by decide +kernel) (by decide +kernel)
set_option maxRecDepth 20000 in
theorem gJ2_getChar_3b067_J2_length_9d52b : GoodIn wsJ2_getChar_3b067 (va_wsS RJ2 48 yJ2_length_9d52b wsJ2_length_9d52b) := goodIn_app (goodIn_of _ (by decide +kernel)) ggJ2_getChar_3b067_J2_length_9d52b
theorem dJ2_getChar_3b067_0 : decode cJ2_getChar_3b067 0 = .ok (.getstatic 44, 3) := by decide +kernel
theorem dJ2_getChar_3b067_3 : decode cJ2_getChar_3b067 3 = .ok (.ifCond .ne 25, 3) := by decide +kernel
theorem dJ2_getChar_3b067_6 : decode cJ2_getChar_3b067 6 = .ok (.iload_n 1, 1) := by decide +kernel
theorem dJ2_getChar_3b067_7 : decode cJ2_getChar_3b067 7 = .ok (.ifCond .lt 11, 3) := by decide +kernel
theorem dJ2_getChar_3b067_10 : decode cJ2_getChar_3b067 10 = .ok (.iload_n 1, 1) := by decide +kernel
theorem dJ2_getChar_3b067_11 : decode cJ2_getChar_3b067 11 = .ok (.aload_n 0, 1) := by decide +kernel
theorem dJ2_getChar_3b067_12 : decode cJ2_getChar_3b067 12 = .ok (.invokestatic 48, 3) := by decide +kernel
theorem dJ2_getChar_3b067_15 : decode cJ2_getChar_3b067 15 = .ok (.if_icmp .lt 13, 3) := by decide +kernel
theorem dJ2_getChar_3b067_18 : decode cJ2_getChar_3b067 18 = .ok (.new 52, 3) := by decide +kernel
theorem dJ2_getChar_3b067_21 : decode cJ2_getChar_3b067 21 = .ok (.dup, 1) := by decide +kernel
theorem dJ2_getChar_3b067_22 : decode cJ2_getChar_3b067 22 = .ok (.ldc 54, 2) := by decide +kernel
theorem dJ2_getChar_3b067_24 : decode cJ2_getChar_3b067 24 = .ok (.invokespecial 56, 3) := by decide +kernel
theorem dJ2_getChar_3b067_27 : decode cJ2_getChar_3b067 27 = .ok (.athrow, 1) := by decide +kernel
theorem dJ2_getChar_3b067_28 : decode cJ2_getChar_3b067 28 = .ok (.iload_n 1, 1) := by decide +kernel
theorem dJ2_getChar_3b067_29 : decode cJ2_getChar_3b067 29 = .ok (.iconst 1, 1) := by decide +kernel
theorem dJ2_getChar_3b067_30 : decode cJ2_getChar_3b067 30 = .ok (.ishl, 1) := by decide +kernel
theorem dJ2_getChar_3b067_31 : decode cJ2_getChar_3b067 31 = .ok (.istore_n 1, 1) := by decide +kernel
theorem dJ2_getChar_3b067_32 : decode cJ2_getChar_3b067 32 = .ok (.aload_n 0, 1) := by decide +kernel
theorem dJ2_getChar_3b067_33 : decode cJ2_getChar_3b067 33 = .ok (.iload_n 1, 1) := by decide +kernel
theorem dJ2_getChar_3b067_34 : decode cJ2_getChar_3b067 34 = .ok (.iinc 1 1, 3) := by decide +kernel
theorem dJ2_getChar_3b067_37 : decode cJ2_getChar_3b067 37 = .ok (.baload, 1) := by decide +kernel
theorem dJ2_getChar_3b067_38 : decode cJ2_getChar_3b067 38 = .ok (.sipush 255, 3) := by decide +kernel
theorem dJ2_getChar_3b067_41 : decode cJ2_getChar_3b067 41 = .ok (.iand, 1) := by decide +kernel
theorem dJ2_getChar_3b067_42 : decode cJ2_getChar_3b067 42 = .ok (.getstatic 59, 3) := by decide +kernel
theorem dJ2_getChar_3b067_45 : decode cJ2_getChar_3b067 45 = .ok (.ishl, 1) := by decide +kernel
theorem dJ2_getChar_3b067_46 : decode cJ2_getChar_3b067 46 = .ok (.aload_n 0, 1) := by decide +kernel
theorem dJ2_getChar_3b067_47 : decode cJ2_getChar_3b067 47 = .ok (.iload_n 1, 1) := by decide +kernel
theorem dJ2_getChar_3b067_48 : decode cJ2_getChar_3b067 48 = .ok (.baload, 1) := by decide +kernel
theorem dJ2_getChar_3b067_49 : decode cJ2_getChar_3b067 49 = .ok (.sipush 255, 3) := by decide +kernel
theorem dJ2_getChar_3b067_52 : decode cJ2_getChar_3b067 52 = .ok (.iand, 1) := by decide +kernel
theorem dJ2_getChar_3b067_53 : decode cJ2_getChar_3b067 53 = .ok (.getstatic 63, 3) := by decide +kernel
theorem dJ2_getChar_3b067_56 : decode cJ2_getChar_3b067 56 = .ok (.ishl, 1) := by decide +kernel
theorem dJ2_getChar_3b067_57 : decode cJ2_getChar_3b067 57 = .ok (.ior, 1) := by decide +kernel
theorem dJ2_getChar_3b067_58 : decode cJ2_getChar_3b067 58 = .ok (.i2c, 1) := by decide +kernel
theorem dJ2_getChar_3b067_59 : decode cJ2_getChar_3b067 59 = .ok (.ireturn, 1) := by decide +kernel
theorem dJ2_length_9d52b_0 : decode cJ2_length_9d52b 0 = .ok (.aload_n 0, 1) := by decide +kernel
theorem dJ2_length_9d52b_1 : decode cJ2_length_9d52b 1 = .ok (.arraylength, 1) := by decide +kernel
theorem dJ2_length_9d52b_2 : decode cJ2_length_9d52b 2 = .ok (.iconst 1, 1) := by decide +kernel
theorem dJ2_length_9d52b_3 : decode cJ2_length_9d52b 3 = .ok (.ishr, 1) := by decide +kernel
theorem dJ2_length_9d52b_4 : decode cJ2_length_9d52b 4 = .ok (.ireturn, 1) := by decide +kernel
set_option maxRecDepth 20000 in
theorem ggJ2_charAt_3b067_J2_checkIndex_2214a : GoodIn wsJ2_charAt_3b067 wsJ2_checkIndex_2214a := goodIn_r _ [4, 5, 6, 3, 7, 8, 9, 10, 11, 12, 13, 14, 15, 16] (by decide +kernel) (by decide +kernel)
set_option maxRecDepth 20000 in
theorem gJ2_charAt_3b067_J2_checkIndex_2214a : GoodIn wsJ2_charAt_3b067 (va_wsS RJ2 67 yJ2_checkIndex_2214a wsJ2_checkIndex_2214a) := goodIn_app (goodIn_of _ (by decide +kernel)) ggJ2_charAt_3b067_J2_checkIndex_2214a
set_option maxRecDepth 20000 in
theorem ggJ2_charAt_3b067_J2_getChar_3b067 : GoodIn wsJ2_charAt_3b067 wsJ2_getChar_3b067 := goodIn_r _ [19, 20, 21, 22, 5, 6, 3, 7] (by decide +kernel) (by decide +kernel)
set_option maxRecDepth 20000 in
theorem gJ2_charAt_3b067_J2_getChar_3b067 : GoodIn wsJ2_charAt_3b067 (va_wsS RJ2 71 yJ2_getChar_3b067 wsJ2_getChar_3b067) := goodIn_app (goodIn_of _ (by decide +kernel)) ggJ2_charAt_3b067_J2_getChar_3b067
theorem dJ2_charAt_3b067_0 : decode cJ2_charAt_3b067 0 = .ok (.iload_n 1, 1) := by decide +kernel
theorem dJ2_charAt_3b067_1 : decode cJ2_charAt_3b067 1 = .ok (.aload_n 0, 1) := by decide +kernel
theorem dJ2_charAt_3b067_2 : decode cJ2_charAt_3b067 2 = .ok (.invokestatic 67, 3) := by decide +kernel
theorem dJ2_charAt_3b067_5 : decode cJ2_charAt_3b067 5 = .ok (.aload_n 0, 1) := by decide +kernel
theorem dJ2_charAt_3b067_6 : decode cJ2_charAt_3b067 6 = .ok (.iload_n 1, 1) := by decide +kernel
theorem dJ2_charAt_3b067_7 : decode cJ2_charAt_3b067 7 = .ok (.invokestatic 71, 3) := by decide +kernel
theorem dJ2_charAt_3b067_10 : decode cJ2_charAt_3b067 10 = .ok (.ireturn, 1) := by decide +kernel
set_option maxRecDepth 20000 in
theorem ggJ2_checkIndex_2214a_J2_length_9d52b : GoodIn wsJ2_checkIndex_2214a wsJ2_length_9d52b := goodIn_r _ [4] (by decide +kernel) (by decide +kernel)
set_option maxRecDepth 20000 in
theorem gJ2_checkIndex_2214a_J2_length_9d52b : GoodIn wsJ2_checkIndex_2214a (va_wsS RJ2 48 yJ2_length_9d52b wsJ2_length_9d52b) := goodIn_app (goodIn_of _ (by decide +kernel)) ggJ2_checkIndex_2214a_J2_length_9d52b
set_option maxRecDepth 20000 in
theorem ggJ2_checkIndex_2214a_J0_checkIndex_df160 : GoodIn wsJ2_checkIndex_2214a wsJ0_checkIndex_df160 := goodIn_r _ [8, 9, 10, 11, 12, 13] (by decide +kernel) (by decide +kernel)
set_option maxRecDepth 20000 in
theorem gJ2_checkIndex_2214a_J0_checkIndex_df160 : GoodIn wsJ2_checkIndex_2214a (va_wsS RJ2 414 yJ0_checkIndex_df160 wsJ0_checkIndex_df160) := goodIn_app (goodIn_of _ (by decide +kernel)) ggJ2_checkIndex_2214a_J0_checkIndex_df160
theorem dJ2_checkIndex_2214a_0 : decode cJ2_checkIndex_2214a 0 = .ok (.iload_n 0, 1) := by decide +kernel
theorem dJ2_checkIndex_2214a_1 : decode cJ2_checkIndex_2214a 1 = .ok (.aload_n 1, 1) := by decide +kernel
theorem dJ2_checkIndex_2214a_2 : decode cJ2_checkIndex_2214a 2 = .ok (.invokestatic 48, 3) := by decide +kernel
theorem dJ2_checkIndex_2214a_5 : decode cJ2_checkIndex_2214a 5 = .ok (.invokestatic 414, 3) := by decide +kernel
theorem dJ2_checkIndex_2214a_8 : decode cJ2_checkIndex_2214a 8 = .ok (.return_, 1) := by decide +kernel
theorem dJ3_checkIndex_8e157_0 : decode cJ3_checkIndex_8e157 0 = .ok (.iload_n 0, 1) := by decide +kernel
theorem dJ3_checkIndex_8e157_1 : decode cJ3_checkIndex_8e157 1 = .ok (.ifCond .lt 8, 3) := by decide +kernel
theorem dJ3_checkIndex_8e157_4 : decode cJ3_checkIndex_8e157 4 = .ok (.iload_n 0, 1) := by decide +kernel
theorem dJ3_checkIndex_8e157_5 : decode cJ3_checkIndex_8e157 5 = .ok (.iload_n 1, 1) := by decide +kernel
theorem dJ3_checkIndex_8e157_6 : decode cJ3_checkIndex_8e157 6 = .ok (.if_icmp .lt 10, 3) := by decide +kernel
theorem dJ3_checkIndex_8e157_9 : decode cJ3_checkIndex_8e157 9 = .ok (.aload_n 2, 1) := by decide +kernel
theorem dJ3_checkIndex_8e157_10 : decode cJ3_checkIndex_8e157 10 = .ok (.iload_n 0, 1) := by decide +kernel
theorem dJ3_checkIndex_8e157_11 : decode cJ3_checkIndex_8e157 11 = .ok (.iload_n 1, 1) := by decide +kernel
theorem dJ3_checkIndex_8e157_12 : decode cJ3_checkIndex_8e157 12 = .ok (.invokestatic 95, 3) := by decide +kernel
theorem dJ3_checkIndex_8e157_15 : decode cJ3_checkIndex_8e157 15 = .ok (.athrow, 1) := by decide +kernel
theorem dJ3_checkIndex_8e157_16 : decode cJ3_checkIndex_8e157 16 = .ok (.iload_n 0, 1) := by decide +kernel
theorem dJ3_checkIndex_8e157_17 : decode cJ3_checkIndex_8e157 17 = .ok (.ireturn, 1) := by decide +kernel
set_option maxRecDepth 20000 in
theorem ggL_law_X7_init : GoodIn wsL_law wsX7_init := goodIn_r _ [8, 9, 10, 11, 12, 13, 14, 15, 16, 17, 18, 19, 20, 21, 22, 23, 24, 25, 26, 27, 28, 29, 30, 31, 32, 33, 34, 35, 36, 37, 38, 39, 40, 41, 42, 43, 44, 45, 46, 47, 48, 49, 50, 51, 52, 53, 54, 55, 56, 57, 58, 59, 60, 61, 62, 63, 64, 65, 66, 67, 68, 69, 70, 71, 72, 73, 74, 75, 76, 77, 78, 79, 80, 81, 82, 83, 84, 85, 86, 87, 88, 89, 90, 91, 92, 93, 94, 95, 96, 97, 98, 99, 100, 101, 102, 103, 104, 105, 106, 107, 108, 109, 110, 111, 112, 113, 114, 115, 116, 117, 118, 119, 120, 121, 122, 123, 124, 125, 126, 127, 128, 129, 130, 131, 132, 133, 134, 135, 136, 137, 138, 139, 140, 141, 142, 2, 143, 144, 145, 146, 147, 148, 149, 150, 151, 152, 153, 154, 155, 156, 157, 158, 159, 160, 161, 162, 163, 164, 165, 166, 167, 168, 169, 170, 171, 172, 173, 174, 175, 176, 177, 178, 179, 180, 181, 182, 183, 184, 185, 186, 187, 188, 189, 190, 191, 192, 193, 194, 195, 196, 197, 198, 199, 200, 201, 202, 203, 204, 205, 206, 207, 208, 209, 210, 211, 212, 213, 214, 215, 216, 217, 218, 219, 220, 221, 222, 223, 224, 225, 226, 227, 228, 229, 230, 231, 232, 233, 234, 235, 236, 237, 238, 239, 240, 241, 242, 243, 244, 245, 246, 247, 248, 249, 250, 251, 252, 253, 254, 255, 256, 257, 258, 259, 260, 261, 262, 263, 264, 265, 266, 267, 268, 269, 270, 271, 272, 273, 274, 275, 276, 277, 278, 279, 280, 281, 282, 283, 284, 285, 286, 287, 893, 894, 895, 896, 857, 858, 859, 860, 861, 862, 863, 864, 865, 866, 897, 898, 899, 900, 901, 902, 903, 904, 905, 906, 907, 908, 909, 910, 911, 912, 913, 914, 915, 916, 917, 918, 919, 920, 921, 922, 923, 924, 925, 926, 927, 928, 929, 930, 931, 932] (by decide +kernel) (by decide +kernel)
set_option maxRecDepth 20000 in
theorem gL_law_X7_init : GoodIn wsL_law (wsX7_init) := ggL_law_X7_init
set_option maxRecDepth 20000 in
theorem ggL_law_X8_init : GoodIn wsL_law wsX8_init := goodIn_r _ [290, 291, 10, 11, 47, 292, 293, 294, 295, 296, 297, 298, 299, 300, 301, 64, 302, 303, 304, 305, 306, 307, 308, 309, 310, 311, 5, 312, 313, 314, 315, 316, 317, 318, 319, 320, 321, 322, 323, 324, 867, 868, 869, 870, 871, 872, 873, 874, 875, 876, 877, 878, 879, 880, 881, 882, 883, 884, 885, 886, 887, 888, 889, 890, 891, 892] (by decide +kernel) (by decide +kernel)
set_option maxRecDepth 20000 in
theorem gL_law_X8_init : GoodIn wsL_law (wsX8_init) := ggL_law_X8_init
set_option maxRecDepth 20000 in
theorem ggL_law_X7_write : GoodIn wsL_law wsX7_write := goodIn_r _ [328, 15, 43, 135, 136, 137, 14, 138, 139, 48, 857, 858, 859, 860, 861, 862, 863, 864, 865, 866, 893, 894, 895, 896] (by decide +kernel) (by decide +kernel)
set_option maxRecDepth 20000 in
theorem gL_law_X7_write : GoodIn wsL_law (wsV RL 13 RX7 yX7_write wsX7_write) := goodIn_app (goodIn_of _ (by decide +kernel)) ggL_law_X7_write
set_option maxRecDepth 20000 in
theorem ggL_law_X8_write : GoodIn wsL_law wsX8_write := goodIn_r _ [332, 333, 292, 867, 868, 869, 870, 871, 872, 873, 874, 875, 876, 877, 878, 879, 880, 881, 882, 883, 884, 885, 886, 887, 888, 889, 890, 891, 892] (by decide +kernel) (by decide +kernel)
set_option maxRecDepth 20000 in
theorem gL_law_X8_write : GoodIn wsL_law (wsV RL 17 RX8 yX8_write wsX8_write) := goodIn_app (goodIn_of _ (by decide +kernel)) ggL_law_X8_write
set_option maxRecDepth 20000 in
theorem ggL_law_X7_wipe : GoodIn wsL_law wsX7_wipe := goodIn_r _ [337, 15, 43, 857, 858, 859, 860, 861, 862, 863, 864, 865, 866, 893, 894, 895, 896] (by decide +kernel) (by decide +kernel)
set_option maxRecDepth 20000 in
theorem gL_law_X7_wipe : GoodIn wsL_law (wsV RL 18 RX7 yX7_wipe wsX7_wipe) := goodIn_app (goodIn_of _ (by decide +kernel)) ggL_law_X7_wipe
set_option maxRecDepth 20000 in
theorem ggL_law_X8_wipe : GoodIn wsL_law wsX8_wipe := goodIn_r _ [341, 333, 867, 868, 869, 870, 871, 872, 873, 874, 875, 876, 877, 878, 879, 880, 881, 882, 883, 884, 885, 886, 887, 888, 889, 890, 891, 892] (by decide +kernel) (by decide +kernel)
set_option maxRecDepth 20000 in
theorem gL_law_X8_wipe : GoodIn wsL_law (wsV RL 22 RX8 yX8_wipe wsX8_wipe) := goodIn_app (goodIn_of _ (by decide +kernel)) ggL_law_X8_wipe
set_option maxRecDepth 20000 in
theorem ggL_law_X7_fault : GoodIn wsL_law wsX7_fault := goodIn_r _ [345, 15, 41, 42, 145, 146, 147, 14, 148, 149, 139, 150, 151, 152, 38, 153, 154, 155, 82, 83, 80, 81, 156, 157, 158, 159, 160, 161, 162, 163, 164, 165, 166, 34, 167, 59, 60, 168, 169, 170, 171, 172, 173, 174, 175, 176, 177, 178, 179, 180, 181, 182, 183, 184, 185, 186, 187, 188, 189, 190, 48, 191, 192, 193, 194, 195, 196, 197, 198, 49, 199, 200, 201, 202, 203, 204, 205, 206, 207, 208, 209, 210, 211, 212, 213, 214, 215, 216, 217, 218, 219, 220, 221, 222, 223, 224, 225, 226, 227, 228, 229, 230, 231, 232, 233, 234, 235, 236, 237, 238, 2, 239, 240, 241, 242, 243, 244, 857, 858, 859, 860, 861, 862, 863, 864, 865, 866, 893, 894, 895, 896, 921, 922, 923, 924, 925, 926, 927, 928, 929, 930, 931, 932, 911, 912, 913, 914, 915, 916, 917, 918, 919, 920] (by decide +kernel) (by decide +kernel)
set_option maxRecDepth 20000 in
theorem gL_law_X7_fault : GoodIn wsL_law (wsV RL 23 RX7 yX7_fault wsX7_fault) := goodIn_app (goodIn_of _ (by decide +kernel)) ggL_law_X7_fault
set_option maxRecDepth 20000 in
theorem ggL_law_X8_fault : GoodIn wsL_law wsX8_fault := goodIn_r _ [349, 350, 351, 352, 5, 353, 333, 292, 354, 309, 310, 311, 312, 308, 313, 297, 299, 298, 355, 356, 357, 358, 359, 360, 361, 362, 363, 364, 365, 366, 367, 368, 369, 370, 371, 372, 373, 374, 375, 376, 377, 378, 314, 315, 316, 317, 379, 380, 381, 382, 383, 384, 385, 386, 387, 388, 389, 390, 391, 392, 393, 867, 868, 869, 870, 871, 872, 873, 874, 875, 876, 877, 878, 879, 880, 881, 882, 883, 884, 885, 886, 887, 888, 889, 890, 891, 892] (by decide +kernel) (by decide +kernel)
set_option maxRecDepth 20000 in
theorem gL_law_X8_fault : GoodIn wsL_law (wsV RL 26 RX8 yX8_fault wsX8_fault) := goodIn_app (goodIn_of _ (by decide +kernel)) ggL_law_X8_fault
set_option maxRecDepth 20000 in
theorem ggL_law_X7_lay : GoodIn wsL_law wsX7_lay := goodIn_r _ [397, 39, 398, 140, 141, 142, 2, 143, 15, 41, 42, 40, 19, 144, 23, 145, 146, 147, 14, 148, 149, 139, 150, 151, 152, 38, 153, 154, 155, 82, 83, 80, 81, 156, 157, 158, 159, 160, 161, 162, 163, 164, 165, 166, 34, 167, 59, 60, 168, 169, 170, 171, 172, 173, 174, 175, 176, 177, 178, 179, 180, 181, 182, 183, 184, 185, 186, 187, 188, 189, 190, 48, 191, 192, 193, 194, 195, 196, 197, 198, 49, 199, 200, 201, 202, 203, 204, 205, 206, 207, 208, 209, 210, 211, 212, 213, 214, 215, 216, 217, 218, 219, 220, 221, 222, 223, 224, 225, 226, 227, 228, 229, 230, 231, 232, 233, 234, 235, 236, 237, 238, 239, 240, 241, 242, 243, 244, 245, 246, 247, 248, 249, 250, 251, 252, 253, 254, 255, 256, 84, 257, 258, 259, 260, 85, 261, 262, 263, 264, 265, 266, 267, 268, 269, 270, 271, 272, 273, 274, 275, 276, 277, 278, 279, 280, 22, 281, 282, 283, 65, 284, 285, 286, 287, 857, 858, 859, 860, 861, 862, 863, 864, 865, 866, 921, 922, 923, 924, 925, 926, 927, 928, 929, 930, 931, 932, 897, 898, 899, 893, 894, 895, 896, 911, 912, 913, 914, 915, 916, 917, 918, 919, 920, 900, 901, 902, 903, 904, 905] (by decide +kernel) (by decide +kernel)
set_option maxRecDepth 20000 in
theorem gL_law_X7_lay : GoodIn wsL_law (wsV RL 27 RX7 yX7_lay wsX7_lay) := goodIn_app (goodIn_of _ (by decide +kernel)) ggL_law_X7_lay
set_option maxRecDepth 20000 in
theorem ggL_law_X8_lay : GoodIn wsL_law wsX8_lay := goodIn_r _ [402, 322, 350, 351, 352, 5, 353, 333, 292, 354, 309, 310, 311, 312, 308, 313, 297, 299, 298, 355, 356, 357, 358, 359, 360, 361, 362, 363, 364, 365, 366, 367, 368, 369, 370, 371, 372, 373, 374, 375, 376, 377, 378, 314, 315, 316, 317, 379, 380, 381, 382, 383, 384, 385, 386, 387, 388, 389, 390, 391, 392, 393, 403, 404, 405, 406, 318, 319, 320, 321, 323, 293, 295, 294, 324, 867, 868, 869, 870, 871, 872, 873, 874, 875, 876, 877, 878, 879, 880, 881, 882, 883, 884, 885, 886, 887, 888, 889, 890, 891, 892] (by decide +kernel) (by decide +kernel)
set_option maxRecDepth 20000 in
theorem gL_law_X8_lay : GoodIn wsL_law (wsV RL 30 RX8 yX8_lay wsX8_lay) := goodIn_app (goodIn_of _ (by decide +kernel)) ggL_law_X8_lay
set_option maxRecDepth 20000 in
theorem ggL_law_X7_set : GoodIn wsL_law wsX7_set := goodIn_r _ [410, 40, 411, 412, 19, 23, 39, 413, 414, 415, 2, 416, 398, 417, 418, 419, 18, 420, 55, 421, 422, 423, 250, 251, 252, 424, 425, 426, 34, 427, 59, 428, 429, 430, 431, 60, 168, 169, 170, 177, 178, 179, 171, 172, 278, 279, 280, 22, 281, 282, 283, 65, 284, 285, 286, 287, 432, 174, 175, 176, 857, 858, 859, 860, 861, 862, 863, 864, 865, 866, 911, 912, 913, 914, 915, 916, 917, 918, 919, 920, 921, 922, 923, 924, 925, 926, 927, 928, 929, 930, 931, 932, 897, 898, 899, 900, 901, 902, 903, 904, 905] (by decide +kernel) (by decide +kernel)
set_option maxRecDepth 20000 in
theorem gL_law_X7_set : GoodIn wsL_law (wsV RL 31 RX7 yX7_set wsX7_set) := goodIn_app (goodIn_of _ (by decide +kernel)) ggL_law_X7_set
set_option maxRecDepth 20000 in
theorem ggL_law_X8_set : GoodIn wsL_law wsX8_set := goodIn_r _ [436, 295, 437, 438, 439, 5, 440, 322, 368, 369, 370, 441, 442, 443, 444, 324, 296, 445, 446, 447, 867, 868, 869, 870, 871, 872, 873, 874, 875, 876, 877, 878, 879, 880, 881, 882, 883, 884, 885, 886, 887, 888, 889, 890, 891, 892] (by decide +kernel) (by decide +kernel)
set_option maxRecDepth 20000 in
theorem gL_law_X8_set : GoodIn wsL_law (wsV RL 35 RX8 yX8_set wsX8_set) := goodIn_app (goodIn_of _ (by decide +kernel)) ggL_law_X8_set
set_option maxRecDepth 20000 in
theorem ggL_law_X7_law : GoodIn wsL_law wsX7_law := goodIn_r _ [451, 40, 452, 453, 19, 454, 238, 2, 239, 417, 418, 419, 18, 420, 55, 421, 422, 423, 250, 251, 252, 424, 425, 426, 34, 427, 59, 428, 429, 430, 431, 60, 168, 169, 170, 177, 178, 179, 171, 172, 432, 174, 175, 176, 857, 858, 859, 860, 861, 862, 863, 864, 865, 866, 911, 912, 913, 914, 915, 916, 917, 918, 919, 920, 897, 898, 899] (by decide +kernel) (by decide +kernel)
set_option maxRecDepth 20000 in
theorem gL_law_X7_law : GoodIn wsL_law (wsV RL 36 RX7 yX7_law wsX7_law) := goodIn_app (goodIn_of _ (by decide +kernel)) ggL_law_X7_law
set_option maxRecDepth 20000 in
theorem ggL_law_X8_law : GoodIn wsL_law wsX8_law := goodIn_r _ [458, 295, 387, 388, 5, 389, 368, 369, 370, 441, 442, 443, 444, 324, 296, 445, 446, 447, 867, 868, 869, 870, 871, 872, 873, 874, 875, 876, 877, 878, 879, 880, 881, 882, 883, 884, 885, 886, 887, 888, 889, 890, 891, 892] (by decide +kernel) (by decide +kernel)
set_option maxRecDepth 20000 in
theorem gL_law_X8_law : GoodIn wsL_law (wsV RL 40 RX8 yX8_law wsX8_law) := goodIn_app (goodIn_of _ (by decide +kernel)) ggL_law_X8_law
set_option maxRecDepth 20000 in
theorem ggL_law_X7_give : GoodIn wsL_law wsX7_give := goodIn_r _ [462, 23, 39, 19, 40, 398, 412, 463, 464, 465, 466, 22, 467, 287, 67, 283, 468, 469, 470, 471, 472, 65, 473, 474, 475, 476, 2, 477, 478, 479, 480, 481, 286, 482, 483, 484, 485, 486, 66, 487, 429, 430, 431, 488, 489, 490, 491, 492, 493, 494, 495, 496, 497, 251, 498, 417, 418, 419, 18, 420, 55, 421, 422, 423, 250, 252, 424, 425, 426, 34, 427, 59, 428, 60, 168, 169, 170, 177, 178, 179, 171, 172, 432, 174, 175, 176, 857, 858, 859, 860, 861, 862, 863, 864, 865, 866, 921, 922, 923, 924, 925, 926, 927, 928, 929, 930, 931, 932, 911, 912, 913, 914, 915, 916, 917, 918, 919, 920, 900, 901, 902, 903, 904, 905, 897, 898, 899] (by decide +kernel) (by decide +kernel)
set_option maxRecDepth 20000 in
theorem gL_law_X7_give : GoodIn wsL_law (wsV RL 41 RX7 yX7_give wsX7_give) := goodIn_app (goodIn_of _ (by decide +kernel)) ggL_law_X7_give
set_option maxRecDepth 20000 in
theorem ggL_law_X8_give : GoodIn wsL_law wsX8_give := goodIn_r _ [502, 322, 295, 305, 503, 504, 505, 5, 506, 304, 507, 508, 509, 510, 303, 293, 302, 511, 512, 513, 514, 515, 516, 517, 518, 519, 520, 521, 522, 523, 294, 524, 525, 526, 527, 528, 529, 530, 531, 532, 533, 534, 535, 441, 442, 443, 444, 324, 296, 445, 446, 447, 867, 868, 869, 870, 871, 872, 873, 874, 875, 876, 877, 878, 879, 880, 881, 882, 883, 884, 885, 886, 887, 888, 889, 890, 891, 892] (by decide +kernel) (by decide +kernel)
set_option maxRecDepth 20000 in
theorem gL_law_X8_give : GoodIn wsL_law (wsV RL 44 RX8 yX8_give wsX8_give) := goodIn_app (goodIn_of _ (by decide +kernel)) ggL_law_X8_give
set_option maxRecDepth 20000 in
theorem ggL_law_X7_undo : GoodIn wsL_law wsX7_undo := goodIn_r _ [539, 19, 40, 23, 39, 144, 540, 541, 542, 18, 543, 422, 421, 55, 424, 425, 426, 34, 427, 59, 428, 429, 430, 431, 60, 168, 169, 170, 177, 178, 179, 171, 172, 278, 279, 280, 22, 281, 282, 283, 65, 284, 285, 286, 287, 857, 858, 859, 860, 861, 862, 863, 864, 865, 866, 897, 898, 899, 911, 912, 913, 914, 915, 916, 917, 918, 919, 920, 900, 901, 902, 903, 904, 905, 921, 922, 923, 924, 925, 926, 927, 928, 929, 930, 931, 932] (by decide +kernel) (by decide +kernel)
set_option maxRecDepth 20000 in
theorem gL_law_X7_undo : GoodIn wsL_law (wsV RL 45 RX7 yX7_undo wsX7_undo) := goodIn_app (goodIn_of _ (by decide +kernel)) ggL_law_X7_undo
set_option maxRecDepth 20000 in
theorem ggL_law_X8_undo : GoodIn wsL_law wsX8_undo := goodIn_r _ [547, 324, 295, 296, 867, 868, 869, 870, 871, 872, 873, 874, 875, 876, 877, 878, 879, 880, 881, 882, 883, 884, 885, 886, 887, 888, 889, 890, 891, 892] (by decide +kernel) (by decide +kernel)
set_option maxRecDepth 20000 in
theorem gL_law_X8_undo : GoodIn wsL_law (wsV RL 48 RX8 yX8_undo wsX8_undo) := goodIn_app (goodIn_of _ (by decide +kernel)) ggL_law_X8_undo
set_option maxRecDepth 20000 in
theorem ggL_law_X7_cell : GoodIn wsL_law wsX7_cell := goodIn_r _ [551, 40, 411, 412, 39, 552, 553, 398, 413, 414, 415, 2, 416, 554, 476, 477, 857, 858, 859, 860, 861, 862, 863, 864, 865, 866, 911, 912, 913, 914, 915, 916, 917, 918, 919, 920, 921, 922, 923, 924, 925, 926, 927, 928, 929, 930, 931, 932] (by decide +kernel) (by decide +kernel)
set_option maxRecDepth 20000 in
theorem gL_law_X7_cell : GoodIn wsL_law (wsV RL 49 RX7 yX7_cell wsX7_cell) := goodIn_app (goodIn_of _ (by decide +kernel)) ggL_law_X7_cell
set_option maxRecDepth 20000 in
theorem ggL_law_X8_cell : GoodIn wsL_law wsX8_cell := goodIn_r _ [558, 295, 437, 438, 439, 5, 440, 322, 368, 369, 370, 528, 529, 530, 531, 511, 512, 513, 514, 293, 559, 560, 561, 562, 563, 564, 565, 566, 867, 868, 869, 870, 871, 872, 873, 874, 875, 876, 877, 878, 879, 880, 881, 882, 883, 884, 885, 886, 887, 888, 889, 890, 891, 892] (by decide +kernel) (by decide +kernel)
set_option maxRecDepth 20000 in
theorem gL_law_X8_cell : GoodIn wsL_law (wsV RL 52 RX8 yX8_cell wsX8_cell) := goodIn_app (goodIn_of _ (by decide +kernel)) ggL_law_X8_cell
set_option maxRecDepth 20000 in
theorem ggL_law_X7_weight : GoodIn wsL_law wsX7_weight := goodIn_r _ [570, 39, 571, 413, 414, 415, 2, 416, 398, 857, 858, 859, 860, 861, 862, 863, 864, 865, 866, 921, 922, 923, 924, 925, 926, 927, 928, 929, 930, 931, 932] (by decide +kernel) (by decide +kernel)
set_option maxRecDepth 20000 in
theorem gL_law_X7_weight : GoodIn wsL_law (wsV RL 53 RX7 yX7_weight wsX7_weight) := goodIn_app (goodIn_of _ (by decide +kernel)) ggL_law_X7_weight
set_option maxRecDepth 20000 in
theorem ggL_law_X8_weight : GoodIn wsL_law wsX8_weight := goodIn_r _ [575, 293, 437, 438, 439, 5, 440, 322, 368, 369, 370, 867, 868, 869, 870, 871, 872, 873, 874, 875, 876, 877, 878, 879, 880, 881, 882, 883, 884, 885, 886, 887, 888, 889, 890, 891, 892] (by decide +kernel) (by decide +kernel)
set_option maxRecDepth 20000 in
theorem gL_law_X8_weight : GoodIn wsL_law (wsV RL 56 RX8 yX8_weight wsX8_weight) := goodIn_app (goodIn_of _ (by decide +kernel)) ggL_law_X8_weight
set_option maxRecDepth 20000 in
theorem ggL_law_X7_wide : GoodIn wsL_law wsX7_wide := goodIn_r _ [579, 39, 580, 413, 414, 415, 2, 416, 398, 857, 858, 859, 860, 861, 862, 863, 864, 865, 866, 921, 922, 923, 924, 925, 926, 927, 928, 929, 930, 931, 932] (by decide +kernel) (by decide +kernel)
set_option maxRecDepth 20000 in
theorem gL_law_X7_wide : GoodIn wsL_law (wsV RL 57 RX7 yX7_wide wsX7_wide) := goodIn_app (goodIn_of _ (by decide +kernel)) ggL_law_X7_wide
set_option maxRecDepth 20000 in
theorem ggL_law_X8_wide : GoodIn wsL_law wsX8_wide := goodIn_r _ [584, 437, 438, 439, 5, 440, 322, 368, 369, 370, 585, 586, 587, 588, 559, 560, 561, 562, 293, 867, 868, 869, 870, 871, 872, 873, 874, 875, 876, 877, 878, 879, 880, 881, 882, 883, 884, 885, 886, 887, 888, 889, 890, 891, 892] (by decide +kernel) (by decide +kernel)
set_option maxRecDepth 20000 in
theorem gL_law_X8_wide : GoodIn wsL_law (wsV RL 60 RX8 yX8_wide wsX8_wide) := goodIn_app (goodIn_of _ (by decide +kernel)) ggL_law_X8_wide
set_option maxRecDepth 20000 in
theorem ggL_law_X7_tick : GoodIn wsL_law wsX7_tick := goodIn_r _ [592, 40, 39, 19, 413, 414, 415, 2, 416, 398, 593, 594, 595, 34, 596, 170, 59, 597, 276, 277, 417, 418, 419, 18, 420, 55, 421, 422, 423, 250, 251, 252, 424, 425, 426, 427, 428, 429, 430, 431, 60, 168, 169, 177, 178, 179, 171, 172, 598, 599, 600, 601, 602, 603, 604, 605, 606, 607, 608, 609, 610, 173, 174, 175, 176, 857, 858, 859, 860, 861, 862, 863, 864, 865, 866, 921, 922, 923, 924, 925, 926, 927, 928, 929, 930, 931, 932, 911, 912, 913, 914, 915, 916, 917, 918, 919, 920, 897, 898, 899] (by decide +kernel) (by decide +kernel)
set_option maxRecDepth 20000 in
theorem gL_law_X7_tick : GoodIn wsL_law (wsV RL 61 RX7 yX7_tick wsX7_tick) := goodIn_app (goodIn_of _ (by decide +kernel)) ggL_law_X7_tick
set_option maxRecDepth 20000 in
theorem ggL_law_X8_tick : GoodIn wsL_law wsX8_tick := goodIn_r _ [614, 295, 293, 437, 438, 439, 5, 440, 322, 368, 369, 370, 441, 442, 443, 444, 324, 296, 615, 616, 617, 618, 619, 620, 621, 622, 585, 586, 587, 588, 559, 560, 561, 562, 445, 446, 447, 867, 868, 869, 870, 871, 872, 873, 874, 875, 876, 877, 878, 879, 880, 881, 882, 883, 884, 885, 886, 887, 888, 889, 890, 891, 892] (by decide +kernel) (by decide +kernel)
set_option maxRecDepth 20000 in
theorem gL_law_X8_tick : GoodIn wsL_law (wsV RL 64 RX8 yX8_tick wsX8_tick) := goodIn_app (goodIn_of _ (by decide +kernel)) ggL_law_X8_tick
set_option maxRecDepth 20000 in
theorem ggL_law_X7_page : GoodIn wsL_law wsX7_page := goodIn_r _ [626, 31, 627, 40, 628, 19, 629, 630, 631, 632, 2, 633, 27, 39, 23, 634, 635, 636, 637, 638, 26, 639, 640, 641, 642, 250, 251, 252, 71, 643, 644, 645, 646, 647, 648, 649, 650, 607, 608, 34, 609, 168, 60, 177, 610, 169, 651, 652, 653, 654, 655, 656, 657, 658, 659, 276, 277, 660, 661, 662, 663, 664, 665, 666, 667, 30, 668, 669, 75, 670, 671, 672, 673, 674, 675, 676, 677, 262, 263, 264, 265, 266, 267, 678, 679, 680, 681, 682, 683, 684, 685, 686, 687, 688, 689, 690, 691, 417, 418, 419, 18, 420, 55, 421, 422, 423, 424, 425, 426, 427, 59, 428, 429, 430, 431, 170, 178, 179, 171, 172, 432, 174, 175, 176, 857, 858, 859, 860, 861, 862, 863, 864, 865, 866, 907, 908, 909, 910, 911, 912, 913, 914, 915, 916, 917, 918, 919, 920, 900, 901, 902, 903, 904, 905, 921, 922, 923, 924, 925, 926, 927, 928, 929, 930, 931, 932, 906, 897, 898, 899] (by decide +kernel) (by decide +kernel)
set_option maxRecDepth 20000 in
theorem gL_law_X7_page : GoodIn wsL_law (wsV RL 65 RX7 yX7_page wsX7_page) := goodIn_app (goodIn_of _ (by decide +kernel)) ggL_law_X7_page
set_option maxRecDepth 20000 in
theorem ggL_law_X8_page : GoodIn wsL_law wsX8_page := goodIn_r _ [695, 306, 295, 696, 697, 698, 699, 5, 700, 701, 294, 702, 703, 704, 705, 322, 302, 706, 707, 708, 709, 300, 301, 710, 711, 712, 713, 585, 586, 587, 588, 559, 560, 561, 562, 293, 507, 508, 509, 510, 303, 511, 512, 513, 514, 515, 516, 517, 518, 528, 529, 530, 531, 714, 715, 716, 717, 718, 719, 720, 721, 722, 723, 441, 442, 443, 444, 324, 296, 445, 446, 447, 867, 868, 869, 870, 871, 872, 873, 874, 875, 876, 877, 878, 879, 880, 881, 882, 883, 884, 885, 886, 887, 888, 889, 890, 891, 892] (by decide +kernel) (by decide +kernel)
set_option maxRecDepth 20000 in
theorem gL_law_X8_page : GoodIn wsL_law (wsV RL 68 RX8 yX8_page wsX8_page) := goodIn_app (goodIn_of _ (by decide +kernel)) ggL_law_X8_page
set_option maxRecDepth 20000 in
theorem ggL_law_X7_handset : GoodIn wsL_law wsX7_handset := goodIn_r _ [727, 40, 628, 728, 729, 730, 731, 629, 39, 732, 733, 857, 858, 859, 860, 861, 862, 863, 864, 865, 866, 911, 912, 913, 914, 915, 916, 917, 918, 919, 920, 921, 922, 923, 924, 925, 926, 927, 928, 929, 930, 931, 932] (by decide +kernel) (by decide +kernel)
set_option maxRecDepth 20000 in
theorem gL_law_X7_handset : GoodIn wsL_law (wsV RL 69 RX7 yX7_handset wsX7_handset) := goodIn_app (goodIn_of _ (by decide +kernel)) ggL_law_X7_handset
set_option maxRecDepth 20000 in
theorem ggL_law_X8_handset : GoodIn wsL_law wsX8_handset := goodIn_r _ [737, 295, 294, 368, 369, 5, 370, 867, 868, 869, 870, 871, 872, 873, 874, 875, 876, 877, 878, 879, 880, 881, 882, 883, 884, 885, 886, 887, 888, 889, 890, 891, 892] (by decide +kernel) (by decide +kernel)
set_option maxRecDepth 20000 in
theorem gL_law_X8_handset : GoodIn wsL_law (wsV RL 72 RX8 yX8_handset wsX8_handset) := goodIn_app (goodIn_of _ (by decide +kernel)) ggL_law_X8_handset
set_option maxRecDepth 20000 in
theorem ggL_law_X7_where : GoodIn wsL_law wsX7_where := goodIn_r _ [741, 27, 39, 40, 636, 637, 638, 26, 639, 640, 641, 642, 250, 251, 252, 71, 643, 644, 645, 646, 647, 648, 649, 650, 607, 608, 34, 609, 168, 60, 177, 610, 169, 651, 652, 653, 654, 655, 656, 657, 658, 659, 276, 2, 277, 660, 661, 662, 663, 664, 857, 858, 859, 860, 861, 862, 863, 864, 865, 866, 911, 912, 913, 914, 915, 916, 917, 918, 919, 920, 906, 921, 922, 923, 924, 925, 926, 927, 928, 929, 930, 931, 932] (by decide +kernel) (by decide +kernel)
set_option maxRecDepth 20000 in
theorem gL_law_X7_where : GoodIn wsL_law (wsV RL 73 RX7 yX7_where wsX7_where) := goodIn_app (goodIn_of _ (by decide +kernel)) ggL_law_X7_where
set_option maxRecDepth 20000 in
theorem ggL_law_X8_where : GoodIn wsL_law wsX8_where := goodIn_r _ [745, 706, 707, 708, 5, 709, 295, 300, 301, 322, 710, 711, 712, 713, 585, 586, 587, 588, 559, 560, 561, 562, 293, 867, 868, 869, 870, 871, 872, 873, 874, 875, 876, 877, 878, 879, 880, 881, 882, 883, 884, 885, 886, 887, 888, 889, 890, 891, 892] (by decide +kernel) (by decide +kernel)
set_option maxRecDepth 20000 in
theorem gL_law_X8_where : GoodIn wsL_law (wsV RL 76 RX8 yX8_where wsX8_where) := goodIn_app (goodIn_of _ (by decide +kernel)) ggL_law_X8_where
set_option maxRecDepth 20000 in
theorem ggL_law_X7_round : GoodIn wsL_law wsX7_round := goodIn_r _ [749, 31, 627, 630, 631, 632, 2, 633, 27, 39, 40, 23, 634, 635, 636, 637, 638, 26, 639, 640, 641, 642, 250, 251, 252, 71, 643, 644, 645, 646, 647, 648, 649, 650, 607, 608, 34, 609, 168, 60, 177, 610, 169, 651, 652, 653, 654, 655, 656, 657, 658, 659, 276, 277, 660, 661, 662, 663, 664, 665, 666, 667, 30, 668, 669, 75, 670, 671, 672, 673, 674, 675, 676, 677, 262, 263, 264, 265, 266, 267, 678, 679, 680, 681, 682, 683, 684, 685, 686, 687, 688, 689, 857, 858, 859, 860, 861, 862, 863, 864, 865, 866, 907, 908, 909, 910, 900, 901, 902, 903, 904, 905, 921, 922, 923, 924, 925, 926, 927, 928, 929, 930, 931, 932, 911, 912, 913, 914, 915, 916, 917, 918, 919, 920, 906] (by decide +kernel) (by decide +kernel)
set_option maxRecDepth 20000 in
theorem gL_law_X7_round : GoodIn wsL_law (wsV RL 77 RX7 yX7_round wsX7_round) := goodIn_app (goodIn_of _ (by decide +kernel)) ggL_law_X7_round
set_option maxRecDepth 20000 in
theorem ggL_law_X8_round : GoodIn wsL_law wsX8_round := goodIn_r _ [753, 696, 701, 306, 697, 698, 699, 5, 700, 294, 702, 703, 704, 705, 322, 302, 706, 707, 708, 709, 295, 300, 301, 710, 711, 712, 713, 585, 586, 587, 588, 559, 560, 561, 562, 293, 507, 508, 509, 510, 303, 511, 512, 513, 514, 515, 516, 517, 518, 528, 529, 530, 531, 714, 715, 716, 717, 718, 719, 720, 721, 722, 723, 867, 868, 869, 870, 871, 872, 873, 874, 875, 876, 877, 878, 879, 880, 881, 882, 883, 884, 885, 886, 887, 888, 889, 890, 891, 892] (by decide +kernel) (by decide +kernel)
set_option maxRecDepth 20000 in
theorem gL_law_X8_round : GoodIn wsL_law (wsV RL 80 RX8 yX8_round wsX8_round) := goodIn_app (goodIn_of _ (by decide +kernel)) ggL_law_X8_round
set_option maxRecDepth 20000 in
theorem ggL_law_X7_chance : GoodIn wsL_law wsX7_chance := goodIn_r _ [757, 758, 23, 634, 759, 413, 414, 415, 2, 416, 39, 398, 760, 761, 762, 763, 764, 765, 766, 767, 768, 857, 858, 859, 860, 861, 862, 863, 864, 865, 866, 900, 901, 902, 903, 904, 905, 921, 922, 923, 924, 925, 926, 927, 928, 929, 930, 931, 932] (by decide +kernel) (by decide +kernel)
set_option maxRecDepth 20000 in
theorem gL_law_X7_chance : GoodIn wsL_law (wsV RL 81 RX7 yX7_chance wsX7_chance) := goodIn_app (goodIn_of _ (by decide +kernel)) ggL_law_X7_chance
set_option maxRecDepth 20000 in
theorem ggL_law_X8_chance : GoodIn wsL_law wsX8_chance := goodIn_r _ [772, 773, 302, 437, 438, 439, 5, 440, 322, 368, 369, 370, 507, 508, 509, 510, 303, 293, 511, 512, 513, 514, 515, 516, 517, 518, 528, 529, 530, 531, 295, 774, 775, 776, 777, 778, 779, 780, 781, 782, 783, 867, 868, 869, 870, 871, 872, 873, 874, 875, 876, 877, 878, 879, 880, 881, 882, 883, 884, 885, 886, 887, 888, 889, 890, 891, 892] (by decide +kernel) (by decide +kernel)
set_option maxRecDepth 20000 in
theorem gL_law_X8_chance : GoodIn wsL_law (wsV RL 85 RX8 yX8_chance wsX8_chance) := goodIn_app (goodIn_of _ (by decide +kernel)) ggL_law_X8_chance
set_option maxRecDepth 20000 in
theorem ggL_law_X7_mean : GoodIn wsL_law wsX7_mean := goodIn_r _ [787, 758, 23, 39, 40, 412, 759, 788, 760, 761, 2, 762, 789, 479, 480, 22, 481, 283, 286, 482, 763, 764, 765, 766, 767, 768, 790, 791, 792, 793, 285, 794, 795, 796, 797, 452, 453, 798, 799, 470, 471, 472, 65, 473, 474, 475, 476, 477, 478, 857, 858, 859, 860, 861, 862, 863, 864, 865, 866, 911, 912, 913, 914, 915, 916, 917, 918, 919, 920, 900, 901, 902, 903, 904, 905, 921, 922, 923, 924, 925, 926, 927, 928, 929, 930, 931, 932] (by decide +kernel) (by decide +kernel)
set_option maxRecDepth 20000 in
theorem gL_law_X7_mean : GoodIn wsL_law (wsV RL 86 RX7 yX7_mean wsX7_mean) := goodIn_app (goodIn_of _ (by decide +kernel)) ggL_law_X7_mean
set_option maxRecDepth 20000 in
theorem ggL_law_X8_mean : GoodIn wsL_law wsX8_mean := goodIn_r _ [803, 773, 295, 523, 804, 368, 369, 5, 370, 507, 508, 509, 510, 322, 303, 293, 302, 511, 512, 513, 514, 515, 516, 517, 518, 774, 775, 776, 777, 528, 529, 530, 531, 524, 525, 526, 527, 778, 779, 780, 781, 782, 783, 519, 520, 521, 522, 294, 867, 868, 869, 870, 871, 872, 873, 874, 875, 876, 877, 878, 879, 880, 881, 882, 883, 884, 885, 886, 887, 888, 889, 890, 891, 892] (by decide +kernel) (by decide +kernel)
set_option maxRecDepth 20000 in
theorem gL_law_X8_mean : GoodIn wsL_law (wsV RL 89 RX8 yX8_mean wsX8_mean) := goodIn_app (goodIn_of _ (by decide +kernel)) ggL_law_X8_mean
set_option maxRecDepth 20000 in
theorem ggL_law_X7_best : GoodIn wsL_law wsX7_best := goodIn_r _ [808, 23, 39, 463, 413, 414, 415, 2, 416, 398, 464, 465, 466, 22, 467, 287, 67, 283, 468, 469, 470, 471, 472, 65, 473, 474, 475, 476, 477, 478, 479, 480, 481, 286, 482, 483, 484, 485, 486, 66, 487, 429, 430, 431, 488, 489, 490, 491, 492, 493, 494, 495, 496, 497, 251, 498, 857, 858, 859, 860, 861, 862, 863, 864, 865, 866, 900, 901, 902, 903, 904, 905, 921, 922, 923, 924, 925, 926, 927, 928, 929, 930, 931, 932] (by decide +kernel) (by decide +kernel)
set_option maxRecDepth 20000 in
theorem gL_law_X7_best : GoodIn wsL_law (wsV RL 90 RX7 yX7_best wsX7_best) := goodIn_app (goodIn_of _ (by decide +kernel)) ggL_law_X7_best
set_option maxRecDepth 20000 in
theorem ggL_law_X8_best : GoodIn wsL_law wsX8_best := goodIn_r _ [812, 305, 437, 438, 439, 5, 440, 322, 368, 369, 370, 503, 504, 505, 506, 304, 507, 508, 509, 510, 303, 293, 302, 511, 512, 513, 514, 515, 516, 517, 518, 519, 520, 521, 522, 523, 294, 524, 525, 526, 527, 528, 529, 530, 531, 295, 532, 533, 534, 535, 867, 868, 869, 870, 871, 872, 873, 874, 875, 876, 877, 878, 879, 880, 881, 882, 883, 884, 885, 886, 887, 888, 889, 890, 891, 892] (by decide +kernel) (by decide +kernel)
set_option maxRecDepth 20000 in
theorem gL_law_X8_best : GoodIn wsL_law (wsV RL 93 RX8 yX8_best wsX8_best) := goodIn_app (goodIn_of _ (by decide +kernel)) ggL_law_X8_best
set_option maxRecDepth 20000 in
theorem ggL_law_X7_least : GoodIn wsL_law wsX7_least := goodIn_r _ [816, 758, 23, 39, 817, 788, 759, 760, 761, 2, 762, 464, 465, 466, 22, 467, 287, 67, 283, 468, 469, 470, 471, 472, 65, 473, 474, 475, 476, 477, 478, 479, 480, 481, 286, 482, 483, 484, 485, 486, 66, 487, 429, 430, 431, 488, 489, 490, 491, 492, 493, 494, 495, 496, 497, 251, 498, 763, 764, 765, 766, 767, 768, 857, 858, 859, 860, 861, 862, 863, 864, 865, 866, 900, 901, 902, 903, 904, 905, 921, 922, 923, 924, 925, 926, 927, 928, 929, 930, 931, 932] (by decide +kernel) (by decide +kernel)
set_option maxRecDepth 20000 in
theorem gL_law_X7_least : GoodIn wsL_law (wsV RL 94 RX7 yX7_least wsX7_least) := goodIn_app (goodIn_of _ (by decide +kernel)) ggL_law_X7_least
set_option maxRecDepth 20000 in
theorem ggL_law_X8_least : GoodIn wsL_law wsX8_least := goodIn_r _ [821, 773, 523, 368, 369, 5, 370, 503, 504, 505, 506, 304, 305, 507, 508, 509, 510, 322, 303, 293, 302, 511, 512, 513, 514, 515, 516, 517, 518, 519, 520, 521, 522, 294, 524, 525, 526, 527, 528, 529, 530, 531, 295, 532, 533, 534, 535, 774, 775, 776, 777, 778, 779, 780, 781, 782, 783, 867, 868, 869, 870, 871, 872, 873, 874, 875, 876, 877, 878, 879, 880, 881, 882, 883, 884, 885, 886, 887, 888, 889, 890, 891, 892] (by decide +kernel) (by decide +kernel)
set_option maxRecDepth 20000 in
theorem gL_law_X8_least : GoodIn wsL_law (wsV RL 98 RX8 yX8_least wsX8_least) := goodIn_app (goodIn_of _ (by decide +kernel)) ggL_law_X8_least
set_option maxRecDepth 20000 in
theorem ggL_law_X7_walk : GoodIn wsL_law wsX7_walk := goodIn_r _ [825, 35, 40, 39, 628, 826, 425, 426, 34, 427, 59, 428, 429, 430, 431, 60, 168, 169, 170, 177, 178, 179, 171, 172, 827, 828, 2, 829, 830, 831, 832, 833, 834, 835, 836, 837, 838, 839, 598, 599, 600, 601, 602, 603, 604, 605, 606, 607, 608, 609, 610, 173, 174, 175, 176, 857, 858, 859, 860, 861, 862, 863, 864, 865, 866, 911, 912, 913, 914, 915, 916, 917, 918, 919, 920, 921, 922, 923, 924, 925, 926, 927, 928, 929, 930, 931, 932] (by decide +kernel) (by decide +kernel)
set_option maxRecDepth 20000 in
theorem gL_law_X7_walk : GoodIn wsL_law (wsV RL 99 RX7 yX7_walk wsX7_walk) := goodIn_app (goodIn_of _ (by decide +kernel)) ggL_law_X7_walk
set_option maxRecDepth 20000 in
theorem ggL_law_X8_walk : GoodIn wsL_law wsX8_walk := goodIn_r _ [843, 307, 295, 844, 845, 846, 322, 293, 368, 369, 5, 370, 528, 529, 530, 531, 511, 512, 513, 514, 615, 616, 617, 618, 619, 620, 621, 622, 585, 586, 587, 588, 559, 560, 561, 562, 445, 446, 447, 867, 868, 869, 870, 871, 872, 873, 874, 875, 876, 877, 878, 879, 880, 881, 882, 883, 884, 885, 886, 887, 888, 889, 890, 891, 892] (by decide +kernel) (by decide +kernel)
set_option maxRecDepth 20000 in
theorem gL_law_X8_walk : GoodIn wsL_law (wsV RL 102 RX8 yX8_walk wsX8_walk) := goodIn_app (goodIn_of _ (by decide +kernel)) ggL_law_X8_walk
set_option maxRecDepth 20000 in
theorem ggL_law_X7_count : GoodIn wsL_law wsX7_count := goodIn_r _ [850, 39, 398, 851, 40, 452, 453, 635, 732, 733, 852, 19, 144, 15, 43, 857, 858, 859, 860, 861, 862, 863, 864, 865, 866, 921, 922, 923, 924, 925, 926, 927, 928, 929, 930, 931, 932, 911, 912, 913, 914, 915, 916, 917, 918, 919, 920, 897, 898, 899, 893, 894, 895, 896] (by decide +kernel) (by decide +kernel)
set_option maxRecDepth 20000 in
theorem gL_law_X7_count : GoodIn wsL_law (wsV RL 103 RX7 yX7_count wsX7_count) := goodIn_app (goodIn_of _ (by decide +kernel)) ggL_law_X7_count
set_option maxRecDepth 20000 in
theorem ggL_law_X8_count : GoodIn wsL_law wsX8_count := goodIn_r _ [856, 322, 323, 295, 294, 324, 333, 867, 868, 869, 870, 871, 872, 873, 874, 875, 876, 877, 878, 879, 880, 881, 882, 883, 884, 885, 886, 887, 888, 889, 890, 891, 892] (by decide +kernel) (by decide +kernel)
set_option maxRecDepth 20000 in
theorem gL_law_X8_count : GoodIn wsL_law (wsV RL 106 RX8 yX8_count wsX8_count) := goodIn_app (goodIn_of _ (by decide +kernel)) ggL_law_X8_count
theorem dL_law_0 : decode cL_law 0 = .ok (.new 7, 3) := by decide +kernel
theorem dL_law_3 : decode cL_law 3 = .ok (.dup, 1) := by decide +kernel
theorem dL_law_4 : decode cL_law 4 = .ok (.invokespecial 9, 3) := by decide +kernel
theorem dL_law_7 : decode cL_law 7 = .ok (.astore_n 1, 1) := by decide +kernel
theorem dL_law_8 : decode cL_law 8 = .ok (.new 10, 3) := by decide +kernel
theorem dL_law_11 : decode cL_law 11 = .ok (.dup, 1) := by decide +kernel
theorem dL_law_12 : decode cL_law 12 = .ok (.invokespecial 12, 3) := by decide +kernel
theorem dL_law_15 : decode cL_law 15 = .ok (.astore_n 2, 1) := by decide +kernel
theorem dL_law_16 : decode cL_law 16 = .ok (.iconst 0, 1) := by decide +kernel
theorem dL_law_17 : decode cL_law 17 = .ok (.istore_n 3, 1) := by decide +kernel
theorem dL_law_18 : decode cL_law 18 = .ok (.iload_n 3, 1) := by decide +kernel
theorem dL_law_19 : decode cL_law 19 = .ok (.aload_n 0, 1) := by decide +kernel
theorem dL_law_20 : decode cL_law 20 = .ok (.arraylength, 1) := by decide +kernel
theorem dL_law_21 : decode cL_law 21 = .ok (.iconst 4, 1) := by decide +kernel
theorem dL_law_22 : decode cL_law 22 = .ok (.isub, 1) := by decide +kernel
theorem dL_law_23 : decode cL_law 23 = .ok (.if_icmp .gt 658, 3) := by decide +kernel
theorem dL_law_26 : decode cL_law 26 = .ok (.aload_n 0, 1) := by decide +kernel
theorem dL_law_27 : decode cL_law 27 = .ok (.iload_n 3, 1) := by decide +kernel
theorem dL_law_28 : decode cL_law 28 = .ok (.iaload, 1) := by decide +kernel
theorem dL_law_29 : decode cL_law 29 = .ok (.bipush 31, 2) := by decide +kernel
theorem dL_law_31 : decode cL_law 31 = .ok (.iand, 1) := by decide +kernel
theorem dL_law_32 : decode cL_law 32 = .ok (.tableswitch 643 0 21 #[104, 127, 140, 153, 166, 209, 242, 255, 268, 301, 334, 367, 390, 403, 426, 439, 462, 496, 530, 553, 577, 620], 104) := by decide +kernel
theorem dL_law_136 : decode cL_law 136 = .ok (.aload_n 1, 1) := by decide +kernel
theorem dL_law_137 : decode cL_law 137 = .ok (.aload_n 0, 1) := by decide +kernel
theorem dL_law_138 : decode cL_law 138 = .ok (.iload_n 3, 1) := by decide +kernel
theorem dL_law_139 : decode cL_law 139 = .ok (.iconst 1, 1) := by decide +kernel
theorem dL_law_140 : decode cL_law 140 = .ok (.iadd, 1) := by decide +kernel
theorem dL_law_141 : decode cL_law 141 = .ok (.iaload, 1) := by decide +kernel
theorem dL_law_142 : decode cL_law 142 = .ok (.invokevirtual 13, 3) := by decide +kernel
theorem dL_law_145 : decode cL_law 145 = .ok (.aload_n 2, 1) := by decide +kernel
theorem dL_law_146 : decode cL_law 146 = .ok (.aload_n 0, 1) := by decide +kernel
theorem dL_law_147 : decode cL_law 147 = .ok (.iload_n 3, 1) := by decide +kernel
theorem dL_law_148 : decode cL_law 148 = .ok (.iconst 1, 1) := by decide +kernel
theorem dL_law_149 : decode cL_law 149 = .ok (.iadd, 1) := by decide +kernel
theorem dL_law_150 : decode cL_law 150 = .ok (.iaload, 1) := by decide +kernel
theorem dL_law_151 : decode cL_law 151 = .ok (.invokevirtual 17, 3) := by decide +kernel
theorem dL_law_154 : decode cL_law 154 = .ok (.if_icmp .eq 521, 3) := by decide +kernel
theorem dL_law_157 : decode cL_law 157 = .ok (.iconst 0, 1) := by decide +kernel
theorem dL_law_158 : decode cL_law 158 = .ok (.ireturn, 1) := by decide +kernel
theorem dL_law_159 : decode cL_law 159 = .ok (.aload_n 1, 1) := by decide +kernel
theorem dL_law_160 : decode cL_law 160 = .ok (.invokevirtual 18, 3) := by decide +kernel
theorem dL_law_163 : decode cL_law 163 = .ok (.aload_n 2, 1) := by decide +kernel
theorem dL_law_164 : decode cL_law 164 = .ok (.invokevirtual 22, 3) := by decide +kernel
theorem dL_law_167 : decode cL_law 167 = .ok (.if_icmp .eq 508, 3) := by decide +kernel
theorem dL_law_170 : decode cL_law 170 = .ok (.iconst 0, 1) := by decide +kernel
theorem dL_law_171 : decode cL_law 171 = .ok (.ireturn, 1) := by decide +kernel
theorem dL_law_172 : decode cL_law 172 = .ok (.aload_n 1, 1) := by decide +kernel
theorem dL_law_173 : decode cL_law 173 = .ok (.invokevirtual 23, 3) := by decide +kernel
theorem dL_law_176 : decode cL_law 176 = .ok (.aload_n 2, 1) := by decide +kernel
theorem dL_law_177 : decode cL_law 177 = .ok (.invokevirtual 26, 3) := by decide +kernel
theorem dL_law_180 : decode cL_law 180 = .ok (.if_icmp .eq 495, 3) := by decide +kernel
theorem dL_law_183 : decode cL_law 183 = .ok (.iconst 0, 1) := by decide +kernel
theorem dL_law_184 : decode cL_law 184 = .ok (.ireturn, 1) := by decide +kernel
theorem dL_law_185 : decode cL_law 185 = .ok (.aload_n 1, 1) := by decide +kernel
theorem dL_law_186 : decode cL_law 186 = .ok (.invokevirtual 27, 3) := by decide +kernel
theorem dL_law_189 : decode cL_law 189 = .ok (.aload_n 2, 1) := by decide +kernel
theorem dL_law_190 : decode cL_law 190 = .ok (.invokevirtual 30, 3) := by decide +kernel
theorem dL_law_193 : decode cL_law 193 = .ok (.if_icmp .eq 482, 3) := by decide +kernel
theorem dL_law_196 : decode cL_law 196 = .ok (.iconst 0, 1) := by decide +kernel
theorem dL_law_197 : decode cL_law 197 = .ok (.ireturn, 1) := by decide +kernel
theorem dL_law_198 : decode cL_law 198 = .ok (.aload_n 1, 1) := by decide +kernel
theorem dL_law_199 : decode cL_law 199 = .ok (.aload_n 0, 1) := by decide +kernel
theorem dL_law_200 : decode cL_law 200 = .ok (.iload_n 3, 1) := by decide +kernel
theorem dL_law_201 : decode cL_law 201 = .ok (.iconst 1, 1) := by decide +kernel
theorem dL_law_202 : decode cL_law 202 = .ok (.iadd, 1) := by decide +kernel
theorem dL_law_203 : decode cL_law 203 = .ok (.iaload, 1) := by decide +kernel
theorem dL_law_204 : decode cL_law 204 = .ok (.aload_n 0, 1) := by decide +kernel
theorem dL_law_205 : decode cL_law 205 = .ok (.iload_n 3, 1) := by decide +kernel
theorem dL_law_206 : decode cL_law 206 = .ok (.iconst 2, 1) := by decide +kernel
theorem dL_law_207 : decode cL_law 207 = .ok (.iadd, 1) := by decide +kernel
theorem dL_law_208 : decode cL_law 208 = .ok (.iaload, 1) := by decide +kernel
theorem dL_law_209 : decode cL_law 209 = .ok (.aload_n 0, 1) := by decide +kernel
theorem dL_law_210 : decode cL_law 210 = .ok (.iload_n 3, 1) := by decide +kernel
theorem dL_law_211 : decode cL_law 211 = .ok (.iconst 3, 1) := by decide +kernel
theorem dL_law_212 : decode cL_law 212 = .ok (.iadd, 1) := by decide +kernel
theorem dL_law_213 : decode cL_law 213 = .ok (.iaload, 1) := by decide +kernel
theorem dL_law_214 : decode cL_law 214 = .ok (.invokevirtual 31, 3) := by decide +kernel
theorem dL_law_217 : decode cL_law 217 = .ok (.aload_n 2, 1) := by decide +kernel
theorem dL_law_218 : decode cL_law 218 = .ok (.aload_n 0, 1) := by decide +kernel
theorem dL_law_219 : decode cL_law 219 = .ok (.iload_n 3, 1) := by decide +kernel
theorem dL_law_220 : decode cL_law 220 = .ok (.iconst 1, 1) := by decide +kernel
theorem dL_law_221 : decode cL_law 221 = .ok (.iadd, 1) := by decide +kernel
theorem dL_law_222 : decode cL_law 222 = .ok (.iaload, 1) := by decide +kernel
theorem dL_law_223 : decode cL_law 223 = .ok (.aload_n 0, 1) := by decide +kernel
theorem dL_law_224 : decode cL_law 224 = .ok (.iload_n 3, 1) := by decide +kernel
theorem dL_law_225 : decode cL_law 225 = .ok (.iconst 2, 1) := by decide +kernel
theorem dL_law_226 : decode cL_law 226 = .ok (.iadd, 1) := by decide +kernel
theorem dL_law_227 : decode cL_law 227 = .ok (.iaload, 1) := by decide +kernel
theorem dL_law_228 : decode cL_law 228 = .ok (.aload_n 0, 1) := by decide +kernel
theorem dL_law_229 : decode cL_law 229 = .ok (.iload_n 3, 1) := by decide +kernel
theorem dL_law_230 : decode cL_law 230 = .ok (.iconst 3, 1) := by decide +kernel
theorem dL_law_231 : decode cL_law 231 = .ok (.iadd, 1) := by decide +kernel
theorem dL_law_232 : decode cL_law 232 = .ok (.iaload, 1) := by decide +kernel
theorem dL_law_233 : decode cL_law 233 = .ok (.invokevirtual 35, 3) := by decide +kernel
theorem dL_law_236 : decode cL_law 236 = .ok (.if_icmp .eq 439, 3) := by decide +kernel
theorem dL_law_239 : decode cL_law 239 = .ok (.iconst 0, 1) := by decide +kernel
theorem dL_law_240 : decode cL_law 240 = .ok (.ireturn, 1) := by decide +kernel
theorem dL_law_241 : decode cL_law 241 = .ok (.aload_n 1, 1) := by decide +kernel
theorem dL_law_242 : decode cL_law 242 = .ok (.aload_n 0, 1) := by decide +kernel
theorem dL_law_243 : decode cL_law 243 = .ok (.iload_n 3, 1) := by decide +kernel
theorem dL_law_244 : decode cL_law 244 = .ok (.iconst 1, 1) := by decide +kernel
theorem dL_law_245 : decode cL_law 245 = .ok (.iadd, 1) := by decide +kernel
theorem dL_law_246 : decode cL_law 246 = .ok (.iaload, 1) := by decide +kernel
theorem dL_law_247 : decode cL_law 247 = .ok (.aload_n 0, 1) := by decide +kernel
theorem dL_law_248 : decode cL_law 248 = .ok (.iload_n 3, 1) := by decide +kernel
theorem dL_law_249 : decode cL_law 249 = .ok (.iconst 2, 1) := by decide +kernel
theorem dL_law_250 : decode cL_law 250 = .ok (.iadd, 1) := by decide +kernel
theorem dL_law_251 : decode cL_law 251 = .ok (.iaload, 1) := by decide +kernel
theorem dL_law_252 : decode cL_law 252 = .ok (.invokevirtual 36, 3) := by decide +kernel
theorem dL_law_255 : decode cL_law 255 = .ok (.aload_n 2, 1) := by decide +kernel
theorem dL_law_256 : decode cL_law 256 = .ok (.aload_n 0, 1) := by decide +kernel
theorem dL_law_257 : decode cL_law 257 = .ok (.iload_n 3, 1) := by decide +kernel
theorem dL_law_258 : decode cL_law 258 = .ok (.iconst 1, 1) := by decide +kernel
theorem dL_law_259 : decode cL_law 259 = .ok (.iadd, 1) := by decide +kernel
theorem dL_law_260 : decode cL_law 260 = .ok (.iaload, 1) := by decide +kernel
theorem dL_law_261 : decode cL_law 261 = .ok (.aload_n 0, 1) := by decide +kernel
theorem dL_law_262 : decode cL_law 262 = .ok (.iload_n 3, 1) := by decide +kernel
theorem dL_law_263 : decode cL_law 263 = .ok (.iconst 2, 1) := by decide +kernel
theorem dL_law_264 : decode cL_law 264 = .ok (.iadd, 1) := by decide +kernel
theorem dL_law_265 : decode cL_law 265 = .ok (.iaload, 1) := by decide +kernel
theorem dL_law_266 : decode cL_law 266 = .ok (.invokevirtual 40, 3) := by decide +kernel
theorem dL_law_269 : decode cL_law 269 = .ok (.if_icmp .eq 406, 3) := by decide +kernel
theorem dL_law_272 : decode cL_law 272 = .ok (.iconst 0, 1) := by decide +kernel
theorem dL_law_273 : decode cL_law 273 = .ok (.ireturn, 1) := by decide +kernel
theorem dL_law_274 : decode cL_law 274 = .ok (.aload_n 1, 1) := by decide +kernel
theorem dL_law_275 : decode cL_law 275 = .ok (.invokevirtual 41, 3) := by decide +kernel
theorem dL_law_278 : decode cL_law 278 = .ok (.aload_n 2, 1) := by decide +kernel
theorem dL_law_279 : decode cL_law 279 = .ok (.invokevirtual 44, 3) := by decide +kernel
theorem dL_law_282 : decode cL_law 282 = .ok (.if_icmp .eq 393, 3) := by decide +kernel
theorem dL_law_285 : decode cL_law 285 = .ok (.iconst 0, 1) := by decide +kernel
theorem dL_law_286 : decode cL_law 286 = .ok (.ireturn, 1) := by decide +kernel
theorem dL_law_287 : decode cL_law 287 = .ok (.aload_n 1, 1) := by decide +kernel
theorem dL_law_288 : decode cL_law 288 = .ok (.invokevirtual 45, 3) := by decide +kernel
theorem dL_law_291 : decode cL_law 291 = .ok (.aload_n 2, 1) := by decide +kernel
theorem dL_law_292 : decode cL_law 292 = .ok (.invokevirtual 48, 3) := by decide +kernel
theorem dL_law_295 : decode cL_law 295 = .ok (.if_icmp .eq 380, 3) := by decide +kernel
theorem dL_law_298 : decode cL_law 298 = .ok (.iconst 0, 1) := by decide +kernel
theorem dL_law_299 : decode cL_law 299 = .ok (.ireturn, 1) := by decide +kernel
theorem dL_law_300 : decode cL_law 300 = .ok (.aload_n 1, 1) := by decide +kernel
theorem dL_law_301 : decode cL_law 301 = .ok (.aload_n 0, 1) := by decide +kernel
theorem dL_law_302 : decode cL_law 302 = .ok (.iload_n 3, 1) := by decide +kernel
theorem dL_law_303 : decode cL_law 303 = .ok (.iconst 1, 1) := by decide +kernel
theorem dL_law_304 : decode cL_law 304 = .ok (.iadd, 1) := by decide +kernel
theorem dL_law_305 : decode cL_law 305 = .ok (.iaload, 1) := by decide +kernel
theorem dL_law_306 : decode cL_law 306 = .ok (.aload_n 0, 1) := by decide +kernel
theorem dL_law_307 : decode cL_law 307 = .ok (.iload_n 3, 1) := by decide +kernel
theorem dL_law_308 : decode cL_law 308 = .ok (.iconst 2, 1) := by decide +kernel
theorem dL_law_309 : decode cL_law 309 = .ok (.iadd, 1) := by decide +kernel
theorem dL_law_310 : decode cL_law 310 = .ok (.iaload, 1) := by decide +kernel
theorem dL_law_311 : decode cL_law 311 = .ok (.invokevirtual 49, 3) := by decide +kernel
theorem dL_law_314 : decode cL_law 314 = .ok (.aload_n 2, 1) := by decide +kernel
theorem dL_law_315 : decode cL_law 315 = .ok (.aload_n 0, 1) := by decide +kernel
theorem dL_law_316 : decode cL_law 316 = .ok (.iload_n 3, 1) := by decide +kernel
theorem dL_law_317 : decode cL_law 317 = .ok (.iconst 1, 1) := by decide +kernel
theorem dL_law_318 : decode cL_law 318 = .ok (.iadd, 1) := by decide +kernel
theorem dL_law_319 : decode cL_law 319 = .ok (.iaload, 1) := by decide +kernel
theorem dL_law_320 : decode cL_law 320 = .ok (.aload_n 0, 1) := by decide +kernel
theorem dL_law_321 : decode cL_law 321 = .ok (.iload_n 3, 1) := by decide +kernel
theorem dL_law_322 : decode cL_law 322 = .ok (.iconst 2, 1) := by decide +kernel
theorem dL_law_323 : decode cL_law 323 = .ok (.iadd, 1) := by decide +kernel
theorem dL_law_324 : decode cL_law 324 = .ok (.iaload, 1) := by decide +kernel
theorem dL_law_325 : decode cL_law 325 = .ok (.invokevirtual 52, 3) := by decide +kernel
theorem dL_law_328 : decode cL_law 328 = .ok (.if_icmp .eq 347, 3) := by decide +kernel
theorem dL_law_331 : decode cL_law 331 = .ok (.iconst 0, 1) := by decide +kernel
theorem dL_law_332 : decode cL_law 332 = .ok (.ireturn, 1) := by decide +kernel
theorem dL_law_333 : decode cL_law 333 = .ok (.aload_n 1, 1) := by decide +kernel
theorem dL_law_334 : decode cL_law 334 = .ok (.aload_n 0, 1) := by decide +kernel
theorem dL_law_335 : decode cL_law 335 = .ok (.iload_n 3, 1) := by decide +kernel
theorem dL_law_336 : decode cL_law 336 = .ok (.iconst 1, 1) := by decide +kernel
theorem dL_law_337 : decode cL_law 337 = .ok (.iadd, 1) := by decide +kernel
theorem dL_law_338 : decode cL_law 338 = .ok (.iaload, 1) := by decide +kernel
theorem dL_law_339 : decode cL_law 339 = .ok (.aload_n 0, 1) := by decide +kernel
theorem dL_law_340 : decode cL_law 340 = .ok (.iload_n 3, 1) := by decide +kernel
theorem dL_law_341 : decode cL_law 341 = .ok (.iconst 2, 1) := by decide +kernel
theorem dL_law_342 : decode cL_law 342 = .ok (.iadd, 1) := by decide +kernel
theorem dL_law_343 : decode cL_law 343 = .ok (.iaload, 1) := by decide +kernel
theorem dL_law_344 : decode cL_law 344 = .ok (.invokevirtual 53, 3) := by decide +kernel
theorem dL_law_347 : decode cL_law 347 = .ok (.aload_n 2, 1) := by decide +kernel
theorem dL_law_348 : decode cL_law 348 = .ok (.aload_n 0, 1) := by decide +kernel
theorem dL_law_349 : decode cL_law 349 = .ok (.iload_n 3, 1) := by decide +kernel
theorem dL_law_350 : decode cL_law 350 = .ok (.iconst 1, 1) := by decide +kernel
theorem dL_law_351 : decode cL_law 351 = .ok (.iadd, 1) := by decide +kernel
theorem dL_law_352 : decode cL_law 352 = .ok (.iaload, 1) := by decide +kernel
theorem dL_law_353 : decode cL_law 353 = .ok (.aload_n 0, 1) := by decide +kernel
theorem dL_law_354 : decode cL_law 354 = .ok (.iload_n 3, 1) := by decide +kernel
theorem dL_law_355 : decode cL_law 355 = .ok (.iconst 2, 1) := by decide +kernel
theorem dL_law_356 : decode cL_law 356 = .ok (.iadd, 1) := by decide +kernel
theorem dL_law_357 : decode cL_law 357 = .ok (.iaload, 1) := by decide +kernel
theorem dL_law_358 : decode cL_law 358 = .ok (.invokevirtual 56, 3) := by decide +kernel
theorem dL_law_361 : decode cL_law 361 = .ok (.if_icmp .eq 314, 3) := by decide +kernel
theorem dL_law_364 : decode cL_law 364 = .ok (.iconst 0, 1) := by decide +kernel
theorem dL_law_365 : decode cL_law 365 = .ok (.ireturn, 1) := by decide +kernel
theorem dL_law_366 : decode cL_law 366 = .ok (.aload_n 1, 1) := by decide +kernel
theorem dL_law_367 : decode cL_law 367 = .ok (.aload_n 0, 1) := by decide +kernel
theorem dL_law_368 : decode cL_law 368 = .ok (.iload_n 3, 1) := by decide +kernel
theorem dL_law_369 : decode cL_law 369 = .ok (.iconst 1, 1) := by decide +kernel
theorem dL_law_370 : decode cL_law 370 = .ok (.iadd, 1) := by decide +kernel
theorem dL_law_371 : decode cL_law 371 = .ok (.iaload, 1) := by decide +kernel
theorem dL_law_372 : decode cL_law 372 = .ok (.aload_n 0, 1) := by decide +kernel
theorem dL_law_373 : decode cL_law 373 = .ok (.iload_n 3, 1) := by decide +kernel
theorem dL_law_374 : decode cL_law 374 = .ok (.iconst 2, 1) := by decide +kernel
theorem dL_law_375 : decode cL_law 375 = .ok (.iadd, 1) := by decide +kernel
theorem dL_law_376 : decode cL_law 376 = .ok (.iaload, 1) := by decide +kernel
theorem dL_law_377 : decode cL_law 377 = .ok (.invokevirtual 57, 3) := by decide +kernel
theorem dL_law_380 : decode cL_law 380 = .ok (.aload_n 2, 1) := by decide +kernel
theorem dL_law_381 : decode cL_law 381 = .ok (.aload_n 0, 1) := by decide +kernel
theorem dL_law_382 : decode cL_law 382 = .ok (.iload_n 3, 1) := by decide +kernel
theorem dL_law_383 : decode cL_law 383 = .ok (.iconst 1, 1) := by decide +kernel
theorem dL_law_384 : decode cL_law 384 = .ok (.iadd, 1) := by decide +kernel
theorem dL_law_385 : decode cL_law 385 = .ok (.iaload, 1) := by decide +kernel
theorem dL_law_386 : decode cL_law 386 = .ok (.aload_n 0, 1) := by decide +kernel
theorem dL_law_387 : decode cL_law 387 = .ok (.iload_n 3, 1) := by decide +kernel
theorem dL_law_388 : decode cL_law 388 = .ok (.iconst 2, 1) := by decide +kernel
theorem dL_law_389 : decode cL_law 389 = .ok (.iadd, 1) := by decide +kernel
theorem dL_law_390 : decode cL_law 390 = .ok (.iaload, 1) := by decide +kernel
theorem dL_law_391 : decode cL_law 391 = .ok (.invokevirtual 60, 3) := by decide +kernel
theorem dL_law_394 : decode cL_law 394 = .ok (.if_icmp .eq 281, 3) := by decide +kernel
theorem dL_law_397 : decode cL_law 397 = .ok (.iconst 0, 1) := by decide +kernel
theorem dL_law_398 : decode cL_law 398 = .ok (.ireturn, 1) := by decide +kernel
theorem dL_law_399 : decode cL_law 399 = .ok (.aload_n 1, 1) := by decide +kernel
theorem dL_law_400 : decode cL_law 400 = .ok (.aload_n 0, 1) := by decide +kernel
theorem dL_law_401 : decode cL_law 401 = .ok (.iload_n 3, 1) := by decide +kernel
theorem dL_law_402 : decode cL_law 402 = .ok (.iconst 1, 1) := by decide +kernel
theorem dL_law_403 : decode cL_law 403 = .ok (.iadd, 1) := by decide +kernel
theorem dL_law_404 : decode cL_law 404 = .ok (.iaload, 1) := by decide +kernel
theorem dL_law_405 : decode cL_law 405 = .ok (.invokevirtual 61, 3) := by decide +kernel
theorem dL_law_408 : decode cL_law 408 = .ok (.aload_n 2, 1) := by decide +kernel
theorem dL_law_409 : decode cL_law 409 = .ok (.aload_n 0, 1) := by decide +kernel
theorem dL_law_410 : decode cL_law 410 = .ok (.iload_n 3, 1) := by decide +kernel
theorem dL_law_411 : decode cL_law 411 = .ok (.iconst 1, 1) := by decide +kernel
theorem dL_law_412 : decode cL_law 412 = .ok (.iadd, 1) := by decide +kernel
theorem dL_law_413 : decode cL_law 413 = .ok (.iaload, 1) := by decide +kernel
theorem dL_law_414 : decode cL_law 414 = .ok (.invokevirtual 64, 3) := by decide +kernel
theorem dL_law_417 : decode cL_law 417 = .ok (.if_icmp .eq 258, 3) := by decide +kernel
theorem dL_law_420 : decode cL_law 420 = .ok (.iconst 0, 1) := by decide +kernel
theorem dL_law_421 : decode cL_law 421 = .ok (.ireturn, 1) := by decide +kernel
theorem dL_law_422 : decode cL_law 422 = .ok (.aload_n 1, 1) := by decide +kernel
theorem dL_law_423 : decode cL_law 423 = .ok (.invokevirtual 65, 3) := by decide +kernel
theorem dL_law_426 : decode cL_law 426 = .ok (.aload_n 2, 1) := by decide +kernel
theorem dL_law_427 : decode cL_law 427 = .ok (.invokevirtual 68, 3) := by decide +kernel
theorem dL_law_430 : decode cL_law 430 = .ok (.if_icmp .eq 245, 3) := by decide +kernel
theorem dL_law_433 : decode cL_law 433 = .ok (.iconst 0, 1) := by decide +kernel
theorem dL_law_434 : decode cL_law 434 = .ok (.ireturn, 1) := by decide +kernel
theorem dL_law_435 : decode cL_law 435 = .ok (.aload_n 1, 1) := by decide +kernel
theorem dL_law_436 : decode cL_law 436 = .ok (.aload_n 0, 1) := by decide +kernel
theorem dL_law_437 : decode cL_law 437 = .ok (.iload_n 3, 1) := by decide +kernel
theorem dL_law_438 : decode cL_law 438 = .ok (.iconst 1, 1) := by decide +kernel
theorem dL_law_439 : decode cL_law 439 = .ok (.iadd, 1) := by decide +kernel
theorem dL_law_440 : decode cL_law 440 = .ok (.iaload, 1) := by decide +kernel
theorem dL_law_441 : decode cL_law 441 = .ok (.invokevirtual 69, 3) := by decide +kernel
theorem dL_law_444 : decode cL_law 444 = .ok (.aload_n 2, 1) := by decide +kernel
theorem dL_law_445 : decode cL_law 445 = .ok (.aload_n 0, 1) := by decide +kernel
theorem dL_law_446 : decode cL_law 446 = .ok (.iload_n 3, 1) := by decide +kernel
theorem dL_law_447 : decode cL_law 447 = .ok (.iconst 1, 1) := by decide +kernel
theorem dL_law_448 : decode cL_law 448 = .ok (.iadd, 1) := by decide +kernel
theorem dL_law_449 : decode cL_law 449 = .ok (.iaload, 1) := by decide +kernel
theorem dL_law_450 : decode cL_law 450 = .ok (.invokevirtual 72, 3) := by decide +kernel
theorem dL_law_453 : decode cL_law 453 = .ok (.if_icmp .eq 222, 3) := by decide +kernel
theorem dL_law_456 : decode cL_law 456 = .ok (.iconst 0, 1) := by decide +kernel
theorem dL_law_457 : decode cL_law 457 = .ok (.ireturn, 1) := by decide +kernel
theorem dL_law_458 : decode cL_law 458 = .ok (.aload_n 1, 1) := by decide +kernel
theorem dL_law_459 : decode cL_law 459 = .ok (.invokevirtual 73, 3) := by decide +kernel
theorem dL_law_462 : decode cL_law 462 = .ok (.aload_n 2, 1) := by decide +kernel
theorem dL_law_463 : decode cL_law 463 = .ok (.invokevirtual 76, 3) := by decide +kernel
theorem dL_law_466 : decode cL_law 466 = .ok (.if_icmp .eq 209, 3) := by decide +kernel
theorem dL_law_469 : decode cL_law 469 = .ok (.iconst 0, 1) := by decide +kernel
theorem dL_law_470 : decode cL_law 470 = .ok (.ireturn, 1) := by decide +kernel
theorem dL_law_471 : decode cL_law 471 = .ok (.aload_n 1, 1) := by decide +kernel
theorem dL_law_472 : decode cL_law 472 = .ok (.aload_n 0, 1) := by decide +kernel
theorem dL_law_473 : decode cL_law 473 = .ok (.iload_n 3, 1) := by decide +kernel
theorem dL_law_474 : decode cL_law 474 = .ok (.iconst 1, 1) := by decide +kernel
theorem dL_law_475 : decode cL_law 475 = .ok (.iadd, 1) := by decide +kernel
theorem dL_law_476 : decode cL_law 476 = .ok (.iaload, 1) := by decide +kernel
theorem dL_law_477 : decode cL_law 477 = .ok (.invokevirtual 77, 3) := by decide +kernel
theorem dL_law_480 : decode cL_law 480 = .ok (.aload_n 2, 1) := by decide +kernel
theorem dL_law_481 : decode cL_law 481 = .ok (.aload_n 0, 1) := by decide +kernel
theorem dL_law_482 : decode cL_law 482 = .ok (.iload_n 3, 1) := by decide +kernel
theorem dL_law_483 : decode cL_law 483 = .ok (.iconst 1, 1) := by decide +kernel
theorem dL_law_484 : decode cL_law 484 = .ok (.iadd, 1) := by decide +kernel
theorem dL_law_485 : decode cL_law 485 = .ok (.iaload, 1) := by decide +kernel
theorem dL_law_486 : decode cL_law 486 = .ok (.invokevirtual 80, 3) := by decide +kernel
theorem dL_law_489 : decode cL_law 489 = .ok (.if_icmp .eq 186, 3) := by decide +kernel
theorem dL_law_492 : decode cL_law 492 = .ok (.iconst 0, 1) := by decide +kernel
theorem dL_law_493 : decode cL_law 493 = .ok (.ireturn, 1) := by decide +kernel
theorem dL_law_494 : decode cL_law 494 = .ok (.aload_n 1, 1) := by decide +kernel
theorem dL_law_495 : decode cL_law 495 = .ok (.aload_n 0, 1) := by decide +kernel
theorem dL_law_496 : decode cL_law 496 = .ok (.iload_n 3, 1) := by decide +kernel
theorem dL_law_497 : decode cL_law 497 = .ok (.iconst 1, 1) := by decide +kernel
theorem dL_law_498 : decode cL_law 498 = .ok (.iadd, 1) := by decide +kernel
theorem dL_law_499 : decode cL_law 499 = .ok (.iaload, 1) := by decide +kernel
theorem dL_law_500 : decode cL_law 500 = .ok (.aload_n 0, 1) := by decide +kernel
theorem dL_law_501 : decode cL_law 501 = .ok (.iload_n 3, 1) := by decide +kernel
theorem dL_law_502 : decode cL_law 502 = .ok (.iconst 2, 1) := by decide +kernel
theorem dL_law_503 : decode cL_law 503 = .ok (.iadd, 1) := by decide +kernel
theorem dL_law_504 : decode cL_law 504 = .ok (.iaload, 1) := by decide +kernel
theorem dL_law_505 : decode cL_law 505 = .ok (.invokevirtual 81, 3) := by decide +kernel
theorem dL_law_508 : decode cL_law 508 = .ok (.aload_n 2, 1) := by decide +kernel
theorem dL_law_509 : decode cL_law 509 = .ok (.aload_n 0, 1) := by decide +kernel
theorem dL_law_510 : decode cL_law 510 = .ok (.iload_n 3, 1) := by decide +kernel
theorem dL_law_511 : decode cL_law 511 = .ok (.iconst 1, 1) := by decide +kernel
theorem dL_law_512 : decode cL_law 512 = .ok (.iadd, 1) := by decide +kernel
theorem dL_law_513 : decode cL_law 513 = .ok (.iaload, 1) := by decide +kernel
theorem dL_law_514 : decode cL_law 514 = .ok (.aload_n 0, 1) := by decide +kernel
theorem dL_law_515 : decode cL_law 515 = .ok (.iload_n 3, 1) := by decide +kernel
theorem dL_law_516 : decode cL_law 516 = .ok (.iconst 2, 1) := by decide +kernel
theorem dL_law_517 : decode cL_law 517 = .ok (.iadd, 1) := by decide +kernel
theorem dL_law_518 : decode cL_law 518 = .ok (.iaload, 1) := by decide +kernel
theorem dL_law_519 : decode cL_law 519 = .ok (.invokevirtual 85, 3) := by decide +kernel
theorem dL_law_522 : decode cL_law 522 = .ok (.lcmp, 1) := by decide +kernel
theorem dL_law_523 : decode cL_law 523 = .ok (.ifCond .eq 152, 3) := by decide +kernel
theorem dL_law_526 : decode cL_law 526 = .ok (.iconst 0, 1) := by decide +kernel
theorem dL_law_527 : decode cL_law 527 = .ok (.ireturn, 1) := by decide +kernel
theorem dL_law_528 : decode cL_law 528 = .ok (.aload_n 1, 1) := by decide +kernel
theorem dL_law_529 : decode cL_law 529 = .ok (.aload_n 0, 1) := by decide +kernel
theorem dL_law_530 : decode cL_law 530 = .ok (.iload_n 3, 1) := by decide +kernel
theorem dL_law_531 : decode cL_law 531 = .ok (.iconst 1, 1) := by decide +kernel
theorem dL_law_532 : decode cL_law 532 = .ok (.iadd, 1) := by decide +kernel
theorem dL_law_533 : decode cL_law 533 = .ok (.iaload, 1) := by decide +kernel
theorem dL_law_534 : decode cL_law 534 = .ok (.aload_n 0, 1) := by decide +kernel
theorem dL_law_535 : decode cL_law 535 = .ok (.iload_n 3, 1) := by decide +kernel
theorem dL_law_536 : decode cL_law 536 = .ok (.iconst 2, 1) := by decide +kernel
theorem dL_law_537 : decode cL_law 537 = .ok (.iadd, 1) := by decide +kernel
theorem dL_law_538 : decode cL_law 538 = .ok (.iaload, 1) := by decide +kernel
theorem dL_law_539 : decode cL_law 539 = .ok (.invokevirtual 86, 3) := by decide +kernel
theorem dL_law_542 : decode cL_law 542 = .ok (.aload_n 2, 1) := by decide +kernel
theorem dL_law_543 : decode cL_law 543 = .ok (.aload_n 0, 1) := by decide +kernel
theorem dL_law_544 : decode cL_law 544 = .ok (.iload_n 3, 1) := by decide +kernel
theorem dL_law_545 : decode cL_law 545 = .ok (.iconst 1, 1) := by decide +kernel
theorem dL_law_546 : decode cL_law 546 = .ok (.iadd, 1) := by decide +kernel
theorem dL_law_547 : decode cL_law 547 = .ok (.iaload, 1) := by decide +kernel
theorem dL_law_548 : decode cL_law 548 = .ok (.aload_n 0, 1) := by decide +kernel
theorem dL_law_549 : decode cL_law 549 = .ok (.iload_n 3, 1) := by decide +kernel
theorem dL_law_550 : decode cL_law 550 = .ok (.iconst 2, 1) := by decide +kernel
theorem dL_law_551 : decode cL_law 551 = .ok (.iadd, 1) := by decide +kernel
theorem dL_law_552 : decode cL_law 552 = .ok (.iaload, 1) := by decide +kernel
theorem dL_law_553 : decode cL_law 553 = .ok (.invokevirtual 89, 3) := by decide +kernel
theorem dL_law_556 : decode cL_law 556 = .ok (.lcmp, 1) := by decide +kernel
theorem dL_law_557 : decode cL_law 557 = .ok (.ifCond .eq 118, 3) := by decide +kernel
theorem dL_law_560 : decode cL_law 560 = .ok (.iconst 0, 1) := by decide +kernel
theorem dL_law_561 : decode cL_law 561 = .ok (.ireturn, 1) := by decide +kernel
theorem dL_law_562 : decode cL_law 562 = .ok (.aload_n 1, 1) := by decide +kernel
theorem dL_law_563 : decode cL_law 563 = .ok (.aload_n 0, 1) := by decide +kernel
theorem dL_law_564 : decode cL_law 564 = .ok (.iload_n 3, 1) := by decide +kernel
theorem dL_law_565 : decode cL_law 565 = .ok (.iconst 1, 1) := by decide +kernel
theorem dL_law_566 : decode cL_law 566 = .ok (.iadd, 1) := by decide +kernel
theorem dL_law_567 : decode cL_law 567 = .ok (.iaload, 1) := by decide +kernel
theorem dL_law_568 : decode cL_law 568 = .ok (.invokevirtual 90, 3) := by decide +kernel
theorem dL_law_571 : decode cL_law 571 = .ok (.aload_n 2, 1) := by decide +kernel
theorem dL_law_572 : decode cL_law 572 = .ok (.aload_n 0, 1) := by decide +kernel
theorem dL_law_573 : decode cL_law 573 = .ok (.iload_n 3, 1) := by decide +kernel
theorem dL_law_574 : decode cL_law 574 = .ok (.iconst 1, 1) := by decide +kernel
theorem dL_law_575 : decode cL_law 575 = .ok (.iadd, 1) := by decide +kernel
theorem dL_law_576 : decode cL_law 576 = .ok (.iaload, 1) := by decide +kernel
theorem dL_law_577 : decode cL_law 577 = .ok (.invokevirtual 93, 3) := by decide +kernel
theorem dL_law_580 : decode cL_law 580 = .ok (.if_icmp .eq 95, 3) := by decide +kernel
theorem dL_law_583 : decode cL_law 583 = .ok (.iconst 0, 1) := by decide +kernel
theorem dL_law_584 : decode cL_law 584 = .ok (.ireturn, 1) := by decide +kernel
theorem dL_law_585 : decode cL_law 585 = .ok (.aload_n 1, 1) := by decide +kernel
theorem dL_law_586 : decode cL_law 586 = .ok (.aload_n 0, 1) := by decide +kernel
theorem dL_law_587 : decode cL_law 587 = .ok (.iload_n 3, 1) := by decide +kernel
theorem dL_law_588 : decode cL_law 588 = .ok (.iconst 1, 1) := by decide +kernel
theorem dL_law_589 : decode cL_law 589 = .ok (.iadd, 1) := by decide +kernel
theorem dL_law_590 : decode cL_law 590 = .ok (.iaload, 1) := by decide +kernel
theorem dL_law_591 : decode cL_law 591 = .ok (.invokevirtual 94, 3) := by decide +kernel
theorem dL_law_594 : decode cL_law 594 = .ok (.aload_n 2, 1) := by decide +kernel
theorem dL_law_595 : decode cL_law 595 = .ok (.aload_n 0, 1) := by decide +kernel
theorem dL_law_596 : decode cL_law 596 = .ok (.iload_n 3, 1) := by decide +kernel
theorem dL_law_597 : decode cL_law 597 = .ok (.iconst 1, 1) := by decide +kernel
theorem dL_law_598 : decode cL_law 598 = .ok (.iadd, 1) := by decide +kernel
theorem dL_law_599 : decode cL_law 599 = .ok (.iaload, 1) := by decide +kernel
theorem dL_law_600 : decode cL_law 600 = .ok (.invokevirtual 98, 3) := by decide +kernel
theorem dL_law_603 : decode cL_law 603 = .ok (.lcmp, 1) := by decide +kernel
theorem dL_law_604 : decode cL_law 604 = .ok (.ifCond .eq 71, 3) := by decide +kernel
theorem dL_law_607 : decode cL_law 607 = .ok (.iconst 0, 1) := by decide +kernel
theorem dL_law_608 : decode cL_law 608 = .ok (.ireturn, 1) := by decide +kernel
theorem dL_law_609 : decode cL_law 609 = .ok (.aload_n 1, 1) := by decide +kernel
theorem dL_law_610 : decode cL_law 610 = .ok (.aload_n 0, 1) := by decide +kernel
theorem dL_law_611 : decode cL_law 611 = .ok (.iload_n 3, 1) := by decide +kernel
theorem dL_law_612 : decode cL_law 612 = .ok (.iconst 1, 1) := by decide +kernel
theorem dL_law_613 : decode cL_law 613 = .ok (.iadd, 1) := by decide +kernel
theorem dL_law_614 : decode cL_law 614 = .ok (.iaload, 1) := by decide +kernel
theorem dL_law_615 : decode cL_law 615 = .ok (.aload_n 0, 1) := by decide +kernel
theorem dL_law_616 : decode cL_law 616 = .ok (.iload_n 3, 1) := by decide +kernel
theorem dL_law_617 : decode cL_law 617 = .ok (.iconst 2, 1) := by decide +kernel
theorem dL_law_618 : decode cL_law 618 = .ok (.iadd, 1) := by decide +kernel
theorem dL_law_619 : decode cL_law 619 = .ok (.iaload, 1) := by decide +kernel
theorem dL_law_620 : decode cL_law 620 = .ok (.aload_n 0, 1) := by decide +kernel
theorem dL_law_621 : decode cL_law 621 = .ok (.iload_n 3, 1) := by decide +kernel
theorem dL_law_622 : decode cL_law 622 = .ok (.iconst 3, 1) := by decide +kernel
theorem dL_law_623 : decode cL_law 623 = .ok (.iadd, 1) := by decide +kernel
theorem dL_law_624 : decode cL_law 624 = .ok (.iaload, 1) := by decide +kernel
theorem dL_law_625 : decode cL_law 625 = .ok (.invokevirtual 99, 3) := by decide +kernel
theorem dL_law_628 : decode cL_law 628 = .ok (.aload_n 2, 1) := by decide +kernel
theorem dL_law_629 : decode cL_law 629 = .ok (.aload_n 0, 1) := by decide +kernel
theorem dL_law_630 : decode cL_law 630 = .ok (.iload_n 3, 1) := by decide +kernel
theorem dL_law_631 : decode cL_law 631 = .ok (.iconst 1, 1) := by decide +kernel
theorem dL_law_632 : decode cL_law 632 = .ok (.iadd, 1) := by decide +kernel
theorem dL_law_633 : decode cL_law 633 = .ok (.iaload, 1) := by decide +kernel
theorem dL_law_634 : decode cL_law 634 = .ok (.aload_n 0, 1) := by decide +kernel
theorem dL_law_635 : decode cL_law 635 = .ok (.iload_n 3, 1) := by decide +kernel
theorem dL_law_636 : decode cL_law 636 = .ok (.iconst 2, 1) := by decide +kernel
theorem dL_law_637 : decode cL_law 637 = .ok (.iadd, 1) := by decide +kernel
theorem dL_law_638 : decode cL_law 638 = .ok (.iaload, 1) := by decide +kernel
theorem dL_law_639 : decode cL_law 639 = .ok (.aload_n 0, 1) := by decide +kernel
theorem dL_law_640 : decode cL_law 640 = .ok (.iload_n 3, 1) := by decide +kernel
theorem dL_law_641 : decode cL_law 641 = .ok (.iconst 3, 1) := by decide +kernel
theorem dL_law_642 : decode cL_law 642 = .ok (.iadd, 1) := by decide +kernel
theorem dL_law_643 : decode cL_law 643 = .ok (.iaload, 1) := by decide +kernel
theorem dL_law_644 : decode cL_law 644 = .ok (.invokevirtual 102, 3) := by decide +kernel
theorem dL_law_647 : decode cL_law 647 = .ok (.if_icmp .eq 28, 3) := by decide +kernel
theorem dL_law_650 : decode cL_law 650 = .ok (.iconst 0, 1) := by decide +kernel
theorem dL_law_651 : decode cL_law 651 = .ok (.ireturn, 1) := by decide +kernel
theorem dL_law_652 : decode cL_law 652 = .ok (.aload_n 1, 1) := by decide +kernel
theorem dL_law_653 : decode cL_law 653 = .ok (.aload_n 0, 1) := by decide +kernel
theorem dL_law_654 : decode cL_law 654 = .ok (.iload_n 3, 1) := by decide +kernel
theorem dL_law_655 : decode cL_law 655 = .ok (.iconst 1, 1) := by decide +kernel
theorem dL_law_656 : decode cL_law 656 = .ok (.iadd, 1) := by decide +kernel
theorem dL_law_657 : decode cL_law 657 = .ok (.iaload, 1) := by decide +kernel
theorem dL_law_658 : decode cL_law 658 = .ok (.invokevirtual 103, 3) := by decide +kernel
theorem dL_law_661 : decode cL_law 661 = .ok (.aload_n 2, 1) := by decide +kernel
theorem dL_law_662 : decode cL_law 662 = .ok (.aload_n 0, 1) := by decide +kernel
theorem dL_law_663 : decode cL_law 663 = .ok (.iload_n 3, 1) := by decide +kernel
theorem dL_law_664 : decode cL_law 664 = .ok (.iconst 1, 1) := by decide +kernel
theorem dL_law_665 : decode cL_law 665 = .ok (.iadd, 1) := by decide +kernel
theorem dL_law_666 : decode cL_law 666 = .ok (.iaload, 1) := by decide +kernel
theorem dL_law_667 : decode cL_law 667 = .ok (.invokevirtual 106, 3) := by decide +kernel
theorem dL_law_670 : decode cL_law 670 = .ok (.if_icmp .eq 5, 3) := by decide +kernel
theorem dL_law_673 : decode cL_law 673 = .ok (.iconst 0, 1) := by decide +kernel
theorem dL_law_674 : decode cL_law 674 = .ok (.ireturn, 1) := by decide +kernel
theorem dL_law_675 : decode cL_law 675 = .ok (.iinc 3 4, 3) := by decide +kernel
theorem dL_law_678 : decode cL_law 678 = .ok (.goto (-660), 3) := by decide +kernel
theorem dL_law_681 : decode cL_law 681 = .ok (.iconst 1, 1) := by decide +kernel
theorem dL_law_682 : decode cL_law 682 = .ok (.ireturn, 1) := by decide +kernel
abbrev vwCl : List vw_C := [(RX0, TX0, 6), (RX1, TX1, 12), (RX2, TX2, 3), (RX3, TX3, 4), (RX4, TX4, 10), (RX5, TX5, 4), (RX6, TX6, 1), (RX7, TX7, 10), (RX8, TX8, 26)]
end
section
theorem rp_first : 1 + 1 = 2 := rfl
end
