section
-- ===== PART A: goes FIRST, ahead of the names: the tables' words, and 'selects' of the private methods out of them =====
/-- a private method of a class that the tables say can be made, by its rows of tables_1 -/
def lw_okq (q : MethodName × Nat) : Prop := (q.1.cls ≠ "java/lang/invoke/MethodHandle" ∧ q.1.cls ≠ "java/lang/invoke/VarHandle") ∧ Cond.instantiable q.1.cls q.2 ∈ tables_1 ∧ Cond.privateMethod q.1 ∈ tables_1 ∧ Cond.instanceMethod q.1 ∈ tables_1
theorem lw_p0 : lw_okq (⟨"StruckJury$Minds", "take", "(LStruckJury$Bench;)V"⟩, 7) := ⟨⟨by decide +kernel, by decide +kernel⟩, List.mem_of_getElem? (i := 83) (by decide +kernel), List.mem_of_getElem? (i := 198) (by decide +kernel), List.mem_of_getElem? (i := 199) (by decide +kernel)⟩
theorem lw_p1 : lw_okq (⟨"StruckJury$Bench", "needed", "()I"⟩, 5) := ⟨⟨by decide +kernel, by decide +kernel⟩, List.mem_of_getElem? (i := 21) (by decide +kernel), List.mem_of_getElem? (i := 202) (by decide +kernel), List.mem_of_getElem? (i := 203) (by decide +kernel)⟩
theorem lw_p2 : lw_okq (⟨"StruckJury", "refuse", "(I)I"⟩, 16) := ⟨⟨by decide +kernel, by decide +kernel⟩, List.mem_of_getElem? (i := 13) (by decide +kernel), List.mem_of_getElem? (i := 265) (by decide +kernel), List.mem_of_getElem? (i := 266) (by decide +kernel)⟩
theorem lw_p3 : lw_okq (⟨"StruckJury", "changed", "()V"⟩, 16) := ⟨⟨by decide +kernel, by decide +kernel⟩, List.mem_of_getElem? (i := 13) (by decide +kernel), List.mem_of_getElem? (i := 269) (by decide +kernel), List.mem_of_getElem? (i := 270) (by decide +kernel)⟩
theorem lw_p4 : lw_okq (⟨"StruckJury$Bench", "add", "(I)V"⟩, 5) := ⟨⟨by decide +kernel, by decide +kernel⟩, List.mem_of_getElem? (i := 21) (by decide +kernel), List.mem_of_getElem? (i := 277) (by decide +kernel), List.mem_of_getElem? (i := 278) (by decide +kernel)⟩
theorem lw_p5 : lw_okq (⟨"StruckJury$Text", "append", "(IJ)V"⟩, 5) := ⟨⟨by decide +kernel, by decide +kernel⟩, List.mem_of_getElem? (i := 59) (by decide +kernel), List.mem_of_getElem? (i := 297) (by decide +kernel), List.mem_of_getElem? (i := 298) (by decide +kernel)⟩
theorem lw_p6 : lw_okq (⟨"StruckJury$Text", "readInto", "(LStruckJury$Bench;)I"⟩, 5) := ⟨⟨by decide +kernel, by decide +kernel⟩, List.mem_of_getElem? (i := 59) (by decide +kernel), List.mem_of_getElem? (i := 305) (by decide +kernel), List.mem_of_getElem? (i := 306) (by decide +kernel)⟩
theorem lw_p7 : lw_okq (⟨"StruckJury$Text", "readStatement", "(LStruckJury$Bench;)Z"⟩, 5) := ⟨⟨by decide +kernel, by decide +kernel⟩, List.mem_of_getElem? (i := 59) (by decide +kernel), List.mem_of_getElem? (i := 309) (by decide +kernel), List.mem_of_getElem? (i := 310) (by decide +kernel)⟩
theorem lw_p8 : lw_okq (⟨"StruckJury$Text", "readSort", "(LStruckJury$Bench;)Z"⟩, 5) := ⟨⟨by decide +kernel, by decide +kernel⟩, List.mem_of_getElem? (i := 59) (by decide +kernel), List.mem_of_getElem? (i := 313) (by decide +kernel), List.mem_of_getElem? (i := 314) (by decide +kernel)⟩
theorem lw_p9 : lw_okq (⟨"StruckJury$Text", "digit", "(II)I"⟩, 5) := ⟨⟨by decide +kernel, by decide +kernel⟩, List.mem_of_getElem? (i := 59) (by decide +kernel), List.mem_of_getElem? (i := 317) (by decide +kernel), List.mem_of_getElem? (i := 318) (by decide +kernel)⟩
theorem lw_p10 : lw_okq (⟨"StruckJury$Text", "isDigit", "(II)Z"⟩, 5) := ⟨⟨by decide +kernel, by decide +kernel⟩, List.mem_of_getElem? (i := 59) (by decide +kernel), List.mem_of_getElem? (i := 321) (by decide +kernel), List.mem_of_getElem? (i := 322) (by decide +kernel)⟩
theorem lw_p11 : lw_okq (⟨"StruckJury$Text", "fault", "(I)Z"⟩, 5) := ⟨⟨by decide +kernel, by decide +kernel⟩, List.mem_of_getElem? (i := 59) (by decide +kernel), List.mem_of_getElem? (i := 325) (by decide +kernel), List.mem_of_getElem? (i := 326) (by decide +kernel)⟩
theorem lw_p12 : lw_okq (⟨"StruckJury$Text", "sign", "(C)Z"⟩, 5) := ⟨⟨by decide +kernel, by decide +kernel⟩, List.mem_of_getElem? (i := 59) (by decide +kernel), List.mem_of_getElem? (i := 329) (by decide +kernel), List.mem_of_getElem? (i := 330) (by decide +kernel)⟩
theorem lw_p13 : lw_okq (⟨"StruckJury$Text", "number", "()I"⟩, 5) := ⟨⟨by decide +kernel, by decide +kernel⟩, List.mem_of_getElem? (i := 59) (by decide +kernel), List.mem_of_getElem? (i := 333) (by decide +kernel), List.mem_of_getElem? (i := 334) (by decide +kernel)⟩
theorem lw_p14 : lw_okq (⟨"StruckJury$Text", "readPeople", "(LStruckJury$Bench;)Z"⟩, 5) := ⟨⟨by decide +kernel, by decide +kernel⟩, List.mem_of_getElem? (i := 59) (by decide +kernel), List.mem_of_getElem? (i := 337) (by decide +kernel), List.mem_of_getElem? (i := 338) (by decide +kernel)⟩
theorem lw_p15 : lw_okq (⟨"StruckJury$Text", "readTerm", "(LStruckJury$Bench;I)Z"⟩, 5) := ⟨⟨by decide +kernel, by decide +kernel⟩, List.mem_of_getElem? (i := 59) (by decide +kernel), List.mem_of_getElem? (i := 342) (by decide +kernel), List.mem_of_getElem? (i := 343) (by decide +kernel)⟩
def lw_privs_1 : List (MethodName × Nat) := [(⟨"StruckJury$Minds", "take", "(LStruckJury$Bench;)V"⟩, 7), (⟨"StruckJury$Bench", "needed", "()I"⟩, 5), (⟨"StruckJury", "refuse", "(I)I"⟩, 16), (⟨"StruckJury", "changed", "()V"⟩, 16), (⟨"StruckJury$Bench", "add", "(I)V"⟩, 5), (⟨"StruckJury$Text", "append", "(IJ)V"⟩, 5), (⟨"StruckJury$Text", "readInto", "(LStruckJury$Bench;)I"⟩, 5), (⟨"StruckJury$Text", "readStatement", "(LStruckJury$Bench;)Z"⟩, 5), (⟨"StruckJury$Text", "readSort", "(LStruckJury$Bench;)Z"⟩, 5), (⟨"StruckJury$Text", "digit", "(II)I"⟩, 5), (⟨"StruckJury$Text", "isDigit", "(II)Z"⟩, 5), (⟨"StruckJury$Text", "fault", "(I)Z"⟩, 5), (⟨"StruckJury$Text", "sign", "(C)Z"⟩, 5), (⟨"StruckJury$Text", "number", "()I"⟩, 5), (⟨"StruckJury$Text", "readPeople", "(LStruckJury$Bench;)Z"⟩, 5), (⟨"StruckJury$Text", "readTerm", "(LStruckJury$Bench;I)Z"⟩, 5)]
theorem lw_r1 : ∀ q ∈ lw_privs_1, lw_okq q := List.forall_mem_cons.mpr ⟨lw_p0, List.forall_mem_cons.mpr ⟨lw_p1, List.forall_mem_cons.mpr ⟨lw_p2, List.forall_mem_cons.mpr ⟨lw_p3, List.forall_mem_cons.mpr ⟨lw_p4, List.forall_mem_cons.mpr ⟨lw_p5, List.forall_mem_cons.mpr ⟨lw_p6, List.forall_mem_cons.mpr ⟨lw_p7, List.forall_mem_cons.mpr ⟨lw_p8, List.forall_mem_cons.mpr ⟨lw_p9, List.forall_mem_cons.mpr ⟨lw_p10, List.forall_mem_cons.mpr ⟨lw_p11, List.forall_mem_cons.mpr ⟨lw_p12, List.forall_mem_cons.mpr ⟨lw_p13, List.forall_mem_cons.mpr ⟨lw_p14, List.forall_mem_cons.mpr ⟨lw_p15, fun _ h => absurd h List.not_mem_nil⟩⟩⟩⟩⟩⟩⟩⟩⟩⟩⟩⟩⟩⟩⟩⟩
theorem lw_p16 : lw_okq (⟨"StruckJury$Text", "readStrikes", "(LStruckJury$Bench;)Z"⟩, 5) := ⟨⟨by decide +kernel, by decide +kernel⟩, List.mem_of_getElem? (i := 59) (by decide +kernel), List.mem_of_getElem? (i := 348) (by decide +kernel), List.mem_of_getElem? (i := 349) (by decide +kernel)⟩
theorem lw_p17 : lw_okq (⟨"StruckJury$Text", "readTruth", "(LStruckJury$Bench;)Z"⟩, 5) := ⟨⟨by decide +kernel, by decide +kernel⟩, List.mem_of_getElem? (i := 59) (by decide +kernel), List.mem_of_getElem? (i := 352) (by decide +kernel), List.mem_of_getElem? (i := 353) (by decide +kernel)⟩
theorem lw_p18 : lw_okq (⟨"StruckJury", "juryRefusal", "(I)I"⟩, 16) := ⟨⟨by decide +kernel, by decide +kernel⟩, List.mem_of_getElem? (i := 13) (by decide +kernel), List.mem_of_getElem? (i := 360) (by decide +kernel), List.mem_of_getElem? (i := 361) (by decide +kernel)⟩
theorem lw_p19 : lw_okq (⟨"StruckJury$Bench", "everyone", "()I"⟩, 5) := ⟨⟨by decide +kernel, by decide +kernel⟩, List.mem_of_getElem? (i := 21) (by decide +kernel), List.mem_of_getElem? (i := 364) (by decide +kernel), List.mem_of_getElem? (i := 365) (by decide +kernel)⟩
theorem lw_p20 : lw_okq (⟨"StruckJury", "refuseLong", "(I)J"⟩, 16) := ⟨⟨by decide +kernel, by decide +kernel⟩, List.mem_of_getElem? (i := 13) (by decide +kernel), List.mem_of_getElem? (i := 378) (by decide +kernel), List.mem_of_getElem? (i := 379) (by decide +kernel)⟩
theorem lw_p21 : lw_okq (⟨"StruckJury$Minds", "chanceOf", "(I)J"⟩, 7) := ⟨⟨by decide +kernel, by decide +kernel⟩, List.mem_of_getElem? (i := 83) (by decide +kernel), List.mem_of_getElem? (i := 383) (by decide +kernel), List.mem_of_getElem? (i := 384) (by decide +kernel)⟩
theorem lw_p22 : lw_okq (⟨"StruckJury$Minds", "spreadOut", "([II)V"⟩, 7) := ⟨⟨by decide +kernel, by decide +kernel⟩, List.mem_of_getElem? (i := 83) (by decide +kernel), List.mem_of_getElem? (i := 387) (by decide +kernel), List.mem_of_getElem? (i := 388) (by decide +kernel)⟩
theorem lw_p23 : lw_okq (⟨"StruckJury$Minds", "findsForA", "()J"⟩, 7) := ⟨⟨by decide +kernel, by decide +kernel⟩, List.mem_of_getElem? (i := 83) (by decide +kernel), List.mem_of_getElem? (i := 392) (by decide +kernel), List.mem_of_getElem? (i := 393) (by decide +kernel)⟩
theorem lw_p24 : lw_okq (⟨"StruckJury$Minds", "spreadSum", "(II)J"⟩, 7) := ⟨⟨by decide +kernel, by decide +kernel⟩, List.mem_of_getElem? (i := 83) (by decide +kernel), List.mem_of_getElem? (i := 396) (by decide +kernel), List.mem_of_getElem? (i := 397) (by decide +kernel)⟩
theorem lw_p25 : lw_okq (⟨"StruckJury$Minds", "rightOf", "(I)J"⟩, 7) := ⟨⟨by decide +kernel, by decide +kernel⟩, List.mem_of_getElem? (i := 83) (by decide +kernel), List.mem_of_getElem? (i := 404) (by decide +kernel), List.mem_of_getElem? (i := 405) (by decide +kernel)⟩
theorem lw_p26 : lw_okq (⟨"StruckJury$Minds", "findsForB", "()J"⟩, 7) := ⟨⟨by decide +kernel, by decide +kernel⟩, List.mem_of_getElem? (i := 83) (by decide +kernel), List.mem_of_getElem? (i := 408) (by decide +kernel), List.mem_of_getElem? (i := 409) (by decide +kernel)⟩
theorem lw_p27 : lw_okq (⟨"StruckJury", "leftRefusal", "(III)I"⟩, 16) := ⟨⟨by decide +kernel, by decide +kernel⟩, List.mem_of_getElem? (i := 13) (by decide +kernel), List.mem_of_getElem? (i := 416) (by decide +kernel), List.mem_of_getElem? (i := 417) (by decide +kernel)⟩
theorem lw_p28 : lw_okq (⟨"StruckJury$Turns", "lookBack", "(LStruckJury$Minds;IIII)V"⟩, 6) := ⟨⟨by decide +kernel, by decide +kernel⟩, List.mem_of_getElem? (i := 114) (by decide +kernel), List.mem_of_getElem? (i := 423) (by decide +kernel), List.mem_of_getElem? (i := 424) (by decide +kernel)⟩
theorem lw_p29 : lw_okq (⟨"StruckJury$Turns", "findTwins", "(LStruckJury$Minds;)V"⟩, 6) := ⟨⟨by decide +kernel, by decide +kernel⟩, List.mem_of_getElem? (i := 114) (by decide +kernel), List.mem_of_getElem? (i := 430) (by decide +kernel), List.mem_of_getElem? (i := 431) (by decide +kernel)⟩
theorem lw_p30 : lw_okq (⟨"StruckJury$Minds", "areAlike", "(II)Z"⟩, 7) := ⟨⟨by decide +kernel, by decide +kernel⟩, List.mem_of_getElem? (i := 83) (by decide +kernel), List.mem_of_getElem? (i := 434) (by decide +kernel), List.mem_of_getElem? (i := 435) (by decide +kernel)⟩
theorem lw_p31 : lw_okq (⟨"StruckJury$Turns", "worthOf", "(LStruckJury$Minds;I)J"⟩, 6) := ⟨⟨by decide +kernel, by decide +kernel⟩, List.mem_of_getElem? (i := 114) (by decide +kernel), List.mem_of_getElem? (i := 439) (by decide +kernel), List.mem_of_getElem? (i := 440) (by decide +kernel)⟩
def lw_privs_2 : List (MethodName × Nat) := [(⟨"StruckJury$Text", "readStrikes", "(LStruckJury$Bench;)Z"⟩, 5), (⟨"StruckJury$Text", "readTruth", "(LStruckJury$Bench;)Z"⟩, 5), (⟨"StruckJury", "juryRefusal", "(I)I"⟩, 16), (⟨"StruckJury$Bench", "everyone", "()I"⟩, 5), (⟨"StruckJury", "refuseLong", "(I)J"⟩, 16), (⟨"StruckJury$Minds", "chanceOf", "(I)J"⟩, 7), (⟨"StruckJury$Minds", "spreadOut", "([II)V"⟩, 7), (⟨"StruckJury$Minds", "findsForA", "()J"⟩, 7), (⟨"StruckJury$Minds", "spreadSum", "(II)J"⟩, 7), (⟨"StruckJury$Minds", "rightOf", "(I)J"⟩, 7), (⟨"StruckJury$Minds", "findsForB", "()J"⟩, 7), (⟨"StruckJury", "leftRefusal", "(III)I"⟩, 16), (⟨"StruckJury$Turns", "lookBack", "(LStruckJury$Minds;IIII)V"⟩, 6), (⟨"StruckJury$Turns", "findTwins", "(LStruckJury$Minds;)V"⟩, 6), (⟨"StruckJury$Minds", "areAlike", "(II)Z"⟩, 7), (⟨"StruckJury$Turns", "worthOf", "(LStruckJury$Minds;I)J"⟩, 6)]
theorem lw_r2 : ∀ q ∈ lw_privs_2, lw_okq q := List.forall_mem_cons.mpr ⟨lw_p16, List.forall_mem_cons.mpr ⟨lw_p17, List.forall_mem_cons.mpr ⟨lw_p18, List.forall_mem_cons.mpr ⟨lw_p19, List.forall_mem_cons.mpr ⟨lw_p20, List.forall_mem_cons.mpr ⟨lw_p21, List.forall_mem_cons.mpr ⟨lw_p22, List.forall_mem_cons.mpr ⟨lw_p23, List.forall_mem_cons.mpr ⟨lw_p24, List.forall_mem_cons.mpr ⟨lw_p25, List.forall_mem_cons.mpr ⟨lw_p26, List.forall_mem_cons.mpr ⟨lw_p27, List.forall_mem_cons.mpr ⟨lw_p28, List.forall_mem_cons.mpr ⟨lw_p29, List.forall_mem_cons.mpr ⟨lw_p30, List.forall_mem_cons.mpr ⟨lw_p31, fun _ h => absurd h List.not_mem_nil⟩⟩⟩⟩⟩⟩⟩⟩⟩⟩⟩⟩⟩⟩⟩⟩
theorem lw_p32 : lw_okq (⟨"StruckJury$Turns", "lesserLike", "(I)I"⟩, 6) := ⟨⟨by decide +kernel, by decide +kernel⟩, List.mem_of_getElem? (i := 114) (by decide +kernel), List.mem_of_getElem? (i := 443) (by decide +kernel), List.mem_of_getElem? (i := 444) (by decide +kernel)⟩
theorem lw_p33 : lw_okq (⟨"StruckJury$Turns", "valueAfterBest", "(II)J"⟩, 6) := ⟨⟨by decide +kernel, by decide +kernel⟩, List.mem_of_getElem? (i := 114) (by decide +kernel), List.mem_of_getElem? (i := 448) (by decide +kernel), List.mem_of_getElem? (i := 449) (by decide +kernel)⟩
theorem lw_p34 : lw_okq (⟨"StruckJury$Turns", "valueOf", "(I)J"⟩, 6) := ⟨⟨by decide +kernel, by decide +kernel⟩, List.mem_of_getElem? (i := 114) (by decide +kernel), List.mem_of_getElem? (i := 460) (by decide +kernel), List.mem_of_getElem? (i := 461) (by decide +kernel)⟩
theorem lw_p35 : lw_okq (⟨"StruckJury$Turns", "strikeFrom", "(I)I"⟩, 6) := ⟨⟨by decide +kernel, by decide +kernel⟩, List.mem_of_getElem? (i := 114) (by decide +kernel), List.mem_of_getElem? (i := 468) (by decide +kernel), List.mem_of_getElem? (i := 469) (by decide +kernel)⟩
theorem lw_p36 : lw_okq (⟨"StruckJury$Bench", "called", "()I"⟩, 5) := ⟨⟨by decide +kernel, by decide +kernel⟩, List.mem_of_getElem? (i := 21) (by decide +kernel), List.mem_of_getElem? (i := 476) (by decide +kernel), List.mem_of_getElem? (i := 477) (by decide +kernel)⟩
theorem lw_p37 : lw_okq (⟨"StruckJury$Bench", "strikes", "()I"⟩, 5) := ⟨⟨by decide +kernel, by decide +kernel⟩, List.mem_of_getElem? (i := 21) (by decide +kernel), List.mem_of_getElem? (i := 481) (by decide +kernel), List.mem_of_getElem? (i := 482) (by decide +kernel)⟩
theorem lw_p38 : lw_okq (⟨"StruckJury", "valueByTurns", "()J"⟩, 16) := ⟨⟨by decide +kernel, by decide +kernel⟩, List.mem_of_getElem? (i := 13) (by decide +kernel), List.mem_of_getElem? (i := 485) (by decide +kernel), List.mem_of_getElem? (i := 486) (by decide +kernel)⟩
theorem lw_p39 : lw_okq (⟨"StruckJury", "knowTurns", "()V"⟩, 16) := ⟨⟨by decide +kernel, by decide +kernel⟩, List.mem_of_getElem? (i := 13) (by decide +kernel), List.mem_of_getElem? (i := 489) (by decide +kernel), List.mem_of_getElem? (i := 490) (by decide +kernel)⟩
theorem lw_p40 : lw_okq (⟨"StruckJury$Bench", "calledSet", "()I"⟩, 5) := ⟨⟨by decide +kernel, by decide +kernel⟩, List.mem_of_getElem? (i := 21) (by decide +kernel), List.mem_of_getElem? (i := 493) (by decide +kernel), List.mem_of_getElem? (i := 494) (by decide +kernel)⟩
theorem lw_p41 : lw_okq (⟨"StruckJury$Bench", "strikesOf", "(I)I"⟩, 5) := ⟨⟨by decide +kernel, by decide +kernel⟩, List.mem_of_getElem? (i := 21) (by decide +kernel), List.mem_of_getElem? (i := 498) (by decide +kernel), List.mem_of_getElem? (i := 499) (by decide +kernel)⟩
theorem lw_p42 : lw_okq (⟨"StruckJury", "rowIsLawful", "()Z"⟩, 16) := ⟨⟨by decide +kernel, by decide +kernel⟩, List.mem_of_getElem? (i := 13) (by decide +kernel), List.mem_of_getElem? (i := 519) (by decide +kernel), List.mem_of_getElem? (i := 520) (by decide +kernel)⟩
theorem lw_p43 : lw_okq (⟨"StruckJury", "valueWith", "(LStruckJury$Minds;III)J"⟩, 16) := ⟨⟨by decide +kernel, by decide +kernel⟩, List.mem_of_getElem? (i := 13) (by decide +kernel), List.mem_of_getElem? (i := 535) (by decide +kernel), List.mem_of_getElem? (i := 536) (by decide +kernel)⟩
theorem lw_p44 : lw_okq (⟨"StruckJury", "knowPaper", "()V"⟩, 16) := ⟨⟨by decide +kernel, by decide +kernel⟩, List.mem_of_getElem? (i := 13) (by decide +kernel), List.mem_of_getElem? (i := 548) (by decide +kernel), List.mem_of_getElem? (i := 549) (by decide +kernel)⟩
theorem lw_p45 : lw_okq (⟨"StruckJury$Paper", "weigh", "(LStruckJury$Bench;)V"⟩, 8) := ⟨⟨by decide +kernel, by decide +kernel⟩, List.mem_of_getElem? (i := 139) (by decide +kernel), List.mem_of_getElem? (i := 552) (by decide +kernel), List.mem_of_getElem? (i := 553) (by decide +kernel)⟩
theorem lw_p46 : lw_okq (⟨"StruckJury$Paper", "fillValues", "(II)V"⟩, 8) := ⟨⟨by decide +kernel, by decide +kernel⟩, List.mem_of_getElem? (i := 139) (by decide +kernel), List.mem_of_getElem? (i := 558) (by decide +kernel), List.mem_of_getElem? (i := 559) (by decide +kernel)⟩
theorem lw_p47 : lw_okq (⟨"StruckJury$Paper", "weighSet", "(II)V"⟩, 8) := ⟨⟨by decide +kernel, by decide +kernel⟩, List.mem_of_getElem? (i := 139) (by decide +kernel), List.mem_of_getElem? (i := 569) (by decide +kernel), List.mem_of_getElem? (i := 570) (by decide +kernel)⟩
def lw_privs_3 : List (MethodName × Nat) := [(⟨"StruckJury$Turns", "lesserLike", "(I)I"⟩, 6), (⟨"StruckJury$Turns", "valueAfterBest", "(II)J"⟩, 6), (⟨"StruckJury$Turns", "valueOf", "(I)J"⟩, 6), (⟨"StruckJury$Turns", "strikeFrom", "(I)I"⟩, 6), (⟨"StruckJury$Bench", "called", "()I"⟩, 5), (⟨"StruckJury$Bench", "strikes", "()I"⟩, 5), (⟨"StruckJury", "valueByTurns", "()J"⟩, 16), (⟨"StruckJury", "knowTurns", "()V"⟩, 16), (⟨"StruckJury$Bench", "calledSet", "()I"⟩, 5), (⟨"StruckJury$Bench", "strikesOf", "(I)I"⟩, 5), (⟨"StruckJury", "rowIsLawful", "()Z"⟩, 16), (⟨"StruckJury", "valueWith", "(LStruckJury$Minds;III)J"⟩, 16), (⟨"StruckJury", "knowPaper", "()V"⟩, 16), (⟨"StruckJury$Paper", "weigh", "(LStruckJury$Bench;)V"⟩, 8), (⟨"StruckJury$Paper", "fillValues", "(II)V"⟩, 8), (⟨"StruckJury$Paper", "weighSet", "(II)V"⟩, 8)]
theorem lw_r3 : ∀ q ∈ lw_privs_3, lw_okq q := List.forall_mem_cons.mpr ⟨lw_p32, List.forall_mem_cons.mpr ⟨lw_p33, List.forall_mem_cons.mpr ⟨lw_p34, List.forall_mem_cons.mpr ⟨lw_p35, List.forall_mem_cons.mpr ⟨lw_p36, List.forall_mem_cons.mpr ⟨lw_p37, List.forall_mem_cons.mpr ⟨lw_p38, List.forall_mem_cons.mpr ⟨lw_p39, List.forall_mem_cons.mpr ⟨lw_p40, List.forall_mem_cons.mpr ⟨lw_p41, List.forall_mem_cons.mpr ⟨lw_p42, List.forall_mem_cons.mpr ⟨lw_p43, List.forall_mem_cons.mpr ⟨lw_p44, List.forall_mem_cons.mpr ⟨lw_p45, List.forall_mem_cons.mpr ⟨lw_p46, List.forall_mem_cons.mpr ⟨lw_p47, fun _ h => absurd h List.not_mem_nil⟩⟩⟩⟩⟩⟩⟩⟩⟩⟩⟩⟩⟩⟩⟩⟩
theorem lw_p48 : lw_okq (⟨"StruckJury$Paper", "restCount", "()I"⟩, 8) := ⟨⟨by decide +kernel, by decide +kernel⟩, List.mem_of_getElem? (i := 139) (by decide +kernel), List.mem_of_getElem? (i := 579) (by decide +kernel), List.mem_of_getElem? (i := 580) (by decide +kernel)⟩
theorem lw_p49 : lw_okq (⟨"StruckJury$Paper", "restOfA", "(I)I"⟩, 8) := ⟨⟨by decide +kernel, by decide +kernel⟩, List.mem_of_getElem? (i := 139) (by decide +kernel), List.mem_of_getElem? (i := 587) (by decide +kernel), List.mem_of_getElem? (i := 588) (by decide +kernel)⟩
theorem lw_p50 : lw_okq (⟨"StruckJury$Paper", "restOfB", "(I)I"⟩, 8) := ⟨⟨by decide +kernel, by decide +kernel⟩, List.mem_of_getElem? (i := 139) (by decide +kernel), List.mem_of_getElem? (i := 591) (by decide +kernel), List.mem_of_getElem? (i := 592) (by decide +kernel)⟩
theorem lw_p51 : lw_okq (⟨"StruckJury", "knowComing", "()V"⟩, 16) := ⟨⟨by decide +kernel, by decide +kernel⟩, List.mem_of_getElem? (i := 13) (by decide +kernel), List.mem_of_getElem? (i := 606) (by decide +kernel), List.mem_of_getElem? (i := 607) (by decide +kernel)⟩
theorem lw_p52 : lw_okq (⟨"StruckJury$Coming", "goBack", "(LStruckJury$Bench;)V"⟩, 7) := ⟨⟨by decide +kernel, by decide +kernel⟩, List.mem_of_getElem? (i := 170) (by decide +kernel), List.mem_of_getElem? (i := 610) (by decide +kernel), List.mem_of_getElem? (i := 611) (by decide +kernel)⟩
theorem lw_p53 : lw_okq (⟨"StruckJury$Coming", "decideAll", "(II)V"⟩, 7) := ⟨⟨by decide +kernel, by decide +kernel⟩, List.mem_of_getElem? (i := 170) (by decide +kernel), List.mem_of_getElem? (i := 617) (by decide +kernel), List.mem_of_getElem? (i := 618) (by decide +kernel)⟩
theorem lw_p54 : lw_okq (⟨"StruckJury$Coming", "decide", "(III)I"⟩, 7) := ⟨⟨by decide +kernel, by decide +kernel⟩, List.mem_of_getElem? (i := 170) (by decide +kernel), List.mem_of_getElem? (i := 628) (by decide +kernel), List.mem_of_getElem? (i := 629) (by decide +kernel)⟩
theorem lw_p55 : lw_okq (⟨"StruckJury$Coming", "endFrom", "(III)I"⟩, 7) := ⟨⟨by decide +kernel, by decide +kernel⟩, List.mem_of_getElem? (i := 170) (by decide +kernel), List.mem_of_getElem? (i := 632) (by decide +kernel), List.mem_of_getElem? (i := 633) (by decide +kernel)⟩
theorem lw_p56 : lw_okq (⟨"StruckJury$Coming", "valueOfEnd", "(I)J"⟩, 7) := ⟨⟨by decide +kernel, by decide +kernel⟩, List.mem_of_getElem? (i := 170) (by decide +kernel), List.mem_of_getElem? (i := 638) (by decide +kernel), List.mem_of_getElem? (i := 639) (by decide +kernel)⟩
theorem lw_p57 : lw_okq (⟨"StruckJury$Coming", "jury", "()I"⟩, 7) := ⟨⟨by decide +kernel, by decide +kernel⟩, List.mem_of_getElem? (i := 170) (by decide +kernel), List.mem_of_getElem? (i := 644) (by decide +kernel), List.mem_of_getElem? (i := 645) (by decide +kernel)⟩
theorem lw_p58 : lw_okq (⟨"StruckJury$Coming", "keptBack", "(I)I"⟩, 7) := ⟨⟨by decide +kernel, by decide +kernel⟩, List.mem_of_getElem? (i := 170) (by decide +kernel), List.mem_of_getElem? (i := 652) (by decide +kernel), List.mem_of_getElem? (i := 653) (by decide +kernel)⟩
theorem lw_p59 : lw_okq (⟨"StruckJury", "setsAsStruck", "(III)J"⟩, 16) := ⟨⟨by decide +kernel, by decide +kernel⟩, List.mem_of_getElem? (i := 13) (by decide +kernel), List.mem_of_getElem? (i := 663) (by decide +kernel), List.mem_of_getElem? (i := 664) (by decide +kernel)⟩
theorem lw_p60 : lw_okq (⟨"StruckJury$Bench", "ofSort", "(I)I"⟩, 5) := ⟨⟨by decide +kernel, by decide +kernel⟩, List.mem_of_getElem? (i := 21) (by decide +kernel), List.mem_of_getElem? (i := 667) (by decide +kernel), List.mem_of_getElem? (i := 668) (by decide +kernel)⟩
theorem lw_p61 : lw_okq (⟨"StruckJury$Bench", "sideAt", "(I)I"⟩, 5) := ⟨⟨by decide +kernel, by decide +kernel⟩, List.mem_of_getElem? (i := 21) (by decide +kernel), List.mem_of_getElem? (i := 671) (by decide +kernel), List.mem_of_getElem? (i := 672) (by decide +kernel)⟩
theorem lw_p62 : lw_okq (⟨"StruckJury$Turns", "juryAtLast", "()I"⟩, 6) := ⟨⟨by decide +kernel, by decide +kernel⟩, List.mem_of_getElem? (i := 114) (by decide +kernel), List.mem_of_getElem? (i := 681) (by decide +kernel), List.mem_of_getElem? (i := 682) (by decide +kernel)⟩
theorem lw_p63 : lw_okq (⟨"StruckJury$Minds", "rightOfAll", "(I)J"⟩, 7) := ⟨⟨by decide +kernel, by decide +kernel⟩, List.mem_of_getElem? (i := 83) (by decide +kernel), List.mem_of_getElem? (i := 690) (by decide +kernel), List.mem_of_getElem? (i := 691) (by decide +kernel)⟩
def lw_privs_4 : List (MethodName × Nat) := [(⟨"StruckJury$Paper", "restCount", "()I"⟩, 8), (⟨"StruckJury$Paper", "restOfA", "(I)I"⟩, 8), (⟨"StruckJury$Paper", "restOfB", "(I)I"⟩, 8), (⟨"StruckJury", "knowComing", "()V"⟩, 16), (⟨"StruckJury$Coming", "goBack", "(LStruckJury$Bench;)V"⟩, 7), (⟨"StruckJury$Coming", "decideAll", "(II)V"⟩, 7), (⟨"StruckJury$Coming", "decide", "(III)I"⟩, 7), (⟨"StruckJury$Coming", "endFrom", "(III)I"⟩, 7), (⟨"StruckJury$Coming", "valueOfEnd", "(I)J"⟩, 7), (⟨"StruckJury$Coming", "jury", "()I"⟩, 7), (⟨"StruckJury$Coming", "keptBack", "(I)I"⟩, 7), (⟨"StruckJury", "setsAsStruck", "(III)J"⟩, 16), (⟨"StruckJury$Bench", "ofSort", "(I)I"⟩, 5), (⟨"StruckJury$Bench", "sideAt", "(I)I"⟩, 5), (⟨"StruckJury$Turns", "juryAtLast", "()I"⟩, 6), (⟨"StruckJury$Minds", "rightOfAll", "(I)J"⟩, 7)]
theorem lw_r4 : ∀ q ∈ lw_privs_4, lw_okq q := List.forall_mem_cons.mpr ⟨lw_p48, List.forall_mem_cons.mpr ⟨lw_p49, List.forall_mem_cons.mpr ⟨lw_p50, List.forall_mem_cons.mpr ⟨lw_p51, List.forall_mem_cons.mpr ⟨lw_p52, List.forall_mem_cons.mpr ⟨lw_p53, List.forall_mem_cons.mpr ⟨lw_p54, List.forall_mem_cons.mpr ⟨lw_p55, List.forall_mem_cons.mpr ⟨lw_p56, List.forall_mem_cons.mpr ⟨lw_p57, List.forall_mem_cons.mpr ⟨lw_p58, List.forall_mem_cons.mpr ⟨lw_p59, List.forall_mem_cons.mpr ⟨lw_p60, List.forall_mem_cons.mpr ⟨lw_p61, List.forall_mem_cons.mpr ⟨lw_p62, List.forall_mem_cons.mpr ⟨lw_p63, fun _ h => absurd h List.not_mem_nil⟩⟩⟩⟩⟩⟩⟩⟩⟩⟩⟩⟩⟩⟩⟩⟩
theorem lw_p64 : lw_okq (⟨"StruckJury$Minds", "spreadOutAll", "([II)V"⟩, 7) := ⟨⟨by decide +kernel, by decide +kernel⟩, List.mem_of_getElem? (i := 83) (by decide +kernel), List.mem_of_getElem? (i := 694) (by decide +kernel), List.mem_of_getElem? (i := 695) (by decide +kernel)⟩
theorem lw_p65 : lw_okq (⟨"StruckJury$Minds", "lean", "(III)V"⟩, 7) := ⟨⟨by decide +kernel, by decide +kernel⟩, List.mem_of_getElem? (i := 83) (by decide +kernel), List.mem_of_getElem? (i := 706) (by decide +kernel), List.mem_of_getElem? (i := 707) (by decide +kernel)⟩
theorem lw_p66 : lw_okq (⟨"StruckJury", "juryOfTwoMinds", "()I"⟩, 16) := ⟨⟨by decide +kernel, by decide +kernel⟩, List.mem_of_getElem? (i := 13) (by decide +kernel), List.mem_of_getElem? (i := 710) (by decide +kernel), List.mem_of_getElem? (i := 711) (by decide +kernel)⟩
theorem lw_p67 : lw_okq (⟨"StruckJury", "valueLeaning", "(II)J"⟩, 16) := ⟨⟨by decide +kernel, by decide +kernel⟩, List.mem_of_getElem? (i := 13) (by decide +kernel), List.mem_of_getElem? (i := 718) (by decide +kernel), List.mem_of_getElem? (i := 719) (by decide +kernel)⟩
theorem lw_p68 : lw_okq (⟨"StruckJury$Bench", "copy", "(LStruckJury$Bench;)V"⟩, 5) := ⟨⟨by decide +kernel, by decide +kernel⟩, List.mem_of_getElem? (i := 21) (by decide +kernel), List.mem_of_getElem? (i := 732) (by decide +kernel), List.mem_of_getElem? (i := 733) (by decide +kernel)⟩
theorem lw_p69 : lw_okq (⟨"StruckJuryModel", "no", "(I)I"⟩, 36) := ⟨⟨by decide +kernel, by decide +kernel⟩, List.mem_of_getElem? (i := 747) (by decide +kernel), List.mem_of_getElem? (i := 871) (by decide +kernel), List.mem_of_getElem? (i := 872) (by decide +kernel)⟩
theorem lw_p70 : lw_okq (⟨"StruckJuryModel", "statement", "()Z"⟩, 36) := ⟨⟨by decide +kernel, by decide +kernel⟩, List.mem_of_getElem? (i := 747) (by decide +kernel), List.mem_of_getElem? (i := 902) (by decide +kernel), List.mem_of_getElem? (i := 903) (by decide +kernel)⟩
theorem lw_p71 : lw_okq (⟨"StruckJuryModel", "sign", "()I"⟩, 36) := ⟨⟨by decide +kernel, by decide +kernel⟩, List.mem_of_getElem? (i := 747) (by decide +kernel), List.mem_of_getElem? (i := 906) (by decide +kernel), List.mem_of_getElem? (i := 907) (by decide +kernel)⟩
theorem lw_p72 : lw_okq (⟨"StruckJuryModel", "readsSort", "()Z"⟩, 36) := ⟨⟨by decide +kernel, by decide +kernel⟩, List.mem_of_getElem? (i := 747) (by decide +kernel), List.mem_of_getElem? (i := 910) (by decide +kernel), List.mem_of_getElem? (i := 911) (by decide +kernel)⟩
theorem lw_p73 : lw_okq (⟨"StruckJuryModel", "digit", "(II)I"⟩, 36) := ⟨⟨by decide +kernel, by decide +kernel⟩, List.mem_of_getElem? (i := 747) (by decide +kernel), List.mem_of_getElem? (i := 914) (by decide +kernel), List.mem_of_getElem? (i := 915) (by decide +kernel)⟩
theorem lw_p74 : lw_okq (⟨"StruckJuryModel", "takes", "(I)Z"⟩, 36) := ⟨⟨by decide +kernel, by decide +kernel⟩, List.mem_of_getElem? (i := 747) (by decide +kernel), List.mem_of_getElem? (i := 918) (by decide +kernel), List.mem_of_getElem? (i := 919) (by decide +kernel)⟩
theorem lw_p75 : lw_okq (⟨"StruckJuryModel", "hundredths", "()I"⟩, 36) := ⟨⟨by decide +kernel, by decide +kernel⟩, List.mem_of_getElem? (i := 747) (by decide +kernel), List.mem_of_getElem? (i := 922) (by decide +kernel), List.mem_of_getElem? (i := 923) (by decide +kernel)⟩
theorem lw_p76 : lw_okq (⟨"StruckJuryModel", "readsPeople", "()Z"⟩, 36) := ⟨⟨by decide +kernel, by decide +kernel⟩, List.mem_of_getElem? (i := 747) (by decide +kernel), List.mem_of_getElem? (i := 926) (by decide +kernel), List.mem_of_getElem? (i := 927) (by decide +kernel)⟩
theorem lw_p77 : lw_okq (⟨"StruckJuryModel", "readsNumber", "(I)Z"⟩, 36) := ⟨⟨by decide +kernel, by decide +kernel⟩, List.mem_of_getElem? (i := 747) (by decide +kernel), List.mem_of_getElem? (i := 930) (by decide +kernel), List.mem_of_getElem? (i := 931) (by decide +kernel)⟩
theorem lw_p78 : lw_okq (⟨"StruckJuryModel", "notJury", "(I)I"⟩, 36) := ⟨⟨by decide +kernel, by decide +kernel⟩, List.mem_of_getElem? (i := 747) (by decide +kernel), List.mem_of_getElem? (i := 938) (by decide +kernel), List.mem_of_getElem? (i := 939) (by decide +kernel)⟩
theorem lw_p79 : lw_okq (⟨"StruckJuryModel", "needed", "()I"⟩, 36) := ⟨⟨by decide +kernel, by decide +kernel⟩, List.mem_of_getElem? (i := 747) (by decide +kernel), List.mem_of_getElem? (i := 945) (by decide +kernel), List.mem_of_getElem? (i := 946) (by decide +kernel)⟩
def lw_privs_5 : List (MethodName × Nat) := [(⟨"StruckJury$Minds", "spreadOutAll", "([II)V"⟩, 7), (⟨"StruckJury$Minds", "lean", "(III)V"⟩, 7), (⟨"StruckJury", "juryOfTwoMinds", "()I"⟩, 16), (⟨"StruckJury", "valueLeaning", "(II)J"⟩, 16), (⟨"StruckJury$Bench", "copy", "(LStruckJury$Bench;)V"⟩, 5), (⟨"StruckJuryModel", "no", "(I)I"⟩, 36), (⟨"StruckJuryModel", "statement", "()Z"⟩, 36), (⟨"StruckJuryModel", "sign", "()I"⟩, 36), (⟨"StruckJuryModel", "readsSort", "()Z"⟩, 36), (⟨"StruckJuryModel", "digit", "(II)I"⟩, 36), (⟨"StruckJuryModel", "takes", "(I)Z"⟩, 36), (⟨"StruckJuryModel", "hundredths", "()I"⟩, 36), (⟨"StruckJuryModel", "readsPeople", "()Z"⟩, 36), (⟨"StruckJuryModel", "readsNumber", "(I)Z"⟩, 36), (⟨"StruckJuryModel", "notJury", "(I)I"⟩, 36), (⟨"StruckJuryModel", "needed", "()I"⟩, 36)]
theorem lw_r5 : ∀ q ∈ lw_privs_5, lw_okq q := List.forall_mem_cons.mpr ⟨lw_p64, List.forall_mem_cons.mpr ⟨lw_p65, List.forall_mem_cons.mpr ⟨lw_p66, List.forall_mem_cons.mpr ⟨lw_p67, List.forall_mem_cons.mpr ⟨lw_p68, List.forall_mem_cons.mpr ⟨lw_p69, List.forall_mem_cons.mpr ⟨lw_p70, List.forall_mem_cons.mpr ⟨lw_p71, List.forall_mem_cons.mpr ⟨lw_p72, List.forall_mem_cons.mpr ⟨lw_p73, List.forall_mem_cons.mpr ⟨lw_p74, List.forall_mem_cons.mpr ⟨lw_p75, List.forall_mem_cons.mpr ⟨lw_p76, List.forall_mem_cons.mpr ⟨lw_p77, List.forall_mem_cons.mpr ⟨lw_p78, List.forall_mem_cons.mpr ⟨lw_p79, fun _ h => absurd h List.not_mem_nil⟩⟩⟩⟩⟩⟩⟩⟩⟩⟩⟩⟩⟩⟩⟩⟩
theorem lw_p80 : lw_okq (⟨"StruckJuryModel", "noLong", "(I)J"⟩, 36) := ⟨⟨by decide +kernel, by decide +kernel⟩, List.mem_of_getElem? (i := 747) (by decide +kernel), List.mem_of_getElem? (i := 949) (by decide +kernel), List.mem_of_getElem? (i := 950) (by decide +kernel)⟩
theorem lw_p81 : lw_okq (⟨"StruckJuryModel", "holdsTrue", "()V"⟩, 36) := ⟨⟨by decide +kernel, by decide +kernel⟩, List.mem_of_getElem? (i := 747) (by decide +kernel), List.mem_of_getElem? (i := 954) (by decide +kernel), List.mem_of_getElem? (i := 955) (by decide +kernel)⟩
theorem lw_p82 : lw_okq (⟨"StruckJuryModel", "chanceOf", "(I)J"⟩, 36) := ⟨⟨by decide +kernel, by decide +kernel⟩, List.mem_of_getElem? (i := 747) (by decide +kernel), List.mem_of_getElem? (i := 958) (by decide +kernel), List.mem_of_getElem? (i := 959) (by decide +kernel)⟩
theorem lw_p83 : lw_okq (⟨"StruckJuryModel", "found", "(IIZ)J"⟩, 36) := ⟨⟨by decide +kernel, by decide +kernel⟩, List.mem_of_getElem? (i := 747) (by decide +kernel), List.mem_of_getElem? (i := 962) (by decide +kernel), List.mem_of_getElem? (i := 963) (by decide +kernel)⟩
theorem lw_p84 : lw_okq (⟨"StruckJuryModel", "findFor", "(II)V"⟩, 36) := ⟨⟨by decide +kernel, by decide +kernel⟩, List.mem_of_getElem? (i := 747) (by decide +kernel), List.mem_of_getElem? (i := 966) (by decide +kernel), List.mem_of_getElem? (i := 967) (by decide +kernel)⟩
theorem lw_p85 : lw_okq (⟨"StruckJuryModel", "rightOf", "(I)J"⟩, 36) := ⟨⟨by decide +kernel, by decide +kernel⟩, List.mem_of_getElem? (i := 747) (by decide +kernel), List.mem_of_getElem? (i := 974) (by decide +kernel), List.mem_of_getElem? (i := 975) (by decide +kernel)⟩
theorem lw_p86 : lw_okq (⟨"StruckJuryModel", "notLeft", "(III)I"⟩, 36) := ⟨⟨by decide +kernel, by decide +kernel⟩, List.mem_of_getElem? (i := 747) (by decide +kernel), List.mem_of_getElem? (i := 982) (by decide +kernel), List.mem_of_getElem? (i := 983) (by decide +kernel)⟩
theorem lw_p87 : lw_okq (⟨"StruckJuryModel", "findBest", "(III)V"⟩, 36) := ⟨⟨by decide +kernel, by decide +kernel⟩, List.mem_of_getElem? (i := 747) (by decide +kernel), List.mem_of_getElem? (i := 986) (by decide +kernel), List.mem_of_getElem? (i := 987) (by decide +kernel)⟩
theorem lw_p88 : lw_okq (⟨"StruckJuryModel", "valueOf", "(IIII)J"⟩, 36) := ⟨⟨by decide +kernel, by decide +kernel⟩, List.mem_of_getElem? (i := 747) (by decide +kernel), List.mem_of_getElem? (i := 993) (by decide +kernel), List.mem_of_getElem? (i := 994) (by decide +kernel)⟩
theorem lw_p89 : lw_okq (⟨"StruckJuryModel", "behind", "(IIIII)J"⟩, 36) := ⟨⟨by decide +kernel, by decide +kernel⟩, List.mem_of_getElem? (i := 747) (by decide +kernel), List.mem_of_getElem? (i := 1000) (by decide +kernel), List.mem_of_getElem? (i := 1001) (by decide +kernel)⟩
theorem lw_p90 : lw_okq (⟨"StruckJuryModel", "strikeOf", "(IIII)I"⟩, 36) := ⟨⟨by decide +kernel, by decide +kernel⟩, List.mem_of_getElem? (i := 747) (by decide +kernel), List.mem_of_getElem? (i := 1008) (by decide +kernel), List.mem_of_getElem? (i := 1009) (by decide +kernel)⟩
theorem lw_p91 : lw_okq (⟨"StruckJuryModel", "isEnough", "()Z"⟩, 36) := ⟨⟨by decide +kernel, by decide +kernel⟩, List.mem_of_getElem? (i := 747) (by decide +kernel), List.mem_of_getElem? (i := 1016) (by decide +kernel), List.mem_of_getElem? (i := 1017) (by decide +kernel)⟩
theorem lw_p92 : lw_okq (⟨"StruckJuryModel", "calledMany", "()I"⟩, 36) := ⟨⟨by decide +kernel, by decide +kernel⟩, List.mem_of_getElem? (i := 747) (by decide +kernel), List.mem_of_getElem? (i := 1020) (by decide +kernel), List.mem_of_getElem? (i := 1021) (by decide +kernel)⟩
theorem lw_p93 : lw_okq (⟨"StruckJuryModel", "findTurns", "()V"⟩, 36) := ⟨⟨by decide +kernel, by decide +kernel⟩, List.mem_of_getElem? (i := 747) (by decide +kernel), List.mem_of_getElem? (i := 1024) (by decide +kernel), List.mem_of_getElem? (i := 1025) (by decide +kernel)⟩
theorem lw_p94 : lw_okq (⟨"StruckJuryModel", "called", "()I"⟩, 36) := ⟨⟨by decide +kernel, by decide +kernel⟩, List.mem_of_getElem? (i := 747) (by decide +kernel), List.mem_of_getElem? (i := 1028) (by decide +kernel), List.mem_of_getElem? (i := 1029) (by decide +kernel)⟩
theorem lw_p95 : lw_okq (⟨"StruckJuryModel", "turnsOf", "()J"⟩, 36) := ⟨⟨by decide +kernel, by decide +kernel⟩, List.mem_of_getElem? (i := 747) (by decide +kernel), List.mem_of_getElem? (i := 1032) (by decide +kernel), List.mem_of_getElem? (i := 1033) (by decide +kernel)⟩
def lw_privs_6 : List (MethodName × Nat) := [(⟨"StruckJuryModel", "noLong", "(I)J"⟩, 36), (⟨"StruckJuryModel", "holdsTrue", "()V"⟩, 36), (⟨"StruckJuryModel", "chanceOf", "(I)J"⟩, 36), (⟨"StruckJuryModel", "found", "(IIZ)J"⟩, 36), (⟨"StruckJuryModel", "findFor", "(II)V"⟩, 36), (⟨"StruckJuryModel", "rightOf", "(I)J"⟩, 36), (⟨"StruckJuryModel", "notLeft", "(III)I"⟩, 36), (⟨"StruckJuryModel", "findBest", "(III)V"⟩, 36), (⟨"StruckJuryModel", "valueOf", "(IIII)J"⟩, 36), (⟨"StruckJuryModel", "behind", "(IIIII)J"⟩, 36), (⟨"StruckJuryModel", "strikeOf", "(IIII)I"⟩, 36), (⟨"StruckJuryModel", "isEnough", "()Z"⟩, 36), (⟨"StruckJuryModel", "calledMany", "()I"⟩, 36), (⟨"StruckJuryModel", "findTurns", "()V"⟩, 36), (⟨"StruckJuryModel", "called", "()I"⟩, 36), (⟨"StruckJuryModel", "turnsOf", "()J"⟩, 36)]
theorem lw_r6 : ∀ q ∈ lw_privs_6, lw_okq q := List.forall_mem_cons.mpr ⟨lw_p80, List.forall_mem_cons.mpr ⟨lw_p81, List.forall_mem_cons.mpr ⟨lw_p82, List.forall_mem_cons.mpr ⟨lw_p83, List.forall_mem_cons.mpr ⟨lw_p84, List.forall_mem_cons.mpr ⟨lw_p85, List.forall_mem_cons.mpr ⟨lw_p86, List.forall_mem_cons.mpr ⟨lw_p87, List.forall_mem_cons.mpr ⟨lw_p88, List.forall_mem_cons.mpr ⟨lw_p89, List.forall_mem_cons.mpr ⟨lw_p90, List.forall_mem_cons.mpr ⟨lw_p91, List.forall_mem_cons.mpr ⟨lw_p92, List.forall_mem_cons.mpr ⟨lw_p93, List.forall_mem_cons.mpr ⟨lw_p94, List.forall_mem_cons.mpr ⟨lw_p95, fun _ h => absurd h List.not_mem_nil⟩⟩⟩⟩⟩⟩⟩⟩⟩⟩⟩⟩⟩⟩⟩⟩
theorem lw_p96 : lw_okq (⟨"StruckJuryModel", "findLine", "()V"⟩, 36) := ⟨⟨by decide +kernel, by decide +kernel⟩, List.mem_of_getElem? (i := 747) (by decide +kernel), List.mem_of_getElem? (i := 1040) (by decide +kernel), List.mem_of_getElem? (i := 1041) (by decide +kernel)⟩
theorem lw_p97 : lw_okq (⟨"StruckJuryModel", "isLawful", "()Z"⟩, 36) := ⟨⟨by decide +kernel, by decide +kernel⟩, List.mem_of_getElem? (i := 747) (by decide +kernel), List.mem_of_getElem? (i := 1056) (by decide +kernel), List.mem_of_getElem? (i := 1057) (by decide +kernel)⟩
theorem lw_p98 : lw_okq (⟨"StruckJuryModel", "findSlip", "()I"⟩, 36) := ⟨⟨by decide +kernel, by decide +kernel⟩, List.mem_of_getElem? (i := 747) (by decide +kernel), List.mem_of_getElem? (i := 1064) (by decide +kernel), List.mem_of_getElem? (i := 1065) (by decide +kernel)⟩
theorem lw_p99 : lw_okq (⟨"StruckJuryModel", "restOf", "(I)I"⟩, 36) := ⟨⟨by decide +kernel, by decide +kernel⟩, List.mem_of_getElem? (i := 747) (by decide +kernel), List.mem_of_getElem? (i := 1080) (by decide +kernel), List.mem_of_getElem? (i := 1081) (by decide +kernel)⟩
theorem lw_p100 : lw_okq (⟨"StruckJuryModel", "findPaper", "()V"⟩, 36) := ⟨⟨by decide +kernel, by decide +kernel⟩, List.mem_of_getElem? (i := 747) (by decide +kernel), List.mem_of_getElem? (i := 1084) (by decide +kernel), List.mem_of_getElem? (i := 1085) (by decide +kernel)⟩
theorem lw_p101 : lw_okq (⟨"StruckJuryModel", "juryOf", "(II)I"⟩, 36) := ⟨⟨by decide +kernel, by decide +kernel⟩, List.mem_of_getElem? (i := 747) (by decide +kernel), List.mem_of_getElem? (i := 1088) (by decide +kernel), List.mem_of_getElem? (i := 1089) (by decide +kernel)⟩
theorem lw_p102 : lw_okq (⟨"StruckJuryModel", "isRest", "(II)Z"⟩, 36) := ⟨⟨by decide +kernel, by decide +kernel⟩, List.mem_of_getElem? (i := 747) (by decide +kernel), List.mem_of_getElem? (i := 1092) (by decide +kernel), List.mem_of_getElem? (i := 1093) (by decide +kernel)⟩
theorem lw_p103 : lw_okq (⟨"StruckJuryModel", "findComing", "()V"⟩, 36) := ⟨⟨by decide +kernel, by decide +kernel⟩, List.mem_of_getElem? (i := 747) (by decide +kernel), List.mem_of_getElem? (i := 1108) (by decide +kernel), List.mem_of_getElem? (i := 1109) (by decide +kernel)⟩
theorem lw_p104 : lw_okq (⟨"StruckJuryModel", "leftOfB", "(III)I"⟩, 36) := ⟨⟨by decide +kernel, by decide +kernel⟩, List.mem_of_getElem? (i := 747) (by decide +kernel), List.mem_of_getElem? (i := 1112) (by decide +kernel), List.mem_of_getElem? (i := 1113) (by decide +kernel)⟩
theorem lw_p105 : lw_okq (⟨"StruckJuryModel", "place", "(III)I"⟩, 36) := ⟨⟨by decide +kernel, by decide +kernel⟩, List.mem_of_getElem? (i := 747) (by decide +kernel), List.mem_of_getElem? (i := 1116) (by decide +kernel), List.mem_of_getElem? (i := 1117) (by decide +kernel)⟩
theorem lw_p106 : lw_okq (⟨"StruckJuryModel", "ends", "(II)Z"⟩, 36) := ⟨⟨by decide +kernel, by decide +kernel⟩, List.mem_of_getElem? (i := 747) (by decide +kernel), List.mem_of_getElem? (i := 1120) (by decide +kernel), List.mem_of_getElem? (i := 1121) (by decide +kernel)⟩
theorem lw_p107 : lw_okq (⟨"StruckJuryModel", "seatedAll", "(II)I"⟩, 36) := ⟨⟨by decide +kernel, by decide +kernel⟩, List.mem_of_getElem? (i := 747) (by decide +kernel), List.mem_of_getElem? (i := 1124) (by decide +kernel), List.mem_of_getElem? (i := 1125) (by decide +kernel)⟩
theorem lw_p108 : lw_okq (⟨"StruckJuryModel", "strikesA", "(III)Z"⟩, 36) := ⟨⟨by decide +kernel, by decide +kernel⟩, List.mem_of_getElem? (i := 747) (by decide +kernel), List.mem_of_getElem? (i := 1128) (by decide +kernel), List.mem_of_getElem? (i := 1129) (by decide +kernel)⟩
theorem lw_p109 : lw_okq (⟨"StruckJuryModel", "notByA", "(III)J"⟩, 36) := ⟨⟨by decide +kernel, by decide +kernel⟩, List.mem_of_getElem? (i := 747) (by decide +kernel), List.mem_of_getElem? (i := 1132) (by decide +kernel), List.mem_of_getElem? (i := 1133) (by decide +kernel)⟩
theorem lw_p110 : lw_okq (⟨"StruckJuryModel", "strikesB", "(III)Z"⟩, 36) := ⟨⟨by decide +kernel, by decide +kernel⟩, List.mem_of_getElem? (i := 747) (by decide +kernel), List.mem_of_getElem? (i := 1136) (by decide +kernel), List.mem_of_getElem? (i := 1137) (by decide +kernel)⟩
theorem lw_p111 : lw_okq (⟨"StruckJuryModel", "findCome", "()V"⟩, 36) := ⟨⟨by decide +kernel, by decide +kernel⟩, List.mem_of_getElem? (i := 747) (by decide +kernel), List.mem_of_getElem? (i := 1144) (by decide +kernel), List.mem_of_getElem? (i := 1145) (by decide +kernel)⟩
def lw_privs_7 : List (MethodName × Nat) := [(⟨"StruckJuryModel", "findLine", "()V"⟩, 36), (⟨"StruckJuryModel", "isLawful", "()Z"⟩, 36), (⟨"StruckJuryModel", "findSlip", "()I"⟩, 36), (⟨"StruckJuryModel", "restOf", "(I)I"⟩, 36), (⟨"StruckJuryModel", "findPaper", "()V"⟩, 36), (⟨"StruckJuryModel", "juryOf", "(II)I"⟩, 36), (⟨"StruckJuryModel", "isRest", "(II)Z"⟩, 36), (⟨"StruckJuryModel", "findComing", "()V"⟩, 36), (⟨"StruckJuryModel", "leftOfB", "(III)I"⟩, 36), (⟨"StruckJuryModel", "place", "(III)I"⟩, 36), (⟨"StruckJuryModel", "ends", "(II)Z"⟩, 36), (⟨"StruckJuryModel", "seatedAll", "(II)I"⟩, 36), (⟨"StruckJuryModel", "strikesA", "(III)Z"⟩, 36), (⟨"StruckJuryModel", "notByA", "(III)J"⟩, 36), (⟨"StruckJuryModel", "strikesB", "(III)Z"⟩, 36), (⟨"StruckJuryModel", "findCome", "()V"⟩, 36)]
theorem lw_r7 : ∀ q ∈ lw_privs_7, lw_okq q := List.forall_mem_cons.mpr ⟨lw_p96, List.forall_mem_cons.mpr ⟨lw_p97, List.forall_mem_cons.mpr ⟨lw_p98, List.forall_mem_cons.mpr ⟨lw_p99, List.forall_mem_cons.mpr ⟨lw_p100, List.forall_mem_cons.mpr ⟨lw_p101, List.forall_mem_cons.mpr ⟨lw_p102, List.forall_mem_cons.mpr ⟨lw_p103, List.forall_mem_cons.mpr ⟨lw_p104, List.forall_mem_cons.mpr ⟨lw_p105, List.forall_mem_cons.mpr ⟨lw_p106, List.forall_mem_cons.mpr ⟨lw_p107, List.forall_mem_cons.mpr ⟨lw_p108, List.forall_mem_cons.mpr ⟨lw_p109, List.forall_mem_cons.mpr ⟨lw_p110, List.forall_mem_cons.mpr ⟨lw_p111, fun _ h => absurd h List.not_mem_nil⟩⟩⟩⟩⟩⟩⟩⟩⟩⟩⟩⟩⟩⟩⟩⟩
theorem lw_p112 : lw_okq (⟨"StruckJuryModel", "holdsWrong", "(III)V"⟩, 36) := ⟨⟨by decide +kernel, by decide +kernel⟩, List.mem_of_getElem? (i := 747) (by decide +kernel), List.mem_of_getElem? (i := 1171) (by decide +kernel), List.mem_of_getElem? (i := 1172) (by decide +kernel)⟩
theorem lw_p113 : lw_okq (⟨"StruckJuryModel", "turnsWith", "(II)J"⟩, 36) := ⟨⟨by decide +kernel, by decide +kernel⟩, List.mem_of_getElem? (i := 747) (by decide +kernel), List.mem_of_getElem? (i := 1179) (by decide +kernel), List.mem_of_getElem? (i := 1180) (by decide +kernel)⟩
def lw_privs_8 : List (MethodName × Nat) := [(⟨"StruckJuryModel", "holdsWrong", "(III)V"⟩, 36), (⟨"StruckJuryModel", "turnsWith", "(II)J"⟩, 36)]
theorem lw_r8 : ∀ q ∈ lw_privs_8, lw_okq q := List.forall_mem_cons.mpr ⟨lw_p112, List.forall_mem_cons.mpr ⟨lw_p113, fun _ h => absurd h List.not_mem_nil⟩⟩
def lw_privs : List (MethodName × Nat) := lw_privs_1 ++ (lw_privs_2 ++ (lw_privs_3 ++ (lw_privs_4 ++ (lw_privs_5 ++ (lw_privs_6 ++ (lw_privs_7 ++ (lw_privs_8)))))))
def lw_tbl : List Cond := k2_sels lw_privs ++ tables_1
theorem lw_privs_ok : ∀ q ∈ lw_privs, lw_okq q := by
  show ∀ q ∈ lw_privs_1 ++ (lw_privs_2 ++ (lw_privs_3 ++ (lw_privs_4 ++ (lw_privs_5 ++ (lw_privs_6 ++ (lw_privs_7 ++ (lw_privs_8))))))), lw_okq q
  exact List.forall_mem_append.mpr ⟨lw_r1, List.forall_mem_append.mpr ⟨lw_r2, List.forall_mem_append.mpr ⟨lw_r3, List.forall_mem_append.mpr ⟨lw_r4, List.forall_mem_append.mpr ⟨lw_r5, List.forall_mem_append.mpr ⟨lw_r6, List.forall_mem_append.mpr ⟨lw_r7, lw_r8⟩⟩⟩⟩⟩⟩⟩
end
section
theorem goodIn_r {big : List Cond} (ws : List Cond) (ps : List Nat) (hp : ws = ps.filterMap (fun i => big[i]?)) (h : ws.all goodWord = true) : GoodIn big ws := by
  intro w hw
  have h1 := List.all_eq_true.mp h w hw
  rw [hp] at hw
  obtain ⟨i, -, hi⟩ := List.mem_filterMap.mp hw
  have hm : w ∈ big := by first | exact List.mem_of_getElem? hi | exact List.getElem?_mem hi
  exact ⟨hm, good_of_word h1⟩
theorem goodIn_app {big a b : List Cond} (ha : GoodIn big a) (hb : GoodIn big b) : GoodIn big (a ++ b) := fun w h => (List.mem_append.mp h).elim (ha w) (hb w)
theorem goodIn_ca {big a b : List Cond} {c : Cond} (ha : GoodIn big (c :: a)) (hb : GoodIn big b) : GoodIn big (c :: (a ++ b)) := fun w h => (List.mem_cons.mp h).elim (fun e => ha w (List.mem_cons.mpr (Or.inl e))) (fun h => (List.mem_append.mp h).elim (fun h => ha w (List.mem_cons.mpr (Or.inr h))) (hb w))
theorem goodIn_sub {big ws : List Cond} (hm : ∀ w ∈ ws, w ∈ big) (h : ws.all goodWord = true) : GoodIn big ws := fun w hw => ⟨hm w hw, good_of_word (List.all_eq_true.mp h w hw)⟩
/-! ===== BEGIN printed: names, fields, word lists, decode rows ===== -/
def RX0 : String := "StruckJury$Bench"
def TX0 : u_T := fun k => match k with
  | 0 => ("StruckJury$Bench", "leans0", "[I", true)
  | 1 => ("StruckJury$Bench", "leans1", "[I", true)
  | 2 => ("StruckJury$Bench", "sortOf", "[I", true)
  | 3 => ("StruckJury$Bench", "terms", "[I", true)
  | _ => ("StruckJury$Bench", "people", "I", false)
def tyX0 : Nat → FieldType := fun k => match k with
  | 0 => .array .int
  | 1 => .array .int
  | 2 => .array .int
  | 3 => .array .int
  | _ => .int
abbrev wsX00 : List Cond := u_ws RX0 TX0 5
theorem nmX0 : ∀ a, a < 5 → ∀ b, b < 5 → a ≠ b → (TX0 a).2.1 ≠ (TX0 b).2.1 := by decide +kernel
theorem tyX0_ok : ∀ k, k < 5 → parseFieldDescriptor (TX0 k).2.2.1 = some (tyX0 k) := by decide +kernel
abbrev cX0_init : ByteArray := prog_2_method_1_code
def yX0_init : MethodName := ⟨RX0, "<init>", "()V"⟩
abbrev cX0_copy : ByteArray := prog_2_method_2_code
def yX0_copy : MethodName := ⟨RX0, "copy", "(LStruckJury$Bench;)V"⟩
abbrev cX0_add : ByteArray := prog_2_method_3_code
def yX0_add : MethodName := ⟨RX0, "add", "(I)V"⟩
abbrev cX0_needed : ByteArray := prog_2_method_4_code
def yX0_needed : MethodName := ⟨RX0, "needed", "()I"⟩
abbrev cX0_strikesOf : ByteArray := prog_2_method_5_code
def yX0_strikesOf : MethodName := ⟨RX0, "strikesOf", "(I)I"⟩
abbrev cX0_strikes : ByteArray := prog_2_method_6_code
def yX0_strikes : MethodName := ⟨RX0, "strikes", "()I"⟩
abbrev cX0_called : ByteArray := prog_2_method_7_code
def yX0_called : MethodName := ⟨RX0, "called", "()I"⟩
abbrev cX0_calledSet : ByteArray := prog_2_method_8_code
def yX0_calledSet : MethodName := ⟨RX0, "calledSet", "()I"⟩
abbrev cX0_everyone : ByteArray := prog_2_method_9_code
def yX0_everyone : MethodName := ⟨RX0, "everyone", "()I"⟩
abbrev cX0_ofSort : ByteArray := prog_2_method_10_code
def yX0_ofSort : MethodName := ⟨RX0, "ofSort", "(I)I"⟩
abbrev cX0_sideAt : ByteArray := prog_2_method_11_code
def yX0_sideAt : MethodName := ⟨RX0, "sideAt", "(I)I"⟩
def RX1 : String := "StruckJury$Coming"
def TX1 : u_T := fun k => match k with
  | 0 => ("StruckJury$Coming", "turns", "LStruckJury$Turns;", true)
  | 1 => ("StruckJury$Coming", "ends", "[J", true)
  | 2 => ("StruckJury$Coming", "called", "I", false)
  | 3 => ("StruckJury$Coming", "needed", "I", false)
  | 4 => ("StruckJury$Coming", "strikesA", "I", false)
  | 5 => ("StruckJury$Coming", "strikesB", "I", false)
  | _ => ("StruckJury$Coming", "end", "I", false)
def tyX1 : Nat → FieldType := fun k => match k with
  | 0 => .object "StruckJury$Turns"
  | 1 => .array .long
  | 2 => .int
  | 3 => .int
  | 4 => .int
  | 5 => .int
  | _ => .int
abbrev wsX10 : List Cond := u_ws RX1 TX1 7
theorem nmX1 : ∀ a, a < 7 → ∀ b, b < 7 → a ≠ b → (TX1 a).2.1 ≠ (TX1 b).2.1 := by decide +kernel
theorem tyX1_ok : ∀ k, k < 7 → parseFieldDescriptor (TX1 k).2.2.1 = some (tyX1 k) := by decide +kernel
abbrev cX1_init : ByteArray := prog_3_method_1_code
def yX1_init : MethodName := ⟨RX1, "<init>", "(LStruckJury$Turns;[J)V"⟩
abbrev cX1_goBack : ByteArray := prog_3_method_2_code
def yX1_goBack : MethodName := ⟨RX1, "goBack", "(LStruckJury$Bench;)V"⟩
abbrev cX1_decideAll : ByteArray := prog_3_method_3_code
def yX1_decideAll : MethodName := ⟨RX1, "decideAll", "(II)V"⟩
abbrev cX1_decide : ByteArray := prog_3_method_4_code
def yX1_decide : MethodName := ⟨RX1, "decide", "(III)I"⟩
abbrev cX1_endFrom : ByteArray := prog_3_method_5_code
def yX1_endFrom : MethodName := ⟨RX1, "endFrom", "(III)I"⟩
abbrev cX1_valueOfEnd : ByteArray := prog_3_method_6_code
def yX1_valueOfEnd : MethodName := ⟨RX1, "valueOfEnd", "(I)J"⟩
abbrev cX1_jury : ByteArray := prog_3_method_7_code
def yX1_jury : MethodName := ⟨RX1, "jury", "()I"⟩
abbrev cX1_keptBack : ByteArray := prog_3_method_8_code
def yX1_keptBack : MethodName := ⟨RX1, "keptBack", "(I)I"⟩
def RX2 : String := "StruckJury$Minds"
def TX2 : u_T := fun k => match k with
  | 0 => ("StruckJury$Minds", "leans0", "[I", true)
  | 1 => ("StruckJury$Minds", "leans1", "[I", true)
  | 2 => ("StruckJury$Minds", "spread", "[J", true)
  | 3 => ("StruckJury$Minds", "spreads", "[[J", true)
  | 4 => ("StruckJury$Minds", "needed", "I", false)
  | 5 => ("StruckJury$Minds", "byAll", "Z", false)
  | _ => ("StruckJury$Minds", "truth", "I", false)
def tyX2 : Nat → FieldType := fun k => match k with
  | 0 => .array .int
  | 1 => .array .int
  | 2 => .array .long
  | 3 => .array (.array .long)
  | 4 => .int
  | 5 => .boolean
  | _ => .int
abbrev wsX20 : List Cond := u_ws RX2 TX2 7
theorem nmX2 : ∀ a, a < 7 → ∀ b, b < 7 → a ≠ b → (TX2 a).2.1 ≠ (TX2 b).2.1 := by decide +kernel
theorem tyX2_ok : ∀ k, k < 7 → parseFieldDescriptor (TX2 k).2.2.1 = some (tyX2 k) := by decide +kernel
abbrev cX2_init : ByteArray := prog_4_method_1_code
def yX2_init : MethodName := ⟨RX2, "<init>", "()V"⟩
abbrev cX2_take : ByteArray := prog_4_method_2_code
def yX2_take : MethodName := ⟨RX2, "take", "(LStruckJury$Bench;)V"⟩
abbrev cX2_lean : ByteArray := prog_4_method_3_code
def yX2_lean : MethodName := ⟨RX2, "lean", "(III)V"⟩
abbrev cX2_chanceOf : ByteArray := prog_4_method_4_code
def yX2_chanceOf : MethodName := ⟨RX2, "chanceOf", "(I)J"⟩
abbrev cX2_rightOf : ByteArray := prog_4_method_5_code
def yX2_rightOf : MethodName := ⟨RX2, "rightOf", "(I)J"⟩
abbrev cX2_spreadOut : ByteArray := prog_4_method_6_code
def yX2_spreadOut : MethodName := ⟨RX2, "spreadOut", "([II)V"⟩
abbrev cX2_rightOfAll : ByteArray := prog_4_method_7_code
def yX2_rightOfAll : MethodName := ⟨RX2, "rightOfAll", "(I)J"⟩
abbrev cX2_spreadOutAll : ByteArray := prog_4_method_8_code
def yX2_spreadOutAll : MethodName := ⟨RX2, "spreadOutAll", "([II)V"⟩
abbrev cX2_areAlike : ByteArray := prog_4_method_9_code
def yX2_areAlike : MethodName := ⟨RX2, "areAlike", "(II)Z"⟩
abbrev cX2_findsForA : ByteArray := prog_4_method_10_code
def yX2_findsForA : MethodName := ⟨RX2, "findsForA", "()J"⟩
abbrev cX2_findsForB : ByteArray := prog_4_method_11_code
def yX2_findsForB : MethodName := ⟨RX2, "findsForB", "()J"⟩
abbrev cX2_spreadSum : ByteArray := prog_4_method_12_code
def yX2_spreadSum : MethodName := ⟨RX2, "spreadSum", "(II)J"⟩
def RX3 : String := "StruckJury$Paper"
def TX3 : u_T := fun k => match k with
  | 0 => ("StruckJury$Paper", "turns", "LStruckJury$Turns;", true)
  | 1 => ("StruckJury$Paper", "values", "[J", true)
  | 2 => ("StruckJury$Paper", "setsA", "[I", true)
  | 3 => ("StruckJury$Paper", "setsB", "[I", true)
  | 4 => ("StruckJury$Paper", "sureA", "[J", true)
  | 5 => ("StruckJury$Paper", "sureB", "[J", true)
  | 6 => ("StruckJury$Paper", "countA", "I", false)
  | _ => ("StruckJury$Paper", "countB", "I", false)
def tyX3 : Nat → FieldType := fun k => match k with
  | 0 => .object "StruckJury$Turns"
  | 1 => .array .long
  | 2 => .array .int
  | 3 => .array .int
  | 4 => .array .long
  | 5 => .array .long
  | 6 => .int
  | _ => .int
abbrev wsX30 : List Cond := u_ws RX3 TX3 8
theorem nmX3 : ∀ a, a < 8 → ∀ b, b < 8 → a ≠ b → (TX3 a).2.1 ≠ (TX3 b).2.1 := by decide +kernel
theorem tyX3_ok : ∀ k, k < 8 → parseFieldDescriptor (TX3 k).2.2.1 = some (tyX3 k) := by decide +kernel
abbrev cX3_init : ByteArray := prog_5_method_1_code
def yX3_init : MethodName := ⟨RX3, "<init>", "(LStruckJury$Turns;[J)V"⟩
abbrev cX3_weigh : ByteArray := prog_5_method_2_code
def yX3_weigh : MethodName := ⟨RX3, "weigh", "(LStruckJury$Bench;)V"⟩
abbrev cX3_fillValues : ByteArray := prog_5_method_3_code
def yX3_fillValues : MethodName := ⟨RX3, "fillValues", "(II)V"⟩
abbrev cX3_listSets : ByteArray := prog_5_method_4_code
def yX3_listSets : MethodName := ⟨RX3, "listSets", "([III)I"⟩
abbrev cX3_weighSet : ByteArray := prog_5_method_5_code
def yX3_weighSet : MethodName := ⟨RX3, "weighSet", "(II)V"⟩
abbrev cX3_keepThose : ByteArray := prog_5_method_6_code
def yX3_keepThose : MethodName := ⟨RX3, "keepThose", "([I[JIJ)I"⟩
abbrev cX3_restCount : ByteArray := prog_5_method_7_code
def yX3_restCount : MethodName := ⟨RX3, "restCount", "()I"⟩
abbrev cX3_restOfA : ByteArray := prog_5_method_8_code
def yX3_restOfA : MethodName := ⟨RX3, "restOfA", "(I)I"⟩
abbrev cX3_restOfB : ByteArray := prog_5_method_9_code
def yX3_restOfB : MethodName := ⟨RX3, "restOfB", "(I)I"⟩
def RX4 : String := "StruckJury$Text"
def TX4 : u_T := fun k => match k with
  | 0 => ("StruckJury$Text", "bytes", "[B", true)
  | 1 => ("StruckJury$Text", "sorts", "[I", true)
  | 2 => ("StruckJury$Text", "length", "I", false)
  | 3 => ("StruckJury$Text", "at", "I", false)
  | _ => ("StruckJury$Text", "faultAt", "I", false)
def tyX4 : Nat → FieldType := fun k => match k with
  | 0 => .array .byte
  | 1 => .array .int
  | 2 => .int
  | 3 => .int
  | _ => .int
abbrev wsX40 : List Cond := u_ws RX4 TX4 5
theorem nmX4 : ∀ a, a < 5 → ∀ b, b < 5 → a ≠ b → (TX4 a).2.1 ≠ (TX4 b).2.1 := by decide +kernel
theorem tyX4_ok : ∀ k, k < 5 → parseFieldDescriptor (TX4 k).2.2.1 = some (tyX4 k) := by decide +kernel
abbrev cX4_init : ByteArray := prog_6_method_1_code
def yX4_init : MethodName := ⟨RX4, "<init>", "()V"⟩
abbrev cX4_append : ByteArray := prog_6_method_2_code
def yX4_append : MethodName := ⟨RX4, "append", "(IJ)V"⟩
abbrev cX4_readInto : ByteArray := prog_6_method_3_code
def yX4_readInto : MethodName := ⟨RX4, "readInto", "(LStruckJury$Bench;)I"⟩
abbrev cX4_readStatement : ByteArray := prog_6_method_4_code
def yX4_readStatement : MethodName := ⟨RX4, "readStatement", "(LStruckJury$Bench;)Z"⟩
abbrev cX4_readSort : ByteArray := prog_6_method_5_code
def yX4_readSort : MethodName := ⟨RX4, "readSort", "(LStruckJury$Bench;)Z"⟩
abbrev cX4_readPeople : ByteArray := prog_6_method_6_code
def yX4_readPeople : MethodName := ⟨RX4, "readPeople", "(LStruckJury$Bench;)Z"⟩
abbrev cX4_readTerm : ByteArray := prog_6_method_7_code
def yX4_readTerm : MethodName := ⟨RX4, "readTerm", "(LStruckJury$Bench;I)Z"⟩
abbrev cX4_readStrikes : ByteArray := prog_6_method_8_code
def yX4_readStrikes : MethodName := ⟨RX4, "readStrikes", "(LStruckJury$Bench;)Z"⟩
abbrev cX4_readTruth : ByteArray := prog_6_method_9_code
def yX4_readTruth : MethodName := ⟨RX4, "readTruth", "(LStruckJury$Bench;)Z"⟩
abbrev cX4_fault : ByteArray := prog_6_method_10_code
def yX4_fault : MethodName := ⟨RX4, "fault", "(I)Z"⟩
abbrev cX4_isDigit : ByteArray := prog_6_method_11_code
def yX4_isDigit : MethodName := ⟨RX4, "isDigit", "(II)Z"⟩
abbrev cX4_sign : ByteArray := prog_6_method_12_code
def yX4_sign : MethodName := ⟨RX4, "sign", "(C)Z"⟩
abbrev cX4_digit : ByteArray := prog_6_method_13_code
def yX4_digit : MethodName := ⟨RX4, "digit", "(II)I"⟩
abbrev cX4_number : ByteArray := prog_6_method_14_code
def yX4_number : MethodName := ⟨RX4, "number", "()I"⟩
def RX5 : String := "StruckJury$Turns"
def TX5 : u_T := fun k => match k with
  | 0 => ("StruckJury$Turns", "values", "[J", true)
  | 1 => ("StruckJury$Turns", "sides", "[I", true)
  | 2 => ("StruckJury$Turns", "twins", "[I", true)
  | 3 => ("StruckJury$Turns", "all", "I", false)
  | 4 => ("StruckJury$Turns", "strikes", "I", false)
  | _ => ("StruckJury$Turns", "needed", "I", false)
def tyX5 : Nat → FieldType := fun k => match k with
  | 0 => .array .long
  | 1 => .array .int
  | 2 => .array .int
  | 3 => .int
  | 4 => .int
  | _ => .int
abbrev wsX50 : List Cond := u_ws RX5 TX5 6
theorem nmX5 : ∀ a, a < 6 → ∀ b, b < 6 → a ≠ b → (TX5 a).2.1 ≠ (TX5 b).2.1 := by decide +kernel
theorem tyX5_ok : ∀ k, k < 6 → parseFieldDescriptor (TX5 k).2.2.1 = some (tyX5 k) := by decide +kernel
abbrev cX5_init : ByteArray := prog_7_method_1_code
def yX5_init : MethodName := ⟨RX5, "<init>", "([J)V"⟩
abbrev cX5_sideAt : ByteArray := prog_7_method_2_code
def yX5_sideAt : MethodName := ⟨RX5, "sideAt", "(IIII)I"⟩
abbrev cX5_lookBack : ByteArray := prog_7_method_3_code
def yX5_lookBack : MethodName := ⟨RX5, "lookBack", "(LStruckJury$Minds;IIII)V"⟩
abbrev cX5_findTwins : ByteArray := prog_7_method_4_code
def yX5_findTwins : MethodName := ⟨RX5, "findTwins", "(LStruckJury$Minds;)V"⟩
abbrev cX5_worthOf : ByteArray := prog_7_method_5_code
def yX5_worthOf : MethodName := ⟨RX5, "worthOf", "(LStruckJury$Minds;I)J"⟩
abbrev cX5_lesserLike : ByteArray := prog_7_method_6_code
def yX5_lesserLike : MethodName := ⟨RX5, "lesserLike", "(I)I"⟩
abbrev cX5_valueAfterBest : ByteArray := prog_7_method_7_code
def yX5_valueAfterBest : MethodName := ⟨RX5, "valueAfterBest", "(II)J"⟩
abbrev cX5_valueOf : ByteArray := prog_7_method_8_code
def yX5_valueOf : MethodName := ⟨RX5, "valueOf", "(I)J"⟩
abbrev cX5_strikeFrom : ByteArray := prog_7_method_9_code
def yX5_strikeFrom : MethodName := ⟨RX5, "strikeFrom", "(I)I"⟩
abbrev cX5_juryAtLast : ByteArray := prog_7_method_10_code
def yX5_juryAtLast : MethodName := ⟨RX5, "juryAtLast", "()I"⟩
def RX6 : String := "StruckJury"
def TX6 : u_T := fun k => match k with
  | 0 => ("StruckJury", "bench", "LStruckJury$Bench;", true)
  | 1 => ("StruckJury", "kept", "LStruckJury$Bench;", true)
  | 2 => ("StruckJury", "isKept", "Z", false)
  | 3 => ("StruckJury", "text", "LStruckJury$Text;", true)
  | 4 => ("StruckJury", "row", "[I", true)
  | 5 => ("StruckJury", "rowLength", "I", false)
  | 6 => ("StruckJury", "refusals", "[I", true)
  | 7 => ("StruckJury", "minds", "LStruckJury$Minds;", true)
  | 8 => ("StruckJury", "otherMinds", "LStruckJury$Minds;", true)
  | 9 => ("StruckJury", "trueTurns", "LStruckJury$Turns;", true)
  | 10 => ("StruckJury", "otherTurns", "LStruckJury$Turns;", true)
  | 11 => ("StruckJury", "onPaper", "LStruckJury$Paper;", true)
  | 12 => ("StruckJury", "byComing", "LStruckJury$Coming;", true)
  | 13 => ("StruckJury", "turnsKnown", "Z", false)
  | 14 => ("StruckJury", "paperKnown", "Z", false)
  | _ => ("StruckJury", "comingKnown", "Z", false)
def tyX6 : Nat → FieldType := fun k => match k with
  | 0 => .object "StruckJury$Bench"
  | 1 => .object "StruckJury$Bench"
  | 2 => .boolean
  | 3 => .object "StruckJury$Text"
  | 4 => .array .int
  | 5 => .int
  | 6 => .array .int
  | 7 => .object "StruckJury$Minds"
  | 8 => .object "StruckJury$Minds"
  | 9 => .object "StruckJury$Turns"
  | 10 => .object "StruckJury$Turns"
  | 11 => .object "StruckJury$Paper"
  | 12 => .object "StruckJury$Coming"
  | 13 => .boolean
  | 14 => .boolean
  | _ => .boolean
abbrev wsX60 : List Cond := u_ws RX6 TX6 16
theorem nmX6 : ∀ a, a < 16 → ∀ b, b < 16 → a ≠ b → (TX6 a).2.1 ≠ (TX6 b).2.1 := by decide +kernel
theorem tyX6_ok : ∀ k, k < 16 → parseFieldDescriptor (TX6 k).2.2.1 = some (tyX6 k) := by decide +kernel
abbrev cX6_init : ByteArray := prog_1_method_1_code
def yX6_init : MethodName := ⟨RX6, "<init>", "()V"⟩
abbrev cX6_sort : ByteArray := prog_1_method_2_code
def yX6_sort : MethodName := ⟨RX6, "sort", "(III)I"⟩
abbrev cX6_person : ByteArray := prog_1_method_3_code
def yX6_person : MethodName := ⟨RX6, "person", "(I)I"⟩
abbrev cX6_takeBack : ByteArray := prog_1_method_4_code
def yX6_takeBack : MethodName := ⟨RX6, "takeBack", "()I"⟩
abbrev cX6_set : ByteArray := prog_1_method_5_code
def yX6_set : MethodName := ⟨RX6, "set", "(II)I"⟩
abbrev cX6_feed : ByteArray := prog_1_method_6_code
def yX6_feed : MethodName := ⟨RX6, "feed", "(IJ)I"⟩
abbrev cX6_court : ByteArray := prog_1_method_7_code
def yX6_court : MethodName := ⟨RX6, "court", "()I"⟩
abbrev cX6_chance : ByteArray := prog_1_method_8_code
def yX6_chance : MethodName := ⟨RX6, "chance", "(I)J"⟩
abbrev cX6_right : ByteArray := prog_1_method_9_code
def yX6_right : MethodName := ⟨RX6, "right", "(I)J"⟩
abbrev cX6_best : ByteArray := prog_1_method_10_code
def yX6_best : MethodName := ⟨RX6, "best", "(III)J"⟩
abbrev cX6_strike : ByteArray := prog_1_method_11_code
def yX6_strike : MethodName := ⟨RX6, "strike", "(III)I"⟩
abbrev cX6_turns : ByteArray := prog_1_method_12_code
def yX6_turns : MethodName := ⟨RX6, "turns", "()J"⟩
abbrev cX6_order : ByteArray := prog_1_method_13_code
def yX6_order : MethodName := ⟨RX6, "order", "(I)I"⟩
abbrev cX6_put : ByteArray := prog_1_method_14_code
def yX6_put : MethodName := ⟨RX6, "put", "(I)I"⟩
abbrev cX6_unput : ByteArray := prog_1_method_15_code
def yX6_unput : MethodName := ⟨RX6, "unput", "()I"⟩
abbrev cX6_lawful : ByteArray := prog_1_method_16_code
def yX6_lawful : MethodName := ⟨RX6, "lawful", "()I"⟩
abbrev cX6_slip : ByteArray := prog_1_method_17_code
def yX6_slip : MethodName := ⟨RX6, "slip", "(Z)J"⟩
abbrev cX6_second : ByteArray := prog_1_method_18_code
def yX6_second : MethodName := ⟨RX6, "second", "()J"⟩
abbrev cX6_more : ByteArray := prog_1_method_19_code
def yX6_more : MethodName := ⟨RX6, "more", "(I)J"⟩
abbrev cX6_rests : ByteArray := prog_1_method_20_code
def yX6_rests : MethodName := ⟨RX6, "rests", "()I"⟩
abbrev cX6_rest : ByteArray := prog_1_method_21_code
def yX6_rest : MethodName := ⟨RX6, "rest", "(I)I"⟩
abbrev cX6_paper : ByteArray := prog_1_method_22_code
def yX6_paper : MethodName := ⟨RX6, "paper", "(II)J"⟩
abbrev cX6_coming : ByteArray := prog_1_method_23_code
def yX6_coming : MethodName := ⟨RX6, "coming", "()J"⟩
abbrev cX6_come : ByteArray := prog_1_method_24_code
def yX6_come : MethodName := ⟨RX6, "come", "(I)I"⟩
abbrev cX6_seldom : ByteArray := prog_1_method_25_code
def yX6_seldom : MethodName := ⟨RX6, "seldom", "(II)J"⟩
abbrev cX6_finest : ByteArray := prog_1_method_26_code
def yX6_finest : MethodName := ⟨RX6, "finest", "()I"⟩
abbrev cX6_lot : ByteArray := prog_1_method_27_code
def yX6_lot : MethodName := ⟨RX6, "lot", "(I)J"⟩
abbrev cX6_trade : ByteArray := prog_1_method_28_code
def yX6_trade : MethodName := ⟨RX6, "trade", "()I"⟩
abbrev cX6_wrongly : ByteArray := prog_1_method_29_code
def yX6_wrongly : MethodName := ⟨RX6, "wrongly", "(III)J"⟩
abbrev cX6_asked : ByteArray := prog_1_method_30_code
def yX6_asked : MethodName := ⟨RX6, "asked", "(II)J"⟩
abbrev cX6_image : ByteArray := prog_1_method_31_code
def yX6_image : MethodName := ⟨RX6, "image", "()I"⟩
abbrev cX6_restore : ByteArray := prog_1_method_32_code
def yX6_restore : MethodName := ⟨RX6, "restore", "()I"⟩
abbrev cX6_count : ByteArray := prog_1_method_33_code
def yX6_count : MethodName := ⟨RX6, "count", "(I)I"⟩
abbrev cX6_refuse : ByteArray := prog_1_method_34_code
def yX6_refuse : MethodName := ⟨RX6, "refuse", "(I)I"⟩
abbrev cX6_refuseLong : ByteArray := prog_1_method_35_code
def yX6_refuseLong : MethodName := ⟨RX6, "refuseLong", "(I)J"⟩
abbrev cX6_isSort : ByteArray := prog_1_method_36_code
def yX6_isSort : MethodName := ⟨RX6, "isSort", "(I)Z"⟩
abbrev cX6_isSide : ByteArray := prog_1_method_37_code
def yX6_isSide : MethodName := ⟨RX6, "isSide", "(I)Z"⟩
abbrev cX6_leansRefusal : ByteArray := prog_1_method_38_code
def yX6_leansRefusal : MethodName := ⟨RX6, "leansRefusal", "(III)I"⟩
abbrev cX6_juryRefusal : ByteArray := prog_1_method_39_code
def yX6_juryRefusal : MethodName := ⟨RX6, "juryRefusal", "(I)I"⟩
abbrev cX6_leftRefusal : ByteArray := prog_1_method_40_code
def yX6_leftRefusal : MethodName := ⟨RX6, "leftRefusal", "(III)I"⟩
abbrev cX6_changed : ByteArray := prog_1_method_41_code
def yX6_changed : MethodName := ⟨RX6, "changed", "()V"⟩
abbrev cX6_knowTurns : ByteArray := prog_1_method_42_code
def yX6_knowTurns : MethodName := ⟨RX6, "knowTurns", "()V"⟩
abbrev cX6_knowPaper : ByteArray := prog_1_method_43_code
def yX6_knowPaper : MethodName := ⟨RX6, "knowPaper", "()V"⟩
abbrev cX6_knowComing : ByteArray := prog_1_method_44_code
def yX6_knowComing : MethodName := ⟨RX6, "knowComing", "()V"⟩
abbrev cX6_valueByTurns : ByteArray := prog_1_method_45_code
def yX6_valueByTurns : MethodName := ⟨RX6, "valueByTurns", "()J"⟩
abbrev cX6_valueWith : ByteArray := prog_1_method_46_code
def yX6_valueWith : MethodName := ⟨RX6, "valueWith", "(LStruckJury$Minds;III)J"⟩
abbrev cX6_valueLeaning : ByteArray := prog_1_method_47_code
def yX6_valueLeaning : MethodName := ⟨RX6, "valueLeaning", "(II)J"⟩
abbrev cX6_heldLean : ByteArray := prog_1_method_48_code
def yX6_heldLean : MethodName := ⟨RX6, "heldLean", "(I)I"⟩
abbrev cX6_juryOfTwoMinds : ByteArray := prog_1_method_49_code
def yX6_juryOfTwoMinds : MethodName := ⟨RX6, "juryOfTwoMinds", "()I"⟩
abbrev cX6_rowIsLawful : ByteArray := prog_1_method_50_code
def yX6_rowIsLawful : MethodName := ⟨RX6, "rowIsLawful", "()Z"⟩
abbrev cX6_setsAsStruck : ByteArray := prog_1_method_51_code
def yX6_setsAsStruck : MethodName := ⟨RX6, "setsAsStruck", "(III)J"⟩
abbrev cX6_ways : ByteArray := prog_1_method_52_code
def yX6_ways : MethodName := ⟨RX6, "ways", "(II)J"⟩
abbrev cX6_setOfFirst : ByteArray := prog_1_method_53_code
def yX6_setOfFirst : MethodName := ⟨RX6, "setOfFirst", "(I)I"⟩
abbrev cX6_firstOf : ByteArray := prog_1_method_54_code
def yX6_firstOf : MethodName := ⟨RX6, "firstOf", "(II)I"⟩
def RX7 : String := "StruckJuryModel"
def TX7 : u_T := fun k => match k with
  | 0 => ("StruckJuryModel", "refused", "[I", true)
  | 1 => ("StruckJuryModel", "lean", "[I", true)
  | 2 => ("StruckJuryModel", "sortOf", "[I", true)
  | 3 => ("StruckJuryModel", "now", "[I", true)
  | 4 => ("StruckJuryModel", "least", "[I", true)
  | 5 => ("StruckJuryModel", "top", "[I", true)
  | 6 => ("StruckJuryModel", "people", "I", false)
  | 7 => ("StruckJuryModel", "tape", "[I", true)
  | 8 => ("StruckJuryModel", "taped", "I", false)
  | 9 => ("StruckJuryModel", "at", "I", false)
  | 10 => ("StruckJuryModel", "held", "[I", true)
  | 11 => ("StruckJuryModel", "finds", "[J", true)
  | 12 => ("StruckJuryModel", "chance", "[J", true)
  | 13 => ("StruckJuryModel", "value", "[J", true)
  | 14 => ("StruckJuryModel", "size", "[I", true)
  | 15 => ("StruckJuryModel", "line", "[I", true)
  | 16 => ("StruckJuryModel", "lineMany", "I", false)
  | 17 => ("StruckJuryModel", "leftThen", "I", false)
  | 18 => ("StruckJuryModel", "row", "[I", true)
  | 19 => ("StruckJuryModel", "rowMany", "I", false)
  | 20 => ("StruckJuryModel", "byA", "I", false)
  | 21 => ("StruckJuryModel", "slipLoss", "J", false)
  | 22 => ("StruckJuryModel", "setsA", "[I", true)
  | 23 => ("StruckJuryModel", "setsB", "[I", true)
  | 24 => ("StruckJuryModel", "greatest", "[J", true)
  | 25 => ("StruckJuryModel", "lowest", "[J", true)
  | 26 => ("StruckJuryModel", "manyA", "I", false)
  | 27 => ("StruckJuryModel", "manyB", "I", false)
  | 28 => ("StruckJuryModel", "restMany", "I", false)
  | 29 => ("StruckJuryModel", "layer", "[J", true)
  | 30 => ("StruckJuryModel", "comeJury", "I", false)
  | 31 => ("StruckJuryModel", "comeA", "I", false)
  | 32 => ("StruckJuryModel", "comeB", "I", false)
  | 33 => ("StruckJuryModel", "kept", "[I", true)
  | 34 => ("StruckJuryModel", "hasImage", "Z", false)
  | _ => ("StruckJuryModel", "keptPeople", "I", false)
def tyX7 : Nat → FieldType := fun k => match k with
  | 0 => .array .int
  | 1 => .array .int
  | 2 => .array .int
  | 3 => .array .int
  | 4 => .array .int
  | 5 => .array .int
  | 6 => .int
  | 7 => .array .int
  | 8 => .int
  | 9 => .int
  | 10 => .array .int
  | 11 => .array .long
  | 12 => .array .long
  | 13 => .array .long
  | 14 => .array .int
  | 15 => .array .int
  | 16 => .int
  | 17 => .int
  | 18 => .array .int
  | 19 => .int
  | 20 => .int
  | 21 => .long
  | 22 => .array .int
  | 23 => .array .int
  | 24 => .array .long
  | 25 => .array .long
  | 26 => .int
  | 27 => .int
  | 28 => .int
  | 29 => .array .long
  | 30 => .int
  | 31 => .int
  | 32 => .int
  | 33 => .array .int
  | 34 => .boolean
  | _ => .int
abbrev wsX70 : List Cond := u_ws RX7 TX7 36
theorem nmX7 : ∀ a, a < 36 → ∀ b, b < 36 → a ≠ b → (TX7 a).2.1 ≠ (TX7 b).2.1 := by decide +kernel
theorem tyX7_ok : ∀ k, k < 36 → parseFieldDescriptor (TX7 k).2.2.1 = some (tyX7 k) := by decide +kernel
abbrev cX7_init : ByteArray := prog_9_method_1_code
def yX7_init : MethodName := ⟨RX7, "<init>", "()V"⟩
abbrev cX7_no : ByteArray := prog_9_method_2_code
def yX7_no : MethodName := ⟨RX7, "no", "(I)I"⟩
abbrev cX7_noLong : ByteArray := prog_9_method_3_code
def yX7_noLong : MethodName := ⟨RX7, "noLong", "(I)J"⟩
abbrev cX7_isIn : ByteArray := prog_9_method_4_code
def yX7_isIn : MethodName := ⟨RX7, "isIn", "(III)Z"⟩
abbrev cX7_out : ByteArray := prog_9_method_5_code
def yX7_out : MethodName := ⟨RX7, "out", "(III)I"⟩
abbrev cX7_bits : ByteArray := prog_9_method_6_code
def yX7_bits : MethodName := ⟨RX7, "bits", "(I)I"⟩
abbrev cX7_isSort : ByteArray := prog_9_method_7_code
def yX7_isSort : MethodName := ⟨RX7, "isSort", "(I)Z"⟩
abbrev cX7_sort : ByteArray := prog_9_method_8_code
def yX7_sort : MethodName := ⟨RX7, "sort", "(III)I"⟩
abbrev cX7_person : ByteArray := prog_9_method_9_code
def yX7_person : MethodName := ⟨RX7, "person", "(I)I"⟩
abbrev cX7_takeBack : ByteArray := prog_9_method_10_code
def yX7_takeBack : MethodName := ⟨RX7, "takeBack", "()I"⟩
abbrev cX7_set : ByteArray := prog_9_method_11_code
def yX7_set : MethodName := ⟨RX7, "set", "(II)I"⟩
abbrev cX7_needed : ByteArray := prog_9_method_12_code
def yX7_needed : MethodName := ⟨RX7, "needed", "()I"⟩
abbrev cX7_calledMany : ByteArray := prog_9_method_13_code
def yX7_calledMany : MethodName := ⟨RX7, "calledMany", "()I"⟩
abbrev cX7_isEnough : ByteArray := prog_9_method_14_code
def yX7_isEnough : MethodName := ⟨RX7, "isEnough", "()Z"⟩
abbrev cX7_called : ByteArray := prog_9_method_15_code
def yX7_called : MethodName := ⟨RX7, "called", "()I"⟩
abbrev cX7_feed : ByteArray := prog_9_method_16_code
def yX7_feed : MethodName := ⟨RX7, "feed", "(IJ)I"⟩
abbrev cX7_sign : ByteArray := prog_9_method_17_code
def yX7_sign : MethodName := ⟨RX7, "sign", "()I"⟩
abbrev cX7_takes : ByteArray := prog_9_method_18_code
def yX7_takes : MethodName := ⟨RX7, "takes", "(I)Z"⟩
abbrev cX7_digit : ByteArray := prog_9_method_19_code
def yX7_digit : MethodName := ⟨RX7, "digit", "(II)I"⟩
abbrev cX7_hundredths : ByteArray := prog_9_method_20_code
def yX7_hundredths : MethodName := ⟨RX7, "hundredths", "()I"⟩
abbrev cX7_readsSort : ByteArray := prog_9_method_21_code
def yX7_readsSort : MethodName := ⟨RX7, "readsSort", "()Z"⟩
abbrev cX7_readsPeople : ByteArray := prog_9_method_22_code
def yX7_readsPeople : MethodName := ⟨RX7, "readsPeople", "()Z"⟩
abbrev cX7_readsNumber : ByteArray := prog_9_method_23_code
def yX7_readsNumber : MethodName := ⟨RX7, "readsNumber", "(I)Z"⟩
abbrev cX7_statement : ByteArray := prog_9_method_24_code
def yX7_statement : MethodName := ⟨RX7, "statement", "()Z"⟩
abbrev cX7_court : ByteArray := prog_9_method_25_code
def yX7_court : MethodName := ⟨RX7, "court", "()I"⟩
abbrev cX7_holdsTrue : ByteArray := prog_9_method_26_code
def yX7_holdsTrue : MethodName := ⟨RX7, "holdsTrue", "()V"⟩
abbrev cX7_findFor : ByteArray := prog_9_method_27_code
def yX7_findFor : MethodName := ⟨RX7, "findFor", "(II)V"⟩
abbrev cX7_found : ByteArray := prog_9_method_28_code
def yX7_found : MethodName := ⟨RX7, "found", "(IIZ)J"⟩
abbrev cX7_chanceOf : ByteArray := prog_9_method_29_code
def yX7_chanceOf : MethodName := ⟨RX7, "chanceOf", "(I)J"⟩
abbrev cX7_rightOf : ByteArray := prog_9_method_30_code
def yX7_rightOf : MethodName := ⟨RX7, "rightOf", "(I)J"⟩
abbrev cX7_notJury : ByteArray := prog_9_method_31_code
def yX7_notJury : MethodName := ⟨RX7, "notJury", "(I)I"⟩
abbrev cX7_chance : ByteArray := prog_9_method_32_code
def yX7_chance : MethodName := ⟨RX7, "chance", "(I)J"⟩
abbrev cX7_right : ByteArray := prog_9_method_33_code
def yX7_right : MethodName := ⟨RX7, "right", "(I)J"⟩
abbrev cX7_index : ByteArray := prog_9_method_34_code
def yX7_index : MethodName := ⟨RX7, "index", "(IIII)I"⟩
abbrev cX7_mover : ByteArray := prog_9_method_35_code
def yX7_mover : MethodName := ⟨RX7, "mover", "(III)I"⟩
abbrev cX7_findBest : ByteArray := prog_9_method_36_code
def yX7_findBest : MethodName := ⟨RX7, "findBest", "(III)V"⟩
abbrev cX7_behind : ByteArray := prog_9_method_37_code
def yX7_behind : MethodName := ⟨RX7, "behind", "(IIIII)J"⟩
abbrev cX7_valueOf : ByteArray := prog_9_method_38_code
def yX7_valueOf : MethodName := ⟨RX7, "valueOf", "(IIII)J"⟩
abbrev cX7_strikeOf : ByteArray := prog_9_method_39_code
def yX7_strikeOf : MethodName := ⟨RX7, "strikeOf", "(IIII)I"⟩
abbrev cX7_notLeft : ByteArray := prog_9_method_40_code
def yX7_notLeft : MethodName := ⟨RX7, "notLeft", "(III)I"⟩
abbrev cX7_best : ByteArray := prog_9_method_41_code
def yX7_best : MethodName := ⟨RX7, "best", "(III)J"⟩
abbrev cX7_strike : ByteArray := prog_9_method_42_code
def yX7_strike : MethodName := ⟨RX7, "strike", "(III)I"⟩
abbrev cX7_turnsOf : ByteArray := prog_9_method_43_code
def yX7_turnsOf : MethodName := ⟨RX7, "turnsOf", "()J"⟩
abbrev cX7_findTurns : ByteArray := prog_9_method_44_code
def yX7_findTurns : MethodName := ⟨RX7, "findTurns", "()V"⟩
abbrev cX7_turns : ByteArray := prog_9_method_45_code
def yX7_turns : MethodName := ⟨RX7, "turns", "()J"⟩
abbrev cX7_findLine : ByteArray := prog_9_method_46_code
def yX7_findLine : MethodName := ⟨RX7, "findLine", "()V"⟩
abbrev cX7_order : ByteArray := prog_9_method_47_code
def yX7_order : MethodName := ⟨RX7, "order", "(I)I"⟩
abbrev cX7_put : ByteArray := prog_9_method_48_code
def yX7_put : MethodName := ⟨RX7, "put", "(I)I"⟩
abbrev cX7_unput : ByteArray := prog_9_method_49_code
def yX7_unput : MethodName := ⟨RX7, "unput", "()I"⟩
abbrev cX7_isLawful : ByteArray := prog_9_method_50_code
def yX7_isLawful : MethodName := ⟨RX7, "isLawful", "()Z"⟩
abbrev cX7_lawful : ByteArray := prog_9_method_51_code
def yX7_lawful : MethodName := ⟨RX7, "lawful", "()I"⟩
abbrev cX7_findSlip : ByteArray := prog_9_method_52_code
def yX7_findSlip : MethodName := ⟨RX7, "findSlip", "()I"⟩
abbrev cX7_slip : ByteArray := prog_9_method_53_code
def yX7_slip : MethodName := ⟨RX7, "slip", "(Z)J"⟩
abbrev cX7_second : ByteArray := prog_9_method_54_code
def yX7_second : MethodName := ⟨RX7, "second", "()J"⟩
abbrev cX7_more : ByteArray := prog_9_method_55_code
def yX7_more : MethodName := ⟨RX7, "more", "(I)J"⟩
abbrev cX7_juryOf : ByteArray := prog_9_method_56_code
def yX7_juryOf : MethodName := ⟨RX7, "juryOf", "(II)I"⟩
abbrev cX7_findPaper : ByteArray := prog_9_method_57_code
def yX7_findPaper : MethodName := ⟨RX7, "findPaper", "()V"⟩
abbrev cX7_isRest : ByteArray := prog_9_method_58_code
def yX7_isRest : MethodName := ⟨RX7, "isRest", "(II)Z"⟩
abbrev cX7_restOf : ByteArray := prog_9_method_59_code
def yX7_restOf : MethodName := ⟨RX7, "restOf", "(I)I"⟩
abbrev cX7_rests : ByteArray := prog_9_method_60_code
def yX7_rests : MethodName := ⟨RX7, "rests", "()I"⟩
abbrev cX7_rest : ByteArray := prog_9_method_61_code
def yX7_rest : MethodName := ⟨RX7, "rest", "(I)I"⟩
abbrev cX7_paper : ByteArray := prog_9_method_62_code
def yX7_paper : MethodName := ⟨RX7, "paper", "(II)J"⟩
abbrev cX7_place : ByteArray := prog_9_method_63_code
def yX7_place : MethodName := ⟨RX7, "place", "(III)I"⟩
abbrev cX7_leftOfB : ByteArray := prog_9_method_64_code
def yX7_leftOfB : MethodName := ⟨RX7, "leftOfB", "(III)I"⟩
abbrev cX7_ends : ByteArray := prog_9_method_65_code
def yX7_ends : MethodName := ⟨RX7, "ends", "(II)Z"⟩
abbrev cX7_seatedAll : ByteArray := prog_9_method_66_code
def yX7_seatedAll : MethodName := ⟨RX7, "seatedAll", "(II)I"⟩
abbrev cX7_strikesB : ByteArray := prog_9_method_67_code
def yX7_strikesB : MethodName := ⟨RX7, "strikesB", "(III)Z"⟩
abbrev cX7_notByA : ByteArray := prog_9_method_68_code
def yX7_notByA : MethodName := ⟨RX7, "notByA", "(III)J"⟩
abbrev cX7_strikesA : ByteArray := prog_9_method_69_code
def yX7_strikesA : MethodName := ⟨RX7, "strikesA", "(III)Z"⟩
abbrev cX7_findComing : ByteArray := prog_9_method_70_code
def yX7_findComing : MethodName := ⟨RX7, "findComing", "()V"⟩
abbrev cX7_findCome : ByteArray := prog_9_method_71_code
def yX7_findCome : MethodName := ⟨RX7, "findCome", "()V"⟩
abbrev cX7_coming : ByteArray := prog_9_method_72_code
def yX7_coming : MethodName := ⟨RX7, "coming", "()J"⟩
abbrev cX7_come : ByteArray := prog_9_method_73_code
def yX7_come : MethodName := ⟨RX7, "come", "(I)I"⟩
abbrev cX7_ways : ByteArray := prog_9_method_74_code
def yX7_ways : MethodName := ⟨RX7, "ways", "(II)J"⟩
abbrev cX7_seldom : ByteArray := prog_9_method_75_code
def yX7_seldom : MethodName := ⟨RX7, "seldom", "(II)J"⟩
abbrev cX7_finest : ByteArray := prog_9_method_76_code
def yX7_finest : MethodName := ⟨RX7, "finest", "()I"⟩
abbrev cX7_lot : ByteArray := prog_9_method_77_code
def yX7_lot : MethodName := ⟨RX7, "lot", "(I)J"⟩
abbrev cX7_trade : ByteArray := prog_9_method_78_code
def yX7_trade : MethodName := ⟨RX7, "trade", "()I"⟩
abbrev cX7_holdsWrong : ByteArray := prog_9_method_79_code
def yX7_holdsWrong : MethodName := ⟨RX7, "holdsWrong", "(III)V"⟩
abbrev cX7_wrongly : ByteArray := prog_9_method_80_code
def yX7_wrongly : MethodName := ⟨RX7, "wrongly", "(III)J"⟩
abbrev cX7_turnsWith : ByteArray := prog_9_method_81_code
def yX7_turnsWith : MethodName := ⟨RX7, "turnsWith", "(II)J"⟩
abbrev cX7_asked : ByteArray := prog_9_method_82_code
def yX7_asked : MethodName := ⟨RX7, "asked", "(II)J"⟩
abbrev cX7_image : ByteArray := prog_9_method_83_code
def yX7_image : MethodName := ⟨RX7, "image", "()I"⟩
abbrev cX7_restore : ByteArray := prog_9_method_84_code
def yX7_restore : MethodName := ⟨RX7, "restore", "()I"⟩
abbrev cX7_count : ByteArray := prog_9_method_85_code
def yX7_count : MethodName := ⟨RX7, "count", "(I)I"⟩
def RJ6 : String := "java/lang/Integer"
def TJ6 : u_T := fun k => match k with
  | _ => ("", "", "", false)
def tyJ6 : Nat → FieldType := fun k => match k with
  | _ => .int
abbrev wsJ60 : List Cond := u_ws RJ6 TJ6 0
theorem nmJ6 : ∀ a, a < 0 → ∀ b, b < 0 → a ≠ b → (TJ6 a).2.1 ≠ (TJ6 b).2.1 := by decide +kernel
theorem tyJ6_ok : ∀ k, k < 0 → parseFieldDescriptor (TJ6 k).2.2.1 = some (tyJ6 k) := by decide +kernel
abbrev cJ6_bitCount_0f7a4 : ByteArray := prog_10_method_49_code
def yJ6_bitCount_0f7a4 : MethodName := ⟨RJ6, "bitCount", "(I)I"⟩
def RJ9 : String := "java/lang/Math"
def TJ9 : u_T := fun k => match k with
  | _ => ("", "", "", false)
def tyJ9 : Nat → FieldType := fun k => match k with
  | _ => .int
abbrev wsJ90 : List Cond := u_ws RJ9 TJ9 0
theorem nmJ9 : ∀ a, a < 0 → ∀ b, b < 0 → a ≠ b → (TJ9 a).2.1 ≠ (TJ9 b).2.1 := by decide +kernel
theorem tyJ9_ok : ∀ k, k < 0 → parseFieldDescriptor (TJ9 k).2.2.1 = some (tyJ9 k) := by decide +kernel
abbrev cJ9_abs_067f4 : ByteArray := prog_11_method_61_code
def yJ9_abs_067f4 : MethodName := ⟨RJ9, "abs", "(J)J"⟩
abbrev cJ9_max_7cf53 : ByteArray := prog_11_method_65_code
def yJ9_max_7cf53 : MethodName := ⟨RJ9, "max", "(II)I"⟩
abbrev cJ9_max_f86c9 : ByteArray := prog_11_method_66_code
def yJ9_max_f86c9 : MethodName := ⟨RJ9, "max", "(JJ)J"⟩
abbrev cJ9_min_7cf53 : ByteArray := prog_11_method_69_code
def yJ9_min_7cf53 : MethodName := ⟨RJ9, "min", "(II)I"⟩
abbrev cJ9_min_f86c9 : ByteArray := prog_11_method_70_code
def yJ9_min_f86c9 : MethodName := ⟨RJ9, "min", "(JJ)J"⟩
def RJ10 : String := "java/lang/System"
def TJ10 : u_T := fun k => match k with
  | _ => ("", "", "", false)
def tyJ10 : Nat → FieldType := fun k => match k with
  | _ => .int
theorem nmJ10 : ∀ a, a < 0 → ∀ b, b < 0 → a ≠ b → (TJ10 a).2.1 ≠ (TJ10 b).2.1 := by decide +kernel
theorem tyJ10_ok : ∀ k, k < 0 → parseFieldDescriptor (TJ10 k).2.2.1 = some (tyJ10 k) := by decide +kernel
def RL : String := "StruckJuryLaw"
abbrev cL_law : ByteArray := code
def yL_law : MethodName := ⟨RL, "law", "([I)Z"⟩
def wsL_law_r1 : List Cond := [Cond.classLink RL 7 RX6, Cond.instantiable RX6 16, Cond.initialized RX6, Cond.classLink RL 10 RX7, Cond.instantiable RX7 36, Cond.initialized RX7, Cond.constantLong RL 33 (4294967295), Cond.methodLink RL 9 yX6_init, Cond.instanceMethod yX6_init, Cond.code yX6_init cX6_init 2 none, Cond.methodLink RX6 3 objectInit, Cond.instanceMethod objectInit, Cond.code objectInit ⟨#[0xb1]⟩ 1 none, Cond.arrayClass .long, Cond.classLink RX6 9 RX0, Cond.instantiable RX0 5, Cond.initialized RX0, Cond.fieldLink RX6 12 "StruckJury" "bench" "LStruckJury$Bench;", Cond.fieldLink RX6 16 "StruckJury" "kept" "LStruckJury$Bench;", Cond.classLink RX6 19 RX4, Cond.instantiable RX4 5, Cond.initialized RX4, Cond.fieldLink RX6 22 "StruckJury" "text" "LStruckJury$Text;", Cond.arrayClass .int]
def wsL_law_r2 : List Cond := [Cond.fieldLink RX6 26 "StruckJury" "row" "[I", Cond.fieldLink RX6 30 "StruckJury" "refusals" "[I", Cond.classLink RX6 33 RX2, Cond.instantiable RX2 7, Cond.initialized RX2, Cond.fieldLink RX6 36 "StruckJury" "minds" "LStruckJury$Minds;", Cond.fieldLink RX6 40 "StruckJury" "otherMinds" "LStruckJury$Minds;", Cond.classLink RX6 43 RX5, Cond.instantiable RX5 6, Cond.initialized RX5, Cond.fieldLink RX6 48 "StruckJury" "trueTurns" "LStruckJury$Turns;", Cond.fieldLink RX6 52 "StruckJury" "otherTurns" "LStruckJury$Turns;", Cond.classLink RX6 55 RX3, Cond.instantiable RX3 8, Cond.initialized RX3, Cond.fieldLink RX6 60 "StruckJury" "onPaper" "LStruckJury$Paper;", Cond.classLink RX6 64 RX1, Cond.instantiable RX1 7, Cond.initialized RX1, Cond.fieldLink RX6 67 "StruckJury" "byComing" "LStruckJury$Coming;", Cond.instanceMethod yX0_init, Cond.code yX0_init cX0_init 2 none, Cond.methodLink RX0 3 objectInit, Cond.fieldLink RX0 9 "StruckJury$Bench" "leans0" "[I"]
def wsL_law_r3 : List Cond := [Cond.fieldLink RX0 15 "StruckJury$Bench" "leans1" "[I", Cond.fieldLink RX0 18 "StruckJury$Bench" "sortOf" "[I", Cond.fieldLink RX0 21 "StruckJury$Bench" "terms" "[I", Cond.instanceMethod yX4_init, Cond.code yX4_init cX4_init 1 none, Cond.methodLink RX4 3 objectInit, Cond.arrayClass .byte, Cond.fieldLink RX4 9 "StruckJury$Text" "bytes" "[B", Cond.fieldLink RX4 15 "StruckJury$Text" "sorts" "[I", Cond.instanceMethod yX2_init, Cond.code yX2_init cX2_init 1 none, Cond.methodLink RX2 3 objectInit, Cond.fieldLink RX2 9 "StruckJury$Minds" "leans0" "[I", Cond.fieldLink RX2 15 "StruckJury$Minds" "leans1" "[I", Cond.fieldLink RX2 18 "StruckJury$Minds" "spread" "[J", Cond.classLink RX2 22 "[[J", Cond.fieldLink RX2 24 "StruckJury$Minds" "spreads" "[[J", Cond.instanceMethod yX5_init, Cond.code yX5_init cX5_init 2 none, Cond.methodLink RX5 3 objectInit, Cond.fieldLink RX5 9 "StruckJury$Turns" "sides" "[I", Cond.fieldLink RX5 15 "StruckJury$Turns" "twins" "[I", Cond.fieldLink RX5 18 "StruckJury$Turns" "values" "[J", Cond.instanceMethod yX3_init]
def wsL_law_r4 : List Cond := [Cond.code yX3_init cX3_init 3 none, Cond.methodLink RX3 3 objectInit, Cond.fieldLink RX3 11 "StruckJury$Paper" "setsA" "[I", Cond.fieldLink RX3 15 "StruckJury$Paper" "setsB" "[I", Cond.fieldLink RX3 18 "StruckJury$Paper" "sureA" "[J", Cond.fieldLink RX3 22 "StruckJury$Paper" "sureB" "[J", Cond.fieldLink RX3 25 "StruckJury$Paper" "turns" "LStruckJury$Turns;", Cond.fieldLink RX3 29 "StruckJury$Paper" "values" "[J", Cond.instanceMethod yX1_init, Cond.code yX1_init cX1_init 3 none, Cond.methodLink RX1 5 objectInit, Cond.fieldLink RX1 11 "StruckJury$Coming" "turns" "LStruckJury$Turns;", Cond.fieldLink RX1 15 "StruckJury$Coming" "ends" "[J", Cond.instanceMethod yX2_take, Cond.selects RX2 yX2_take yX2_take, Cond.code yX2_take cX2_take 4 none, Cond.fieldLink RX2 42 "StruckJury$Minds" "needed" "I", Cond.fieldLink RX2 47 "StruckJury$Minds" "byAll" "Z", Cond.fieldLink RX2 51 "StruckJury$Minds" "truth" "I", Cond.instanceMethod yX0_needed, Cond.selects RX0 yX0_needed yX0_needed, Cond.code yX0_needed cX0_needed 1 (some .int), Cond.methodLink RL 12 yX7_init, Cond.instanceMethod yX7_init]
def wsL_law_r5 : List Cond := [Cond.code yX7_init cX7_init 2 none, Cond.methodLink RX7 1 objectInit, Cond.fieldLink RX7 7 "StruckJuryModel" "refused" "[I", Cond.fieldLink RX7 13 "StruckJuryModel" "lean" "[I", Cond.fieldLink RX7 16 "StruckJuryModel" "sortOf" "[I", Cond.fieldLink RX7 19 "StruckJuryModel" "now" "[I", Cond.fieldLink RX7 22 "StruckJuryModel" "least" "[I", Cond.fieldLink RX7 25 "StruckJuryModel" "top" "[I", Cond.fieldLink RX7 28 "StruckJuryModel" "tape" "[I", Cond.fieldLink RX7 31 "StruckJuryModel" "held" "[I", Cond.fieldLink RX7 34 "StruckJuryModel" "finds" "[J", Cond.fieldLink RX7 38 "StruckJuryModel" "chance" "[J", Cond.constant RX7 41 (131072), Cond.fieldLink RX7 42 "StruckJuryModel" "value" "[J", Cond.fieldLink RX7 45 "StruckJuryModel" "size" "[I", Cond.fieldLink RX7 48 "StruckJuryModel" "line" "[I", Cond.fieldLink RX7 51 "StruckJuryModel" "row" "[I", Cond.fieldLink RX7 54 "StruckJuryModel" "setsA" "[I", Cond.fieldLink RX7 57 "StruckJuryModel" "setsB" "[I", Cond.fieldLink RX7 60 "StruckJuryModel" "greatest" "[J", Cond.fieldLink RX7 63 "StruckJuryModel" "lowest" "[J", Cond.constant RX7 66 (212992), Cond.fieldLink RX7 67 "StruckJuryModel" "layer" "[J", Cond.fieldLink RX7 70 "StruckJuryModel" "kept" "[I"]
def wsL_law_r6 : List Cond := [Cond.methodLink RL 13 yX6_sort, Cond.instanceMethod yX6_sort, Cond.selects RX6 yX6_sort yX6_sort, Cond.code yX6_sort cX6_sort 5 (some .int), Cond.methodLink RX6 75 yX6_leansRefusal, Cond.static yX6_leansRefusal, Cond.code yX6_leansRefusal cX6_leansRefusal 3 (some .int), Cond.methodLink RX6 92 yX6_isSort, Cond.static yX6_isSort, Cond.code yX6_isSort cX6_isSort 1 (some .boolean), Cond.methodLink RX6 79 yX6_refuse, Cond.instanceMethod yX6_refuse, Cond.selects RX6 yX6_refuse yX6_refuse, Cond.code yX6_refuse cX6_refuse 2 (some .int), Cond.methodLink RX6 89 yX6_changed, Cond.instanceMethod yX6_changed, Cond.selects RX6 yX6_changed yX6_changed, Cond.code yX6_changed cX6_changed 1 none, Cond.fieldLink RX6 269 "StruckJury" "turnsKnown" "Z", Cond.fieldLink RX6 272 "StruckJury" "paperKnown" "Z", Cond.fieldLink RX6 275 "StruckJury" "comingKnown" "Z", Cond.methodLink RL 17 yX7_sort, Cond.instanceMethod yX7_sort, Cond.selects RX7 yX7_sort yX7_sort]
def wsL_law_r7 : List Cond := [Cond.code yX7_sort cX7_sort 5 (some .int), Cond.methodLink RX7 75 yX7_isSort, Cond.static yX7_isSort, Cond.code yX7_isSort cX7_isSort 1 (some .boolean), Cond.methodLink RX7 79 yX7_no, Cond.instanceMethod yX7_no, Cond.selects RX7 yX7_no yX7_no, Cond.code yX7_no cX7_no 2 (some .int), Cond.methodLink RL 18 yX6_person, Cond.instanceMethod yX6_person, Cond.selects RX6 yX6_person yX6_person, Cond.code yX6_person cX6_person 2 (some .int), Cond.instanceMethod yX0_add, Cond.selects RX0 yX0_add yX0_add, Cond.code yX0_add cX0_add 2 none, Cond.fieldLink RX0 30 "StruckJury$Bench" "people" "I", Cond.methodLink RL 22 yX7_person, Cond.instanceMethod yX7_person, Cond.selects RX7 yX7_person yX7_person, Cond.code yX7_person cX7_person 2 (some .int), Cond.fieldLink RX7 83 "StruckJuryModel" "people" "I", Cond.methodLink RL 23 yX6_takeBack, Cond.instanceMethod yX6_takeBack, Cond.selects RX6 yX6_takeBack yX6_takeBack]
def wsL_law_r8 : List Cond := [Cond.code yX6_takeBack cX6_takeBack 1 (some .int), Cond.methodLink RL 27 yX7_takeBack, Cond.instanceMethod yX7_takeBack, Cond.selects RX7 yX7_takeBack yX7_takeBack, Cond.code yX7_takeBack cX7_takeBack 1 (some .int), Cond.methodLink RL 28 yX6_set, Cond.instanceMethod yX6_set, Cond.selects RX6 yX6_set yX6_set, Cond.code yX6_set cX6_set 4 (some .int), Cond.fieldLink RX6 104 "StruckJury" "LEAST" "[I", Cond.fieldLink RX6 107 "StruckJury" "GREATEST" "[I", Cond.methodLink RL 32 yX7_set, Cond.instanceMethod yX7_set, Cond.selects RX7 yX7_set yX7_set, Cond.code yX7_set cX7_set 5 (some .int), Cond.methodLink RX7 87 yX7_isIn, Cond.static yX7_isIn, Cond.code yX7_isIn cX7_isIn 3 (some .boolean), Cond.methodLink RX7 91 yX7_out, Cond.static yX7_out, Cond.code yX7_out cX7_out 3 (some .int), Cond.methodLink RL 35 yX6_feed, Cond.instanceMethod yX6_feed, Cond.selects RX6 yX6_feed yX6_feed]
def wsL_law_r9 : List Cond := [Cond.code yX6_feed cX6_feed 4 (some .int), Cond.instanceMethod yX4_append, Cond.selects RX4 yX4_append yX4_append, Cond.code yX4_append cX4_append 5 none, Cond.fieldLink RX4 19 "StruckJury$Text" "length" "I", Cond.methodLink RL 39 yX7_feed, Cond.instanceMethod yX7_feed, Cond.selects RX7 yX7_feed yX7_feed, Cond.code yX7_feed cX7_feed 6 (some .int), Cond.fieldLink RX7 99 "StruckJuryModel" "taped" "I", Cond.constantLong RX7 102 (255), Cond.methodLink RL 40 yX6_court, Cond.instanceMethod yX6_court, Cond.selects RX6 yX6_court yX6_court, Cond.code yX6_court cX6_court 2 (some .int), Cond.instanceMethod yX4_readInto, Cond.selects RX4 yX4_readInto yX4_readInto, Cond.code yX4_readInto cX4_readInto 4 (some .int), Cond.fieldLink RX4 23 "StruckJury$Text" "at" "I", Cond.fieldLink RX4 30 "StruckJury$Text" "faultAt" "I", Cond.methodLink RX4 26 yX4_readStatement, Cond.instanceMethod yX4_readStatement, Cond.selects RX4 yX4_readStatement yX4_readStatement, Cond.code yX4_readStatement cX4_readStatement 3 (some .boolean)]
def wsL_law_r10 : List Cond := [Cond.methodLink RX4 33 yX4_readSort, Cond.instanceMethod yX4_readSort, Cond.selects RX4 yX4_readSort yX4_readSort, Cond.code yX4_readSort cX4_readSort 5 (some .boolean), Cond.methodLink RX4 53 yX4_digit, Cond.instanceMethod yX4_digit, Cond.selects RX4 yX4_digit yX4_digit, Cond.code yX4_digit cX4_digit 3 (some .int), Cond.methodLink RX4 76 yX4_isDigit, Cond.instanceMethod yX4_isDigit, Cond.selects RX4 yX4_isDigit yX4_isDigit, Cond.code yX4_isDigit cX4_isDigit 3 (some .boolean), Cond.methodLink RX4 49 yX4_fault, Cond.instanceMethod yX4_fault, Cond.selects RX4 yX4_fault yX4_fault, Cond.code yX4_fault cX4_fault 2 (some .boolean), Cond.methodLink RX4 57 yX4_sign, Cond.instanceMethod yX4_sign, Cond.selects RX4 yX4_sign yX4_sign, Cond.code yX4_sign cX4_sign 2 (some .boolean), Cond.methodLink RX4 61 yX4_number, Cond.instanceMethod yX4_number, Cond.selects RX4 yX4_number yX4_number, Cond.code yX4_number cX4_number 4 (some .int)]
def wsL_law_r11 : List Cond := [Cond.methodLink RX4 36 yX4_readPeople, Cond.instanceMethod yX4_readPeople, Cond.selects RX4 yX4_readPeople yX4_readPeople, Cond.code yX4_readPeople cX4_readPeople 5 (some .boolean), Cond.methodLink RX4 39 yX4_readTerm, Cond.instanceMethod yX4_readTerm, Cond.selects RX4 yX4_readTerm yX4_readTerm, Cond.code yX4_readTerm cX4_readTerm 4 (some .boolean), Cond.methodLink RX4 43 yX4_readStrikes, Cond.instanceMethod yX4_readStrikes, Cond.selects RX4 yX4_readStrikes yX4_readStrikes, Cond.code yX4_readStrikes cX4_readStrikes 4 (some .boolean), Cond.methodLink RX4 46 yX4_readTruth, Cond.instanceMethod yX4_readTruth, Cond.selects RX4 yX4_readTruth yX4_readTruth, Cond.code yX4_readTruth cX4_readTruth 3 (some .boolean), Cond.methodLink RL 43 yX7_court, Cond.instanceMethod yX7_court, Cond.selects RX7 yX7_court yX7_court, Cond.code yX7_court cX7_court 3 (some .int), Cond.fieldLink RX7 104 "StruckJuryModel" "at" "I", Cond.methodLink RX7 130 yX7_statement, Cond.instanceMethod yX7_statement, Cond.selects RX7 yX7_statement yX7_statement]
def wsL_law_r12 : List Cond := [Cond.code yX7_statement cX7_statement 2 (some .boolean), Cond.methodLink RX7 107 yX7_sign, Cond.instanceMethod yX7_sign, Cond.selects RX7 yX7_sign yX7_sign, Cond.code yX7_sign cX7_sign 1 (some .int), Cond.methodLink RX7 120 yX7_readsSort, Cond.instanceMethod yX7_readsSort, Cond.selects RX7 yX7_readsSort yX7_readsSort, Cond.code yX7_readsSort cX7_readsSort 4 (some .boolean), Cond.methodLink RX7 110 yX7_digit, Cond.instanceMethod yX7_digit, Cond.selects RX7 yX7_digit yX7_digit, Cond.code yX7_digit cX7_digit 4 (some .int), Cond.methodLink RX7 114 yX7_takes, Cond.instanceMethod yX7_takes, Cond.selects RX7 yX7_takes yX7_takes, Cond.code yX7_takes cX7_takes 2 (some .boolean), Cond.methodLink RX7 117 yX7_hundredths, Cond.instanceMethod yX7_hundredths, Cond.selects RX7 yX7_hundredths yX7_hundredths, Cond.code yX7_hundredths cX7_hundredths 4 (some .int), Cond.methodLink RX7 124 yX7_readsPeople, Cond.instanceMethod yX7_readsPeople, Cond.selects RX7 yX7_readsPeople yX7_readsPeople]
def wsL_law_r13 : List Cond := [Cond.code yX7_readsPeople cX7_readsPeople 3 (some .boolean), Cond.methodLink RX7 127 yX7_readsNumber, Cond.instanceMethod yX7_readsNumber, Cond.selects RX7 yX7_readsNumber yX7_readsNumber, Cond.code yX7_readsNumber cX7_readsNumber 4 (some .boolean), Cond.methodLink RL 44 yX6_chance, Cond.instanceMethod yX6_chance, Cond.selects RX6 yX6_chance yX6_chance, Cond.code yX6_chance cX6_chance 3 (some .long), Cond.methodLink RX6 124 yX6_juryRefusal, Cond.instanceMethod yX6_juryRefusal, Cond.selects RX6 yX6_juryRefusal yX6_juryRefusal, Cond.code yX6_juryRefusal cX6_juryRefusal 2 (some .int), Cond.instanceMethod yX0_everyone, Cond.selects RX0 yX0_everyone yX0_everyone, Cond.code yX0_everyone cX0_everyone 1 (some .int), Cond.static yX6_setOfFirst, Cond.code yX6_setOfFirst cX6_setOfFirst 1 (some .int), Cond.methodLink RX6 204 yJ6_bitCount_0f7a4, Cond.static yJ6_bitCount_0f7a4, Cond.initialized RJ6, Cond.code yJ6_bitCount_0f7a4 cJ6_bitCount_0f7a4 1 (some .int), Cond.constant RJ6 265 (1431655765), Cond.constant RJ6 266 (858993459)]
def wsL_law_r14 : List Cond := [Cond.constant RJ6 267 (252645135), Cond.methodLink RX6 127 yX6_refuseLong, Cond.instanceMethod yX6_refuseLong, Cond.selects RX6 yX6_refuseLong yX6_refuseLong, Cond.code yX6_refuseLong cX6_refuseLong 2 (some .long), Cond.constantLong RX6 264 (4000000000000000000), Cond.instanceMethod yX2_chanceOf, Cond.selects RX2 yX2_chanceOf yX2_chanceOf, Cond.code yX2_chanceOf cX2_chanceOf 4 (some .long), Cond.methodLink RX2 54 yX2_spreadOut, Cond.instanceMethod yX2_spreadOut, Cond.selects RX2 yX2_spreadOut yX2_spreadOut, Cond.code yX2_spreadOut cX2_spreadOut 10 none, Cond.constantLong RX2 65 (100), Cond.methodLink RX2 58 yX2_findsForA, Cond.instanceMethod yX2_findsForA, Cond.selects RX2 yX2_findsForA yX2_findsForA, Cond.code yX2_findsForA cX2_findsForA 1 (some .long), Cond.methodLink RX2 70 yX2_spreadSum, Cond.instanceMethod yX2_spreadSum, Cond.selects RX2 yX2_spreadSum yX2_spreadSum, Cond.code yX2_spreadSum cX2_spreadSum 6 (some .long), Cond.methodLink RL 48 yX7_chance, Cond.instanceMethod yX7_chance]
def wsL_law_r15 : List Cond := [Cond.selects RX7 yX7_chance yX7_chance, Cond.code yX7_chance cX7_chance 3 (some .long), Cond.methodLink RX7 147 yX7_notJury, Cond.instanceMethod yX7_notJury, Cond.selects RX7 yX7_notJury yX7_notJury, Cond.code yX7_notJury cX7_notJury 2 (some .int), Cond.methodLink RX7 144 yX7_bits, Cond.static yX7_bits, Cond.code yX7_bits cX7_bits 3 (some .int), Cond.methodLink RX7 137 yX7_needed, Cond.instanceMethod yX7_needed, Cond.selects RX7 yX7_needed yX7_needed, Cond.code yX7_needed cX7_needed 1 (some .int), Cond.methodLink RX7 150 yX7_noLong, Cond.instanceMethod yX7_noLong, Cond.selects RX7 yX7_noLong yX7_noLong, Cond.code yX7_noLong cX7_noLong 2 (some .long), Cond.constantLong RX7 73 (4000000000000000000), Cond.methodLink RX7 154 yX7_holdsTrue, Cond.instanceMethod yX7_holdsTrue, Cond.selects RX7 yX7_holdsTrue yX7_holdsTrue, Cond.code yX7_holdsTrue cX7_holdsTrue 2 none, Cond.methodLink RX7 157 yX7_chanceOf, Cond.instanceMethod yX7_chanceOf]
def wsL_law_r16 : List Cond := [Cond.selects RX7 yX7_chanceOf yX7_chanceOf, Cond.code yX7_chanceOf cX7_chanceOf 2 (some .long), Cond.methodLink RX7 140 yX7_found, Cond.instanceMethod yX7_found, Cond.selects RX7 yX7_found yX7_found, Cond.code yX7_found cX7_found 8 (some .long), Cond.methodLink RX7 133 yX7_findFor, Cond.instanceMethod yX7_findFor, Cond.selects RX7 yX7_findFor yX7_findFor, Cond.code yX7_findFor cX7_findFor 7 none, Cond.methodLink RL 49 yX6_right, Cond.instanceMethod yX6_right, Cond.selects RX6 yX6_right yX6_right, Cond.code yX6_right cX6_right 3 (some .long), Cond.instanceMethod yX2_rightOf, Cond.selects RX2 yX2_rightOf yX2_rightOf, Cond.code yX2_rightOf cX2_rightOf 4 (some .long), Cond.methodLink RX2 62 yX2_findsForB, Cond.instanceMethod yX2_findsForB, Cond.selects RX2 yX2_findsForB yX2_findsForB, Cond.code yX2_findsForB cX2_findsForB 1 (some .long), Cond.methodLink RL 52 yX7_right, Cond.instanceMethod yX7_right, Cond.selects RX7 yX7_right yX7_right]
def wsL_law_r17 : List Cond := [Cond.code yX7_right cX7_right 3 (some .long), Cond.methodLink RX7 160 yX7_rightOf, Cond.instanceMethod yX7_rightOf, Cond.selects RX7 yX7_rightOf yX7_rightOf, Cond.code yX7_rightOf cX7_rightOf 2 (some .long), Cond.methodLink RL 53 yX6_best, Cond.instanceMethod yX6_best, Cond.selects RX6 yX6_best yX6_best, Cond.code yX6_best cX6_best 5 (some .long), Cond.methodLink RX6 137 yX6_leftRefusal, Cond.instanceMethod yX6_leftRefusal, Cond.selects RX6 yX6_leftRefusal yX6_leftRefusal, Cond.code yX6_leftRefusal cX6_leftRefusal 6 (some .int), Cond.methodLink RX6 189 yX6_isSide, Cond.static yX6_isSide, Cond.code yX6_isSide cX6_isSide 1 (some .boolean), Cond.instanceMethod yX5_lookBack, Cond.selects RX5 yX5_lookBack yX5_lookBack, Cond.code yX5_lookBack cX5_lookBack 7 none, Cond.fieldLink RX5 22 "StruckJury$Turns" "all" "I", Cond.fieldLink RX5 26 "StruckJury$Turns" "strikes" "I", Cond.fieldLink RX5 34 "StruckJury$Turns" "needed" "I", Cond.methodLink RX5 35 yX5_sideAt, Cond.static yX5_sideAt]
def wsL_law_r18 : List Cond := [Cond.code yX5_sideAt cX5_sideAt 8 (some .int), Cond.methodLink RX5 39 yX5_findTwins, Cond.instanceMethod yX5_findTwins, Cond.selects RX5 yX5_findTwins yX5_findTwins, Cond.code yX5_findTwins cX5_findTwins 4 none, Cond.instanceMethod yX2_areAlike, Cond.selects RX2 yX2_areAlike yX2_areAlike, Cond.code yX2_areAlike cX2_areAlike 3 (some .boolean), Cond.methodLink RX5 43 yJ6_bitCount_0f7a4, Cond.methodLink RX5 49 yX5_worthOf, Cond.instanceMethod yX5_worthOf, Cond.selects RX5 yX5_worthOf yX5_worthOf, Cond.code yX5_worthOf cX5_worthOf 5 (some .long), Cond.methodLink RX5 57 yX5_lesserLike, Cond.instanceMethod yX5_lesserLike, Cond.selects RX5 yX5_lesserLike yX5_lesserLike, Cond.code yX5_lesserLike cX5_lesserLike 4 (some .int), Cond.methodLink RX5 64 yX5_valueAfterBest, Cond.instanceMethod yX5_valueAfterBest, Cond.selects RX5 yX5_valueAfterBest yX5_valueAfterBest, Cond.code yX5_valueAfterBest cX5_valueAfterBest 8 (some .long), Cond.constantLong RX5 68 (-1), Cond.constantLong RX5 70 (10000000000000001), Cond.methodLink RX5 72 Lib.MathLoose.max_long.x]
def wsL_law_r19 : List Cond := [Cond.static Lib.MathLoose.max_long.x, Cond.initialized "java/lang/Math", Cond.code Lib.MathLoose.max_long.x Lib.MathLoose.max_long.code 4 (some .long), Cond.methodLink RX5 78 Lib.MathLoose.min_long.x, Cond.static Lib.MathLoose.min_long.x, Cond.code Lib.MathLoose.min_long.x Lib.MathLoose.min_long.code 4 (some .long), Cond.instanceMethod yX5_valueOf, Cond.selects RX5 yX5_valueOf yX5_valueOf, Cond.code yX5_valueOf cX5_valueOf 2 (some .long), Cond.methodLink RL 57 yX7_best, Cond.instanceMethod yX7_best, Cond.selects RX7 yX7_best yX7_best, Cond.code yX7_best cX7_best 5 (some .long), Cond.methodLink RX7 178 yX7_notLeft, Cond.instanceMethod yX7_notLeft, Cond.selects RX7 yX7_notLeft yX7_notLeft, Cond.code yX7_notLeft cX7_notLeft 4 (some .int), Cond.methodLink RX7 181 yX7_findBest, Cond.instanceMethod yX7_findBest, Cond.selects RX7 yX7_findBest yX7_findBest, Cond.code yX7_findBest cX7_findBest 8 none, Cond.methodLink RX7 163 yX7_index, Cond.static yX7_index, Cond.code yX7_index cX7_index 4 (some .int)]
def wsL_law_r20 : List Cond := [Cond.methodLink RX7 167 yX7_valueOf, Cond.instanceMethod yX7_valueOf, Cond.selects RX7 yX7_valueOf yX7_valueOf, Cond.code yX7_valueOf cX7_valueOf 12 (some .long), Cond.methodLink RX7 171 yX7_mover, Cond.static yX7_mover, Cond.code yX7_mover cX7_mover 3 (some .int), Cond.methodLink RX7 174 yX7_behind, Cond.instanceMethod yX7_behind, Cond.selects RX7 yX7_behind yX7_behind, Cond.code yX7_behind cX7_behind 6 (some .long), Cond.methodLink RL 58 yX6_strike, Cond.instanceMethod yX6_strike, Cond.selects RX6 yX6_strike yX6_strike, Cond.code yX6_strike cX6_strike 5 (some .int), Cond.instanceMethod yX5_strikeFrom, Cond.selects RX5 yX5_strikeFrom yX5_strikeFrom, Cond.code yX5_strikeFrom cX5_strikeFrom 4 (some .int), Cond.methodLink RL 61 yX7_strike, Cond.instanceMethod yX7_strike, Cond.selects RX7 yX7_strike yX7_strike, Cond.code yX7_strike cX7_strike 5 (some .int), Cond.methodLink RX7 185 yX7_strikeOf, Cond.instanceMethod yX7_strikeOf]
def wsL_law_r21 : List Cond := [Cond.selects RX7 yX7_strikeOf yX7_strikeOf, Cond.code yX7_strikeOf cX7_strikeOf 7 (some .int), Cond.methodLink RL 62 yX6_turns, Cond.instanceMethod yX6_turns, Cond.selects RX6 yX6_turns yX6_turns, Cond.code yX6_turns cX6_turns 1 (some .long), Cond.instanceMethod yX0_called, Cond.selects RX0 yX0_called yX0_called, Cond.code yX0_called cX0_called 2 (some .int), Cond.methodLink RX0 34 yX0_needed, Cond.methodLink RX0 38 yX0_strikes, Cond.instanceMethod yX0_strikes, Cond.selects RX0 yX0_strikes yX0_strikes, Cond.code yX0_strikes cX0_strikes 1 (some .int), Cond.methodLink RX6 154 yX6_valueByTurns, Cond.instanceMethod yX6_valueByTurns, Cond.selects RX6 yX6_valueByTurns yX6_valueByTurns, Cond.code yX6_valueByTurns cX6_valueByTurns 1 (some .long), Cond.methodLink RX6 161 yX6_knowTurns, Cond.instanceMethod yX6_knowTurns, Cond.selects RX6 yX6_knowTurns yX6_knowTurns, Cond.code yX6_knowTurns cX6_knowTurns 1 none, Cond.instanceMethod yX0_calledSet, Cond.selects RX0 yX0_calledSet yX0_calledSet]
def wsL_law_r22 : List Cond := [Cond.code yX0_calledSet cX0_calledSet 1 (some .int), Cond.methodLink RX0 41 yX0_called, Cond.instanceMethod yX0_strikesOf, Cond.selects RX0 yX0_strikesOf yX0_strikesOf, Cond.code yX0_strikesOf cX0_strikesOf 2 (some .int), Cond.methodLink RL 66 yX7_turns, Cond.instanceMethod yX7_turns, Cond.selects RX7 yX7_turns yX7_turns, Cond.code yX7_turns cX7_turns 1 (some .long), Cond.methodLink RX7 191 yX7_isEnough, Cond.instanceMethod yX7_isEnough, Cond.selects RX7 yX7_isEnough yX7_isEnough, Cond.code yX7_isEnough cX7_isEnough 1 (some .boolean), Cond.methodLink RX7 95 yX7_calledMany, Cond.instanceMethod yX7_calledMany, Cond.selects RX7 yX7_calledMany yX7_calledMany, Cond.code yX7_calledMany cX7_calledMany 1 (some .int), Cond.methodLink RX7 194 yX7_findTurns, Cond.instanceMethod yX7_findTurns, Cond.selects RX7 yX7_findTurns yX7_findTurns, Cond.code yX7_findTurns cX7_findTurns 1 none, Cond.methodLink RX7 188 yX7_called, Cond.instanceMethod yX7_called, Cond.selects RX7 yX7_called yX7_called]
def wsL_law_r23 : List Cond := [Cond.code yX7_called cX7_called 1 (some .int), Cond.methodLink RX7 197 yX7_turnsOf, Cond.instanceMethod yX7_turnsOf, Cond.selects RX7 yX7_turnsOf yX7_turnsOf, Cond.code yX7_turnsOf cX7_turnsOf 1 (some .long), Cond.methodLink RL 67 yX6_order, Cond.instanceMethod yX6_order, Cond.selects RX6 yX6_order yX6_order, Cond.code yX6_order cX6_order 4 (some .int), Cond.methodLink RL 70 yX7_order, Cond.instanceMethod yX7_order, Cond.selects RX7 yX7_order yX7_order, Cond.code yX7_order cX7_order 2 (some .int), Cond.fieldLink RX7 201 "StruckJuryModel" "lineMany" "I", Cond.methodLink RX7 207 yX7_findLine, Cond.instanceMethod yX7_findLine, Cond.selects RX7 yX7_findLine yX7_findLine, Cond.code yX7_findLine cX7_findLine 6 none, Cond.fieldLink RX7 204 "StruckJuryModel" "leftThen" "I", Cond.methodLink RL 71 yX6_put, Cond.instanceMethod yX6_put, Cond.selects RX6 yX6_put yX6_put, Cond.code yX6_put cX6_put 2 (some .int), Cond.fieldLink RX6 167 "StruckJury" "rowLength" "I"]
def wsL_law_r24 : List Cond := [Cond.methodLink RL 74 yX7_put, Cond.instanceMethod yX7_put, Cond.selects RX7 yX7_put yX7_put, Cond.code yX7_put cX7_put 3 (some .int), Cond.fieldLink RX7 210 "StruckJuryModel" "rowMany" "I", Cond.methodLink RL 75 yX6_unput, Cond.instanceMethod yX6_unput, Cond.selects RX6 yX6_unput yX6_unput, Cond.code yX6_unput cX6_unput 2 (some .int), Cond.methodLink RL 78 yX7_unput, Cond.instanceMethod yX7_unput, Cond.selects RX7 yX7_unput yX7_unput, Cond.code yX7_unput cX7_unput 2 (some .int), Cond.methodLink RL 79 yX6_lawful, Cond.instanceMethod yX6_lawful, Cond.selects RX6 yX6_lawful yX6_lawful, Cond.code yX6_lawful cX6_lawful 1 (some .int), Cond.methodLink RX6 170 yX6_rowIsLawful, Cond.instanceMethod yX6_rowIsLawful, Cond.selects RX6 yX6_rowIsLawful yX6_rowIsLawful, Cond.code yX6_rowIsLawful cX6_rowIsLawful 4 (some .boolean), Cond.methodLink RL 82 yX7_lawful, Cond.instanceMethod yX7_lawful, Cond.selects RX7 yX7_lawful yX7_lawful]
def wsL_law_r25 : List Cond := [Cond.code yX7_lawful cX7_lawful 1 (some .int), Cond.methodLink RX7 213 yX7_isLawful, Cond.instanceMethod yX7_isLawful, Cond.selects RX7 yX7_isLawful yX7_isLawful, Cond.code yX7_isLawful cX7_isLawful 3 (some .boolean), Cond.methodLink RL 83 yX6_slip, Cond.instanceMethod yX6_slip, Cond.selects RX6 yX6_slip yX6_slip, Cond.code yX6_slip cX6_slip 7 (some .long), Cond.methodLink RX6 174 Lib.MathLoose.abs_long.x, Cond.static Lib.MathLoose.abs_long.x, Cond.code Lib.MathLoose.abs_long.x Lib.MathLoose.abs_long.code 2 (some .long), Cond.constantLong RX6 180 (-9), Cond.methodLink RL 87 yX7_slip, Cond.instanceMethod yX7_slip, Cond.selects RX7 yX7_slip yX7_slip, Cond.code yX7_slip cX7_slip 3 (some .long), Cond.fieldLink RX7 216 "StruckJuryModel" "slipLoss" "J", Cond.methodLink RX7 223 yX7_findSlip, Cond.instanceMethod yX7_findSlip, Cond.selects RX7 yX7_findSlip yX7_findSlip, Cond.code yX7_findSlip cX7_findSlip 12 (some .int), Cond.fieldLink RX7 220 "StruckJuryModel" "byA" "I", Cond.methodLink RL 88 yX6_second]
def wsL_law_r26 : List Cond := [Cond.instanceMethod yX6_second, Cond.selects RX6 yX6_second yX6_second, Cond.code yX6_second cX6_second 1 (some .long), Cond.methodLink RX6 185 yX6_valueWith, Cond.instanceMethod yX6_valueWith, Cond.selects RX6 yX6_valueWith yX6_valueWith, Cond.code yX6_valueWith cX6_valueWith 6 (some .long), Cond.methodLink RX6 284 yX6_setOfFirst, Cond.methodLink RL 91 yX7_second, Cond.instanceMethod yX7_second, Cond.selects RX7 yX7_second yX7_second, Cond.code yX7_second cX7_second 1 (some .long), Cond.methodLink RL 92 yX6_more, Cond.instanceMethod yX6_more, Cond.selects RX6 yX6_more yX6_more, Cond.code yX6_more cX6_more 6 (some .long), Cond.methodLink RL 95 yX7_more, Cond.instanceMethod yX7_more, Cond.selects RX7 yX7_more yX7_more, Cond.code yX7_more cX7_more 6 (some .long), Cond.methodLink RL 96 yX6_rests, Cond.instanceMethod yX6_rests, Cond.selects RX6 yX6_rests yX6_rests, Cond.code yX6_rests cX6_rests 1 (some .int)]
def wsL_law_r27 : List Cond := [Cond.methodLink RX6 192 yX6_knowPaper, Cond.instanceMethod yX6_knowPaper, Cond.selects RX6 yX6_knowPaper yX6_knowPaper, Cond.code yX6_knowPaper cX6_knowPaper 1 none, Cond.instanceMethod yX3_weigh, Cond.selects RX3 yX3_weigh yX3_weigh, Cond.code yX3_weigh cX3_weigh 8 none, Cond.fieldLink RX3 53 "StruckJury$Paper" "countA" "I", Cond.fieldLink RX3 57 "StruckJury$Paper" "countB" "I", Cond.constantLong RX3 60 (-1), Cond.methodLink RX3 65 Lib.MathLoose.max_long.x, Cond.methodLink RX3 71 Lib.MathLoose.min_long.x, Cond.methodLink RX3 41 yX3_fillValues, Cond.instanceMethod yX3_fillValues, Cond.selects RX3 yX3_fillValues yX3_fillValues, Cond.code yX3_fillValues cX3_fillValues 6 none, Cond.methodLink RX3 78 yJ6_bitCount_0f7a4, Cond.methodLink RX3 49 yX3_listSets, Cond.static yX3_listSets, Cond.code yX3_listSets cX3_listSets 5 (some .int), Cond.methodLink RX3 62 yX3_weighSet, Cond.instanceMethod yX3_weighSet, Cond.selects RX3 yX3_weighSet yX3_weighSet, Cond.code yX3_weighSet cX3_weighSet 9 none]
def wsL_law_r28 : List Cond := [Cond.constantLong RX3 89 (10000000000000001), Cond.methodLink RX3 74 yX3_keepThose, Cond.static yX3_keepThose, Cond.code yX3_keepThose cX3_keepThose 7 (some .int), Cond.instanceMethod yX3_restCount, Cond.selects RX3 yX3_restCount yX3_restCount, Cond.code yX3_restCount cX3_restCount 1 (some .int), Cond.methodLink RL 99 yX7_rests, Cond.instanceMethod yX7_rests, Cond.selects RX7 yX7_rests yX7_rests, Cond.code yX7_rests cX7_rests 1 (some .int), Cond.fieldLink RX7 238 "StruckJuryModel" "restMany" "I", Cond.methodLink RX7 245 yX7_restOf, Cond.instanceMethod yX7_restOf, Cond.selects RX7 yX7_restOf yX7_restOf, Cond.code yX7_restOf cX7_restOf 5 (some .int), Cond.fieldLink RX7 226 "StruckJuryModel" "manyA" "I", Cond.fieldLink RX7 229 "StruckJuryModel" "manyB" "I", Cond.methodLink RX7 235 yX7_findPaper, Cond.instanceMethod yX7_findPaper, Cond.selects RX7 yX7_findPaper yX7_findPaper, Cond.code yX7_findPaper cX7_findPaper 5 none, Cond.methodLink RX7 232 yX7_juryOf, Cond.instanceMethod yX7_juryOf]
def wsL_law_r29 : List Cond := [Cond.selects RX7 yX7_juryOf yX7_juryOf, Cond.code yX7_juryOf cX7_juryOf 7 (some .int), Cond.methodLink RX7 241 yX7_isRest, Cond.instanceMethod yX7_isRest, Cond.selects RX7 yX7_isRest yX7_isRest, Cond.code yX7_isRest cX7_isRest 5 (some .boolean), Cond.methodLink RL 100 yX6_rest, Cond.instanceMethod yX6_rest, Cond.selects RX6 yX6_rest yX6_rest, Cond.code yX6_rest cX6_rest 2 (some .int), Cond.instanceMethod yX3_restOfA, Cond.selects RX3 yX3_restOfA yX3_restOfA, Cond.code yX3_restOfA cX3_restOfA 2 (some .int), Cond.instanceMethod yX3_restOfB, Cond.selects RX3 yX3_restOfB yX3_restOfB, Cond.code yX3_restOfB cX3_restOfB 2 (some .int), Cond.methodLink RL 103 yX7_rest, Cond.instanceMethod yX7_rest, Cond.selects RX7 yX7_rest yX7_rest, Cond.code yX7_rest cX7_rest 2 (some .int), Cond.methodLink RL 104 yX6_paper, Cond.instanceMethod yX6_paper, Cond.selects RX6 yX6_paper yX6_paper, Cond.code yX6_paper cX6_paper 4 (some .long)]
def wsL_law_r30 : List Cond := [Cond.methodLink RX6 212 yX6_firstOf, Cond.static yX6_firstOf, Cond.code yX6_firstOf cX6_firstOf 5 (some .int), Cond.methodLink RL 108 yX7_paper, Cond.instanceMethod yX7_paper, Cond.selects RX7 yX7_paper yX7_paper, Cond.code yX7_paper cX7_paper 3 (some .long), Cond.methodLink RL 109 yX6_coming, Cond.instanceMethod yX6_coming, Cond.selects RX6 yX6_coming yX6_coming, Cond.code yX6_coming cX6_coming 1 (some .long), Cond.methodLink RX6 216 yX6_knowComing, Cond.instanceMethod yX6_knowComing, Cond.selects RX6 yX6_knowComing yX6_knowComing, Cond.code yX6_knowComing cX6_knowComing 1 none, Cond.instanceMethod yX1_goBack, Cond.selects RX1 yX1_goBack yX1_goBack, Cond.code yX1_goBack cX1_goBack 4 none, Cond.fieldLink RX1 25 "StruckJury$Coming" "called" "I", Cond.fieldLink RX1 31 "StruckJury$Coming" "needed" "I", Cond.fieldLink RX1 37 "StruckJury$Coming" "strikesA" "I", Cond.fieldLink RX1 40 "StruckJury$Coming" "strikesB" "I", Cond.fieldLink RX1 51 "StruckJury$Coming" "end" "I", Cond.methodLink RX1 43 yX1_decideAll]
def wsL_law_r31 : List Cond := [Cond.instanceMethod yX1_decideAll, Cond.selects RX1 yX1_decideAll yX1_decideAll, Cond.code yX1_decideAll cX1_decideAll 9 none, Cond.methodLink RX1 59 Lib.Math.min.name, Cond.static Lib.Math.min.name, Cond.code Lib.Math.min.name Lib.Math.min.code 2 (some .int), Cond.methodLink RX1 65 Lib.Math.max.name, Cond.static Lib.Math.max.name, Cond.code Lib.Math.max.name Lib.Math.max.code 2 (some .int), Cond.constantLong RX1 71 (65535), Cond.constantLong RX1 73 (-1), Cond.methodLink RX1 54 yJ6_bitCount_0f7a4, Cond.methodLink RX1 68 yX1_decide, Cond.instanceMethod yX1_decide, Cond.selects RX1 yX1_decide yX1_decide, Cond.code yX1_decide cX1_decide 7 (some .int), Cond.methodLink RX1 47 yX1_endFrom, Cond.instanceMethod yX1_endFrom, Cond.selects RX1 yX1_endFrom yX1_endFrom, Cond.code yX1_endFrom cX1_endFrom 8 (some .int), Cond.methodLink RX1 75 yX1_valueOfEnd, Cond.instanceMethod yX1_valueOfEnd, Cond.selects RX1 yX1_valueOfEnd yX1_valueOfEnd, Cond.code yX1_valueOfEnd cX1_valueOfEnd 2 (some .long)]
def wsL_law_r32 : List Cond := [Cond.instanceMethod yX1_jury, Cond.selects RX1 yX1_jury yX1_jury, Cond.code yX1_jury cX1_jury 1 (some .int), Cond.methodLink RL 112 yX7_coming, Cond.instanceMethod yX7_coming, Cond.selects RX7 yX7_coming yX7_coming, Cond.code yX7_coming cX7_coming 1 (some .long), Cond.methodLink RX7 270 yX7_findComing, Cond.instanceMethod yX7_findComing, Cond.selects RX7 yX7_findComing yX7_findComing, Cond.code yX7_findComing cX7_findComing 5 none, Cond.methodLink RX7 248 yX7_leftOfB, Cond.instanceMethod yX7_leftOfB, Cond.selects RX7 yX7_leftOfB yX7_leftOfB, Cond.code yX7_leftOfB cX7_leftOfB 4 (some .int), Cond.methodLink RX7 251 yX7_place, Cond.instanceMethod yX7_place, Cond.selects RX7 yX7_place yX7_place, Cond.code yX7_place cX7_place 4 (some .int), Cond.methodLink RX7 261 yX7_ends, Cond.instanceMethod yX7_ends, Cond.selects RX7 yX7_ends yX7_ends, Cond.code yX7_ends cX7_ends 4 (some .boolean), Cond.methodLink RX7 264 yX7_seatedAll]
def wsL_law_r33 : List Cond := [Cond.instanceMethod yX7_seatedAll, Cond.selects RX7 yX7_seatedAll yX7_seatedAll, Cond.code yX7_seatedAll cX7_seatedAll 3 (some .int), Cond.methodLink RX7 267 yX7_strikesA, Cond.instanceMethod yX7_strikesA, Cond.selects RX7 yX7_strikesA yX7_strikesA, Cond.code yX7_strikesA cX7_strikesA 4 (some .boolean), Cond.methodLink RX7 257 yX7_notByA, Cond.instanceMethod yX7_notByA, Cond.selects RX7 yX7_notByA yX7_notByA, Cond.code yX7_notByA cX7_notByA 4 (some .long), Cond.methodLink RX7 254 yX7_strikesB, Cond.instanceMethod yX7_strikesB, Cond.selects RX7 yX7_strikesB yX7_strikesB, Cond.code yX7_strikesB cX7_strikesB 4 (some .boolean), Cond.methodLink RL 113 yX6_come, Cond.instanceMethod yX6_come, Cond.selects RX6 yX6_come yX6_come, Cond.code yX6_come cX6_come 2 (some .int), Cond.instanceMethod yX1_keptBack, Cond.selects RX1 yX1_keptBack yX1_keptBack, Cond.code yX1_keptBack cX1_keptBack 2 (some .int), Cond.methodLink RL 116 yX7_come, Cond.instanceMethod yX7_come]
def wsL_law_r34 : List Cond := [Cond.selects RX7 yX7_come yX7_come, Cond.code yX7_come cX7_come 2 (some .int), Cond.fieldLink RX7 273 "StruckJuryModel" "comeJury" "I", Cond.fieldLink RX7 276 "StruckJuryModel" "comeA" "I", Cond.fieldLink RX7 279 "StruckJuryModel" "comeB" "I", Cond.methodLink RX7 282 yX7_findCome, Cond.instanceMethod yX7_findCome, Cond.selects RX7 yX7_findCome yX7_findCome, Cond.code yX7_findCome cX7_findCome 4 none, Cond.methodLink RL 117 yX6_seldom, Cond.instanceMethod yX6_seldom, Cond.selects RX6 yX6_seldom yX6_seldom, Cond.code yX6_seldom cX6_seldom 5 (some .long), Cond.methodLink RX6 225 yX6_ways, Cond.static yX6_ways, Cond.code yX6_ways cX6_ways 5 (some .long), Cond.methodLink RX6 229 yX6_setsAsStruck, Cond.instanceMethod yX6_setsAsStruck, Cond.selects RX6 yX6_setsAsStruck yX6_setsAsStruck, Cond.code yX6_setsAsStruck cX6_setsAsStruck 10 (some .long), Cond.instanceMethod yX0_ofSort, Cond.selects RX0 yX0_ofSort yX0_ofSort, Cond.code yX0_ofSort cX0_ofSort 4 (some .int), Cond.instanceMethod yX0_sideAt]
def wsL_law_r35 : List Cond := [Cond.selects RX0 yX0_sideAt yX0_sideAt, Cond.code yX0_sideAt cX0_sideAt 2 (some .int), Cond.methodLink RX0 48 yX0_strikesOf, Cond.methodLink RL 120 yX7_seldom, Cond.instanceMethod yX7_seldom, Cond.selects RX7 yX7_seldom yX7_seldom, Cond.code yX7_seldom cX7_seldom 8 (some .long), Cond.methodLink RX7 285 yX7_ways, Cond.static yX7_ways, Cond.code yX7_ways cX7_ways 5 (some .long), Cond.methodLink RL 121 yX6_finest, Cond.instanceMethod yX6_finest, Cond.selects RX6 yX6_finest yX6_finest, Cond.code yX6_finest cX6_finest 7 (some .int), Cond.instanceMethod yX5_juryAtLast, Cond.selects RX5 yX5_juryAtLast yX5_juryAtLast, Cond.code yX5_juryAtLast cX5_juryAtLast 3 (some .int), Cond.methodLink RX5 81 yX5_strikeFrom, Cond.methodLink RL 124 yX7_finest, Cond.instanceMethod yX7_finest, Cond.selects RX7 yX7_finest yX7_finest, Cond.code yX7_finest cX7_finest 7 (some .int), Cond.methodLink RL 125 yX6_lot, Cond.instanceMethod yX6_lot]
def wsL_law_r36 : List Cond := [Cond.selects RX6 yX6_lot yX6_lot, Cond.code yX6_lot cX6_lot 3 (some .long), Cond.instanceMethod yX2_rightOfAll, Cond.selects RX2 yX2_rightOfAll yX2_rightOfAll, Cond.code yX2_rightOfAll cX2_rightOfAll 4 (some .long), Cond.methodLink RX2 67 yX2_spreadOutAll, Cond.instanceMethod yX2_spreadOutAll, Cond.selects RX2 yX2_spreadOutAll yX2_spreadOutAll, Cond.code yX2_spreadOutAll cX2_spreadOutAll 8 none, Cond.methodLink RL 128 yX7_lot, Cond.instanceMethod yX7_lot, Cond.selects RX7 yX7_lot yX7_lot, Cond.code yX7_lot cX7_lot 5 (some .long), Cond.methodLink RL 129 yX6_trade, Cond.instanceMethod yX6_trade, Cond.selects RX6 yX6_trade yX6_trade, Cond.code yX6_trade cX6_trade 5 (some .int), Cond.methodLink RL 132 yX7_trade, Cond.instanceMethod yX7_trade, Cond.selects RX7 yX7_trade yX7_trade, Cond.code yX7_trade cX7_trade 5 (some .int), Cond.methodLink RL 133 yX6_wrongly, Cond.instanceMethod yX6_wrongly, Cond.selects RX6 yX6_wrongly yX6_wrongly]
def wsL_law_r37 : List Cond := [Cond.code yX6_wrongly cX6_wrongly 6 (some .long), Cond.instanceMethod yX2_lean, Cond.selects RX2 yX2_lean yX2_lean, Cond.code yX2_lean cX2_lean 4 none, Cond.methodLink RX6 249 yX6_juryOfTwoMinds, Cond.instanceMethod yX6_juryOfTwoMinds, Cond.selects RX6 yX6_juryOfTwoMinds yX6_juryOfTwoMinds, Cond.code yX6_juryOfTwoMinds cX6_juryOfTwoMinds 6 (some .int), Cond.methodLink RL 136 yX7_wrongly, Cond.instanceMethod yX7_wrongly, Cond.selects RX7 yX7_wrongly yX7_wrongly, Cond.code yX7_wrongly cX7_wrongly 12 (some .long), Cond.methodLink RX7 289 yX7_holdsWrong, Cond.instanceMethod yX7_holdsWrong, Cond.selects RX7 yX7_holdsWrong yX7_holdsWrong, Cond.code yX7_holdsWrong cX7_holdsWrong 5 none, Cond.methodLink RL 137 yX6_asked, Cond.instanceMethod yX6_asked, Cond.selects RX6 yX6_asked yX6_asked, Cond.code yX6_asked cX6_asked 3 (some .long), Cond.constantLong RX6 255 (2), Cond.methodLink RX6 252 yX6_valueLeaning, Cond.instanceMethod yX6_valueLeaning, Cond.selects RX6 yX6_valueLeaning yX6_valueLeaning]
def wsL_law_r38 : List Cond := [Cond.code yX6_valueLeaning cX6_valueLeaning 4 (some .long), Cond.methodLink RX6 287 yX6_heldLean, Cond.static yX6_heldLean, Cond.code yX6_heldLean cX6_heldLean 1 (some .int), Cond.methodLink RX6 290 Lib.Math.min.name, Cond.methodLink RX6 293 Lib.Math.max.name, Cond.methodLink RL 140 yX7_asked, Cond.instanceMethod yX7_asked, Cond.selects RX7 yX7_asked yX7_asked, Cond.code yX7_asked cX7_asked 8 (some .long), Cond.constantLong RX7 295 (2), Cond.methodLink RX7 292 yX7_turnsWith, Cond.instanceMethod yX7_turnsWith, Cond.selects RX7 yX7_turnsWith yX7_turnsWith, Cond.code yX7_turnsWith cX7_turnsWith 5 (some .long), Cond.methodLink RL 141 yX6_image, Cond.instanceMethod yX6_image, Cond.selects RX6 yX6_image yX6_image, Cond.code yX6_image cX6_image 1 (some .int), Cond.fieldLink RX6 260 "StruckJury" "isKept" "Z", Cond.instanceMethod yX0_copy, Cond.selects RX0 yX0_copy yX0_copy, Cond.code yX0_copy cX0_copy 2 none, Cond.methodLink RX0 24 arraycopyName]
def wsL_law_r39 : List Cond := [Cond.native arraycopyName, Cond.static arraycopyName, Cond.initialized "java/lang/System", Cond.methodLink RL 144 yX7_image, Cond.instanceMethod yX7_image, Cond.selects RX7 yX7_image yX7_image, Cond.code yX7_image cX7_image 2 (some .int), Cond.fieldLink RX7 297 "StruckJuryModel" "keptPeople" "I", Cond.fieldLink RX7 300 "StruckJuryModel" "hasImage" "Z", Cond.methodLink RL 145 yX6_restore, Cond.instanceMethod yX6_restore, Cond.selects RX6 yX6_restore yX6_restore, Cond.code yX6_restore cX6_restore 1 (some .int), Cond.methodLink RL 148 yX7_restore, Cond.instanceMethod yX7_restore, Cond.selects RX7 yX7_restore yX7_restore, Cond.code yX7_restore cX7_restore 2 (some .int), Cond.methodLink RL 149 yX6_count, Cond.instanceMethod yX6_count, Cond.selects RX6 yX6_count yX6_count, Cond.code yX6_count cX6_count 2 (some .int), Cond.methodLink RL 152 yX7_count, Cond.instanceMethod yX7_count, Cond.selects RX7 yX7_count yX7_count]
def wsL_law_r40 : List Cond := [Cond.code yX7_count cX7_count 4 (some .int)]
def wsL_law : List Cond := (wsL_law_r1 ++ (wsL_law_r2 ++ (wsL_law_r3 ++ (wsL_law_r4 ++ (wsL_law_r5 ++ (wsL_law_r6 ++ (wsL_law_r7 ++ (wsL_law_r8 ++ (wsL_law_r9 ++ (wsL_law_r10 ++ (wsL_law_r11 ++ (wsL_law_r12 ++ (wsL_law_r13 ++ (wsL_law_r14 ++ (wsL_law_r15 ++ (wsL_law_r16 ++ (wsL_law_r17 ++ (wsL_law_r18 ++ (wsL_law_r19 ++ (wsL_law_r20 ++ (wsL_law_r21 ++ (wsL_law_r22 ++ (wsL_law_r23 ++ (wsL_law_r24 ++ (wsL_law_r25 ++ (wsL_law_r26 ++ (wsL_law_r27 ++ (wsL_law_r28 ++ (wsL_law_r29 ++ (wsL_law_r30 ++ (wsL_law_r31 ++ (wsL_law_r32 ++ (wsL_law_r33 ++ (wsL_law_r34 ++ (wsL_law_r35 ++ (wsL_law_r36 ++ (wsL_law_r37 ++ (wsL_law_r38 ++ (wsL_law_r39 ++ wsL_law_r40))))))))))))))))))))))))))))))))))))))) ++ wsX60 ++ wsX70 ++ wsX00 ++ wsX40 ++ wsX20 ++ wsX50 ++ wsX30 ++ wsX10 ++ ([] : List Cond)
theorem inlX0 : ∀ w ∈ wsX00, w ∈ wsL_law := fun _ h => List.mem_append_left _ (List.mem_append_left _ (List.mem_append_left _ (List.mem_append_left _ (List.mem_append_left _ (List.mem_append_left _ (List.mem_append_right _ h))))))
theorem inlX1 : ∀ w ∈ wsX10, w ∈ wsL_law := fun _ h => List.mem_append_left _ (List.mem_append_right _ h)
theorem inlX2 : ∀ w ∈ wsX20, w ∈ wsL_law := fun _ h => List.mem_append_left _ (List.mem_append_left _ (List.mem_append_left _ (List.mem_append_left _ (List.mem_append_right _ h))))
theorem inlX3 : ∀ w ∈ wsX30, w ∈ wsL_law := fun _ h => List.mem_append_left _ (List.mem_append_left _ (List.mem_append_right _ h))
theorem inlX4 : ∀ w ∈ wsX40, w ∈ wsL_law := fun _ h => List.mem_append_left _ (List.mem_append_left _ (List.mem_append_left _ (List.mem_append_left _ (List.mem_append_left _ (List.mem_append_right _ h)))))
theorem inlX5 : ∀ w ∈ wsX50, w ∈ wsL_law := fun _ h => List.mem_append_left _ (List.mem_append_left _ (List.mem_append_left _ (List.mem_append_right _ h)))
theorem inlX6 : ∀ w ∈ wsX60, w ∈ wsL_law := fun _ h => List.mem_append_left _ (List.mem_append_left _ (List.mem_append_left _ (List.mem_append_left _ (List.mem_append_left _ (List.mem_append_left _ (List.mem_append_left _ (List.mem_append_left _ (List.mem_append_right _ h))))))))
theorem inlX7 : ∀ w ∈ wsX70, w ∈ wsL_law := fun _ h => List.mem_append_left _ (List.mem_append_left _ (List.mem_append_left _ (List.mem_append_left _ (List.mem_append_left _ (List.mem_append_left _ (List.mem_append_left _ (List.mem_append_right _ h)))))))
abbrev vwCl : List vw_C := [(RX0, TX0, 5), (RX1, TX1, 7), (RX2, TX2, 7), (RX3, TX3, 8), (RX4, TX4, 5), (RX5, TX5, 6), (RX6, TX6, 16), (RX7, TX7, 36)]
end
section
theorem law_all : wsL_law.all goodWord = true := by decide +kernel
theorem law_good : GoodIn wsL_law wsL_law := fun w hw => ⟨hw, good_of_word (List.all_eq_true.mp law_all w hw)⟩
theorem wr_1 : ∀ w ∈ wsL_law_r1, w ∈ wsL_law := by
  intro w h
  exact List.mem_append_left _ (List.mem_append_left _ (List.mem_append_left _ (List.mem_append_left _ (List.mem_append_left _ (List.mem_append_left _ (List.mem_append_left _ (List.mem_append_left _ (List.mem_append_left _ (List.mem_append_left _ h)))))))))
theorem wq_0 : (Cond.classLink RL 7 RX6) ∈ wsL_law := wr_1 _ (List.mem_of_getElem? (i := 0) rfl)
theorem wq_1 : (Cond.instantiable RX6 16) ∈ wsL_law := wr_1 _ (List.mem_of_getElem? (i := 1) rfl)
theorem wq_2 : (Cond.initialized RX6) ∈ wsL_law := wr_1 _ (List.mem_of_getElem? (i := 2) rfl)
theorem wq_3 : (Cond.classLink RL 10 RX7) ∈ wsL_law := wr_1 _ (List.mem_of_getElem? (i := 3) rfl)
theorem wq_4 : (Cond.instantiable RX7 36) ∈ wsL_law := wr_1 _ (List.mem_of_getElem? (i := 4) rfl)
theorem wq_5 : (Cond.initialized RX7) ∈ wsL_law := wr_1 _ (List.mem_of_getElem? (i := 5) rfl)
theorem wq_6 : (Cond.constantLong RL 33 (4294967295)) ∈ wsL_law := wr_1 _ (List.mem_of_getElem? (i := 6) rfl)
theorem wq_7 : (Cond.methodLink RL 9 yX6_init) ∈ wsL_law := wr_1 _ (List.mem_of_getElem? (i := 7) rfl)
theorem wq_8 : (Cond.instanceMethod yX6_init) ∈ wsL_law := wr_1 _ (List.mem_of_getElem? (i := 8) rfl)
theorem wq_9 : (Cond.code yX6_init cX6_init 2 none) ∈ wsL_law := wr_1 _ (List.mem_of_getElem? (i := 9) rfl)
theorem wq_10 : (Cond.methodLink RX6 3 objectInit) ∈ wsL_law := wr_1 _ (List.mem_of_getElem? (i := 10) rfl)
theorem wq_11 : (Cond.instanceMethod objectInit) ∈ wsL_law := wr_1 _ (List.mem_of_getElem? (i := 11) rfl)
theorem wq_12 : (Cond.code objectInit ⟨#[0xb1]⟩ 1 none) ∈ wsL_law := wr_1 _ (List.mem_of_getElem? (i := 12) rfl)
theorem wq_13 : (Cond.arrayClass .long) ∈ wsL_law := wr_1 _ (List.mem_of_getElem? (i := 13) rfl)
theorem wq_14 : (Cond.classLink RX6 9 RX0) ∈ wsL_law := wr_1 _ (List.mem_of_getElem? (i := 14) rfl)
theorem wq_15 : (Cond.instantiable RX0 5) ∈ wsL_law := wr_1 _ (List.mem_of_getElem? (i := 15) rfl)
theorem wq_16 : (Cond.initialized RX0) ∈ wsL_law := wr_1 _ (List.mem_of_getElem? (i := 16) rfl)
theorem wq_17 : (Cond.fieldLink RX6 12 "StruckJury" "bench" "LStruckJury$Bench;") ∈ wsL_law := wr_1 _ (List.mem_of_getElem? (i := 17) rfl)
theorem wq_18 : (Cond.fieldLink RX6 16 "StruckJury" "kept" "LStruckJury$Bench;") ∈ wsL_law := wr_1 _ (List.mem_of_getElem? (i := 18) rfl)
theorem wq_19 : (Cond.classLink RX6 19 RX4) ∈ wsL_law := wr_1 _ (List.mem_of_getElem? (i := 19) rfl)
theorem wq_20 : (Cond.instantiable RX4 5) ∈ wsL_law := wr_1 _ (List.mem_of_getElem? (i := 20) rfl)
theorem wq_21 : (Cond.initialized RX4) ∈ wsL_law := wr_1 _ (List.mem_of_getElem? (i := 21) rfl)
theorem wq_22 : (Cond.fieldLink RX6 22 "StruckJury" "text" "LStruckJury$Text;") ∈ wsL_law := wr_1 _ (List.mem_of_getElem? (i := 22) rfl)
theorem wq_23 : (Cond.arrayClass .int) ∈ wsL_law := wr_1 _ (List.mem_of_getElem? (i := 23) rfl)
theorem wr_2 : ∀ w ∈ wsL_law_r2, w ∈ wsL_law := by
  intro w h
  exact List.mem_append_left _ (List.mem_append_left _ (List.mem_append_left _ (List.mem_append_left _ (List.mem_append_left _ (List.mem_append_left _ (List.mem_append_left _ (List.mem_append_left _ (List.mem_append_left _ (List.mem_append_right _ (List.mem_append_left _ h))))))))))
theorem wq_24 : (Cond.fieldLink RX6 26 "StruckJury" "row" "[I") ∈ wsL_law := wr_2 _ (List.mem_of_getElem? (i := 0) rfl)
theorem wq_25 : (Cond.fieldLink RX6 30 "StruckJury" "refusals" "[I") ∈ wsL_law := wr_2 _ (List.mem_of_getElem? (i := 1) rfl)
theorem wq_26 : (Cond.classLink RX6 33 RX2) ∈ wsL_law := wr_2 _ (List.mem_of_getElem? (i := 2) rfl)
theorem wq_27 : (Cond.instantiable RX2 7) ∈ wsL_law := wr_2 _ (List.mem_of_getElem? (i := 3) rfl)
theorem wq_28 : (Cond.initialized RX2) ∈ wsL_law := wr_2 _ (List.mem_of_getElem? (i := 4) rfl)
theorem wq_29 : (Cond.fieldLink RX6 36 "StruckJury" "minds" "LStruckJury$Minds;") ∈ wsL_law := wr_2 _ (List.mem_of_getElem? (i := 5) rfl)
theorem wq_30 : (Cond.fieldLink RX6 40 "StruckJury" "otherMinds" "LStruckJury$Minds;") ∈ wsL_law := wr_2 _ (List.mem_of_getElem? (i := 6) rfl)
theorem wq_31 : (Cond.classLink RX6 43 RX5) ∈ wsL_law := wr_2 _ (List.mem_of_getElem? (i := 7) rfl)
theorem wq_32 : (Cond.instantiable RX5 6) ∈ wsL_law := wr_2 _ (List.mem_of_getElem? (i := 8) rfl)
theorem wq_33 : (Cond.initialized RX5) ∈ wsL_law := wr_2 _ (List.mem_of_getElem? (i := 9) rfl)
theorem wq_34 : (Cond.fieldLink RX6 48 "StruckJury" "trueTurns" "LStruckJury$Turns;") ∈ wsL_law := wr_2 _ (List.mem_of_getElem? (i := 10) rfl)
theorem wq_35 : (Cond.fieldLink RX6 52 "StruckJury" "otherTurns" "LStruckJury$Turns;") ∈ wsL_law := wr_2 _ (List.mem_of_getElem? (i := 11) rfl)
theorem wq_36 : (Cond.classLink RX6 55 RX3) ∈ wsL_law := wr_2 _ (List.mem_of_getElem? (i := 12) rfl)
theorem wq_37 : (Cond.instantiable RX3 8) ∈ wsL_law := wr_2 _ (List.mem_of_getElem? (i := 13) rfl)
theorem wq_38 : (Cond.initialized RX3) ∈ wsL_law := wr_2 _ (List.mem_of_getElem? (i := 14) rfl)
theorem wq_39 : (Cond.fieldLink RX6 60 "StruckJury" "onPaper" "LStruckJury$Paper;") ∈ wsL_law := wr_2 _ (List.mem_of_getElem? (i := 15) rfl)
theorem wq_40 : (Cond.classLink RX6 64 RX1) ∈ wsL_law := wr_2 _ (List.mem_of_getElem? (i := 16) rfl)
theorem wq_41 : (Cond.instantiable RX1 7) ∈ wsL_law := wr_2 _ (List.mem_of_getElem? (i := 17) rfl)
theorem wq_42 : (Cond.initialized RX1) ∈ wsL_law := wr_2 _ (List.mem_of_getElem? (i := 18) rfl)
theorem wq_43 : (Cond.fieldLink RX6 67 "StruckJury" "byComing" "LStruckJury$Coming;") ∈ wsL_law := wr_2 _ (List.mem_of_getElem? (i := 19) rfl)
theorem wq_44 : (Cond.instanceMethod yX0_init) ∈ wsL_law := wr_2 _ (List.mem_of_getElem? (i := 20) rfl)
theorem wq_45 : (Cond.code yX0_init cX0_init 2 none) ∈ wsL_law := wr_2 _ (List.mem_of_getElem? (i := 21) rfl)
theorem wq_46 : (Cond.methodLink RX0 3 objectInit) ∈ wsL_law := wr_2 _ (List.mem_of_getElem? (i := 22) rfl)
theorem wq_47 : (Cond.fieldLink RX0 9 "StruckJury$Bench" "leans0" "[I") ∈ wsL_law := wr_2 _ (List.mem_of_getElem? (i := 23) rfl)
theorem wr_3 : ∀ w ∈ wsL_law_r3, w ∈ wsL_law := by
  intro w h
  exact List.mem_append_left _ (List.mem_append_left _ (List.mem_append_left _ (List.mem_append_left _ (List.mem_append_left _ (List.mem_append_left _ (List.mem_append_left _ (List.mem_append_left _ (List.mem_append_left _ (List.mem_append_right _ (List.mem_append_right _ (List.mem_append_left _ h)))))))))))
theorem wq_48 : (Cond.fieldLink RX0 15 "StruckJury$Bench" "leans1" "[I") ∈ wsL_law := wr_3 _ (List.mem_of_getElem? (i := 0) rfl)
theorem wq_49 : (Cond.fieldLink RX0 18 "StruckJury$Bench" "sortOf" "[I") ∈ wsL_law := wr_3 _ (List.mem_of_getElem? (i := 1) rfl)
theorem wq_50 : (Cond.fieldLink RX0 21 "StruckJury$Bench" "terms" "[I") ∈ wsL_law := wr_3 _ (List.mem_of_getElem? (i := 2) rfl)
theorem wq_51 : (Cond.instanceMethod yX4_init) ∈ wsL_law := wr_3 _ (List.mem_of_getElem? (i := 3) rfl)
theorem wq_52 : (Cond.code yX4_init cX4_init 1 none) ∈ wsL_law := wr_3 _ (List.mem_of_getElem? (i := 4) rfl)
theorem wq_53 : (Cond.methodLink RX4 3 objectInit) ∈ wsL_law := wr_3 _ (List.mem_of_getElem? (i := 5) rfl)
theorem wq_54 : (Cond.arrayClass .byte) ∈ wsL_law := wr_3 _ (List.mem_of_getElem? (i := 6) rfl)
theorem wq_55 : (Cond.fieldLink RX4 9 "StruckJury$Text" "bytes" "[B") ∈ wsL_law := wr_3 _ (List.mem_of_getElem? (i := 7) rfl)
theorem wq_56 : (Cond.fieldLink RX4 15 "StruckJury$Text" "sorts" "[I") ∈ wsL_law := wr_3 _ (List.mem_of_getElem? (i := 8) rfl)
theorem wq_57 : (Cond.instanceMethod yX2_init) ∈ wsL_law := wr_3 _ (List.mem_of_getElem? (i := 9) rfl)
theorem wq_58 : (Cond.code yX2_init cX2_init 1 none) ∈ wsL_law := wr_3 _ (List.mem_of_getElem? (i := 10) rfl)
theorem wq_59 : (Cond.methodLink RX2 3 objectInit) ∈ wsL_law := wr_3 _ (List.mem_of_getElem? (i := 11) rfl)
theorem wq_60 : (Cond.fieldLink RX2 9 "StruckJury$Minds" "leans0" "[I") ∈ wsL_law := wr_3 _ (List.mem_of_getElem? (i := 12) rfl)
theorem wq_61 : (Cond.fieldLink RX2 15 "StruckJury$Minds" "leans1" "[I") ∈ wsL_law := wr_3 _ (List.mem_of_getElem? (i := 13) rfl)
theorem wq_62 : (Cond.fieldLink RX2 18 "StruckJury$Minds" "spread" "[J") ∈ wsL_law := wr_3 _ (List.mem_of_getElem? (i := 14) rfl)
theorem wq_63 : (Cond.classLink RX2 22 "[[J") ∈ wsL_law := wr_3 _ (List.mem_of_getElem? (i := 15) rfl)
theorem wq_64 : (Cond.fieldLink RX2 24 "StruckJury$Minds" "spreads" "[[J") ∈ wsL_law := wr_3 _ (List.mem_of_getElem? (i := 16) rfl)
theorem wq_65 : (Cond.instanceMethod yX5_init) ∈ wsL_law := wr_3 _ (List.mem_of_getElem? (i := 17) rfl)
theorem wq_66 : (Cond.code yX5_init cX5_init 2 none) ∈ wsL_law := wr_3 _ (List.mem_of_getElem? (i := 18) rfl)
theorem wq_67 : (Cond.methodLink RX5 3 objectInit) ∈ wsL_law := wr_3 _ (List.mem_of_getElem? (i := 19) rfl)
theorem wq_68 : (Cond.fieldLink RX5 9 "StruckJury$Turns" "sides" "[I") ∈ wsL_law := wr_3 _ (List.mem_of_getElem? (i := 20) rfl)
theorem wq_69 : (Cond.fieldLink RX5 15 "StruckJury$Turns" "twins" "[I") ∈ wsL_law := wr_3 _ (List.mem_of_getElem? (i := 21) rfl)
theorem wq_70 : (Cond.fieldLink RX5 18 "StruckJury$Turns" "values" "[J") ∈ wsL_law := wr_3 _ (List.mem_of_getElem? (i := 22) rfl)
theorem wq_71 : (Cond.instanceMethod yX3_init) ∈ wsL_law := wr_3 _ (List.mem_of_getElem? (i := 23) rfl)
theorem wr_4 : ∀ w ∈ wsL_law_r4, w ∈ wsL_law := by
  intro w h
  exact List.mem_append_left _ (List.mem_append_left _ (List.mem_append_left _ (List.mem_append_left _ (List.mem_append_left _ (List.mem_append_left _ (List.mem_append_left _ (List.mem_append_left _ (List.mem_append_left _ (List.mem_append_right _ (List.mem_append_right _ (List.mem_append_right _ (List.mem_append_left _ h))))))))))))
theorem wq_72 : (Cond.code yX3_init cX3_init 3 none) ∈ wsL_law := wr_4 _ (List.mem_of_getElem? (i := 0) rfl)
theorem wq_73 : (Cond.methodLink RX3 3 objectInit) ∈ wsL_law := wr_4 _ (List.mem_of_getElem? (i := 1) rfl)
theorem wq_74 : (Cond.fieldLink RX3 11 "StruckJury$Paper" "setsA" "[I") ∈ wsL_law := wr_4 _ (List.mem_of_getElem? (i := 2) rfl)
theorem wq_75 : (Cond.fieldLink RX3 15 "StruckJury$Paper" "setsB" "[I") ∈ wsL_law := wr_4 _ (List.mem_of_getElem? (i := 3) rfl)
theorem wq_76 : (Cond.fieldLink RX3 18 "StruckJury$Paper" "sureA" "[J") ∈ wsL_law := wr_4 _ (List.mem_of_getElem? (i := 4) rfl)
theorem wq_77 : (Cond.fieldLink RX3 22 "StruckJury$Paper" "sureB" "[J") ∈ wsL_law := wr_4 _ (List.mem_of_getElem? (i := 5) rfl)
theorem wq_78 : (Cond.fieldLink RX3 25 "StruckJury$Paper" "turns" "LStruckJury$Turns;") ∈ wsL_law := wr_4 _ (List.mem_of_getElem? (i := 6) rfl)
theorem wq_79 : (Cond.fieldLink RX3 29 "StruckJury$Paper" "values" "[J") ∈ wsL_law := wr_4 _ (List.mem_of_getElem? (i := 7) rfl)
theorem wq_80 : (Cond.instanceMethod yX1_init) ∈ wsL_law := wr_4 _ (List.mem_of_getElem? (i := 8) rfl)
theorem wq_81 : (Cond.code yX1_init cX1_init 3 none) ∈ wsL_law := wr_4 _ (List.mem_of_getElem? (i := 9) rfl)
theorem wq_82 : (Cond.methodLink RX1 5 objectInit) ∈ wsL_law := wr_4 _ (List.mem_of_getElem? (i := 10) rfl)
theorem wq_83 : (Cond.fieldLink RX1 11 "StruckJury$Coming" "turns" "LStruckJury$Turns;") ∈ wsL_law := wr_4 _ (List.mem_of_getElem? (i := 11) rfl)
theorem wq_84 : (Cond.fieldLink RX1 15 "StruckJury$Coming" "ends" "[J") ∈ wsL_law := wr_4 _ (List.mem_of_getElem? (i := 12) rfl)
theorem wq_85 : (Cond.instanceMethod yX2_take) ∈ wsL_law := wr_4 _ (List.mem_of_getElem? (i := 13) rfl)
theorem wq_86 : (Cond.selects RX2 yX2_take yX2_take) ∈ wsL_law := wr_4 _ (List.mem_of_getElem? (i := 14) rfl)
theorem wq_87 : (Cond.code yX2_take cX2_take 4 none) ∈ wsL_law := wr_4 _ (List.mem_of_getElem? (i := 15) rfl)
theorem wq_88 : (Cond.fieldLink RX2 42 "StruckJury$Minds" "needed" "I") ∈ wsL_law := wr_4 _ (List.mem_of_getElem? (i := 16) rfl)
theorem wq_89 : (Cond.fieldLink RX2 47 "StruckJury$Minds" "byAll" "Z") ∈ wsL_law := wr_4 _ (List.mem_of_getElem? (i := 17) rfl)
theorem wq_90 : (Cond.fieldLink RX2 51 "StruckJury$Minds" "truth" "I") ∈ wsL_law := wr_4 _ (List.mem_of_getElem? (i := 18) rfl)
theorem wq_91 : (Cond.instanceMethod yX0_needed) ∈ wsL_law := wr_4 _ (List.mem_of_getElem? (i := 19) rfl)
theorem wq_92 : (Cond.selects RX0 yX0_needed yX0_needed) ∈ wsL_law := wr_4 _ (List.mem_of_getElem? (i := 20) rfl)
theorem wq_93 : (Cond.code yX0_needed cX0_needed 1 (some .int)) ∈ wsL_law := wr_4 _ (List.mem_of_getElem? (i := 21) rfl)
theorem wq_94 : (Cond.methodLink RL 12 yX7_init) ∈ wsL_law := wr_4 _ (List.mem_of_getElem? (i := 22) rfl)
theorem wq_95 : (Cond.instanceMethod yX7_init) ∈ wsL_law := wr_4 _ (List.mem_of_getElem? (i := 23) rfl)
theorem wr_5 : ∀ w ∈ wsL_law_r5, w ∈ wsL_law := by
  intro w h
  exact List.mem_append_left _ (List.mem_append_left _ (List.mem_append_left _ (List.mem_append_left _ (List.mem_append_left _ (List.mem_append_left _ (List.mem_append_left _ (List.mem_append_left _ (List.mem_append_left _ (List.mem_append_right _ (List.mem_append_right _ (List.mem_append_right _ (List.mem_append_right _ (List.mem_append_left _ h)))))))))))))
theorem wq_96 : (Cond.code yX7_init cX7_init 2 none) ∈ wsL_law := wr_5 _ (List.mem_of_getElem? (i := 0) rfl)
theorem wq_97 : (Cond.methodLink RX7 1 objectInit) ∈ wsL_law := wr_5 _ (List.mem_of_getElem? (i := 1) rfl)
theorem wq_98 : (Cond.fieldLink RX7 7 "StruckJuryModel" "refused" "[I") ∈ wsL_law := wr_5 _ (List.mem_of_getElem? (i := 2) rfl)
theorem wq_99 : (Cond.fieldLink RX7 13 "StruckJuryModel" "lean" "[I") ∈ wsL_law := wr_5 _ (List.mem_of_getElem? (i := 3) rfl)
theorem wq_100 : (Cond.fieldLink RX7 16 "StruckJuryModel" "sortOf" "[I") ∈ wsL_law := wr_5 _ (List.mem_of_getElem? (i := 4) rfl)
theorem wq_101 : (Cond.fieldLink RX7 19 "StruckJuryModel" "now" "[I") ∈ wsL_law := wr_5 _ (List.mem_of_getElem? (i := 5) rfl)
theorem wq_102 : (Cond.fieldLink RX7 22 "StruckJuryModel" "least" "[I") ∈ wsL_law := wr_5 _ (List.mem_of_getElem? (i := 6) rfl)
theorem wq_103 : (Cond.fieldLink RX7 25 "StruckJuryModel" "top" "[I") ∈ wsL_law := wr_5 _ (List.mem_of_getElem? (i := 7) rfl)
theorem wq_104 : (Cond.fieldLink RX7 28 "StruckJuryModel" "tape" "[I") ∈ wsL_law := wr_5 _ (List.mem_of_getElem? (i := 8) rfl)
theorem wq_105 : (Cond.fieldLink RX7 31 "StruckJuryModel" "held" "[I") ∈ wsL_law := wr_5 _ (List.mem_of_getElem? (i := 9) rfl)
theorem wq_106 : (Cond.fieldLink RX7 34 "StruckJuryModel" "finds" "[J") ∈ wsL_law := wr_5 _ (List.mem_of_getElem? (i := 10) rfl)
theorem wq_107 : (Cond.fieldLink RX7 38 "StruckJuryModel" "chance" "[J") ∈ wsL_law := wr_5 _ (List.mem_of_getElem? (i := 11) rfl)
theorem wq_108 : (Cond.constant RX7 41 (131072)) ∈ wsL_law := wr_5 _ (List.mem_of_getElem? (i := 12) rfl)
theorem wq_109 : (Cond.fieldLink RX7 42 "StruckJuryModel" "value" "[J") ∈ wsL_law := wr_5 _ (List.mem_of_getElem? (i := 13) rfl)
theorem wq_110 : (Cond.fieldLink RX7 45 "StruckJuryModel" "size" "[I") ∈ wsL_law := wr_5 _ (List.mem_of_getElem? (i := 14) rfl)
theorem wq_111 : (Cond.fieldLink RX7 48 "StruckJuryModel" "line" "[I") ∈ wsL_law := wr_5 _ (List.mem_of_getElem? (i := 15) rfl)
theorem wq_112 : (Cond.fieldLink RX7 51 "StruckJuryModel" "row" "[I") ∈ wsL_law := wr_5 _ (List.mem_of_getElem? (i := 16) rfl)
theorem wq_113 : (Cond.fieldLink RX7 54 "StruckJuryModel" "setsA" "[I") ∈ wsL_law := wr_5 _ (List.mem_of_getElem? (i := 17) rfl)
theorem wq_114 : (Cond.fieldLink RX7 57 "StruckJuryModel" "setsB" "[I") ∈ wsL_law := wr_5 _ (List.mem_of_getElem? (i := 18) rfl)
theorem wq_115 : (Cond.fieldLink RX7 60 "StruckJuryModel" "greatest" "[J") ∈ wsL_law := wr_5 _ (List.mem_of_getElem? (i := 19) rfl)
theorem wq_116 : (Cond.fieldLink RX7 63 "StruckJuryModel" "lowest" "[J") ∈ wsL_law := wr_5 _ (List.mem_of_getElem? (i := 20) rfl)
theorem wq_117 : (Cond.constant RX7 66 (212992)) ∈ wsL_law := wr_5 _ (List.mem_of_getElem? (i := 21) rfl)
theorem wq_118 : (Cond.fieldLink RX7 67 "StruckJuryModel" "layer" "[J") ∈ wsL_law := wr_5 _ (List.mem_of_getElem? (i := 22) rfl)
theorem wq_119 : (Cond.fieldLink RX7 70 "StruckJuryModel" "kept" "[I") ∈ wsL_law := wr_5 _ (List.mem_of_getElem? (i := 23) rfl)
theorem wr_6 : ∀ w ∈ wsL_law_r6, w ∈ wsL_law := by
  intro w h
  exact List.mem_append_left _ (List.mem_append_left _ (List.mem_append_left _ (List.mem_append_left _ (List.mem_append_left _ (List.mem_append_left _ (List.mem_append_left _ (List.mem_append_left _ (List.mem_append_left _ (List.mem_append_right _ (List.mem_append_right _ (List.mem_append_right _ (List.mem_append_right _ (List.mem_append_right _ (List.mem_append_left _ h))))))))))))))
theorem wq_120 : (Cond.methodLink RL 13 yX6_sort) ∈ wsL_law := wr_6 _ (List.mem_of_getElem? (i := 0) rfl)
theorem wq_121 : (Cond.instanceMethod yX6_sort) ∈ wsL_law := wr_6 _ (List.mem_of_getElem? (i := 1) rfl)
theorem wq_122 : (Cond.selects RX6 yX6_sort yX6_sort) ∈ wsL_law := wr_6 _ (List.mem_of_getElem? (i := 2) rfl)
theorem wq_123 : (Cond.code yX6_sort cX6_sort 5 (some .int)) ∈ wsL_law := wr_6 _ (List.mem_of_getElem? (i := 3) rfl)
theorem wq_124 : (Cond.methodLink RX6 75 yX6_leansRefusal) ∈ wsL_law := wr_6 _ (List.mem_of_getElem? (i := 4) rfl)
theorem wq_125 : (Cond.static yX6_leansRefusal) ∈ wsL_law := wr_6 _ (List.mem_of_getElem? (i := 5) rfl)
theorem wq_126 : (Cond.code yX6_leansRefusal cX6_leansRefusal 3 (some .int)) ∈ wsL_law := wr_6 _ (List.mem_of_getElem? (i := 6) rfl)
theorem wq_127 : (Cond.methodLink RX6 92 yX6_isSort) ∈ wsL_law := wr_6 _ (List.mem_of_getElem? (i := 7) rfl)
theorem wq_128 : (Cond.static yX6_isSort) ∈ wsL_law := wr_6 _ (List.mem_of_getElem? (i := 8) rfl)
theorem wq_129 : (Cond.code yX6_isSort cX6_isSort 1 (some .boolean)) ∈ wsL_law := wr_6 _ (List.mem_of_getElem? (i := 9) rfl)
theorem wq_130 : (Cond.methodLink RX6 79 yX6_refuse) ∈ wsL_law := wr_6 _ (List.mem_of_getElem? (i := 10) rfl)
theorem wq_131 : (Cond.instanceMethod yX6_refuse) ∈ wsL_law := wr_6 _ (List.mem_of_getElem? (i := 11) rfl)
theorem wq_132 : (Cond.selects RX6 yX6_refuse yX6_refuse) ∈ wsL_law := wr_6 _ (List.mem_of_getElem? (i := 12) rfl)
theorem wq_133 : (Cond.code yX6_refuse cX6_refuse 2 (some .int)) ∈ wsL_law := wr_6 _ (List.mem_of_getElem? (i := 13) rfl)
theorem wq_134 : (Cond.methodLink RX6 89 yX6_changed) ∈ wsL_law := wr_6 _ (List.mem_of_getElem? (i := 14) rfl)
theorem wq_135 : (Cond.instanceMethod yX6_changed) ∈ wsL_law := wr_6 _ (List.mem_of_getElem? (i := 15) rfl)
theorem wq_136 : (Cond.selects RX6 yX6_changed yX6_changed) ∈ wsL_law := wr_6 _ (List.mem_of_getElem? (i := 16) rfl)
theorem wq_137 : (Cond.code yX6_changed cX6_changed 1 none) ∈ wsL_law := wr_6 _ (List.mem_of_getElem? (i := 17) rfl)
theorem wq_138 : (Cond.fieldLink RX6 269 "StruckJury" "turnsKnown" "Z") ∈ wsL_law := wr_6 _ (List.mem_of_getElem? (i := 18) rfl)
theorem wq_139 : (Cond.fieldLink RX6 272 "StruckJury" "paperKnown" "Z") ∈ wsL_law := wr_6 _ (List.mem_of_getElem? (i := 19) rfl)
theorem wq_140 : (Cond.fieldLink RX6 275 "StruckJury" "comingKnown" "Z") ∈ wsL_law := wr_6 _ (List.mem_of_getElem? (i := 20) rfl)
theorem wq_141 : (Cond.methodLink RL 17 yX7_sort) ∈ wsL_law := wr_6 _ (List.mem_of_getElem? (i := 21) rfl)
theorem wq_142 : (Cond.instanceMethod yX7_sort) ∈ wsL_law := wr_6 _ (List.mem_of_getElem? (i := 22) rfl)
theorem wq_143 : (Cond.selects RX7 yX7_sort yX7_sort) ∈ wsL_law := wr_6 _ (List.mem_of_getElem? (i := 23) rfl)
theorem wr_7 : ∀ w ∈ wsL_law_r7, w ∈ wsL_law := by
  intro w h
  exact List.mem_append_left _ (List.mem_append_left _ (List.mem_append_left _ (List.mem_append_left _ (List.mem_append_left _ (List.mem_append_left _ (List.mem_append_left _ (List.mem_append_left _ (List.mem_append_left _ (List.mem_append_right _ (List.mem_append_right _ (List.mem_append_right _ (List.mem_append_right _ (List.mem_append_right _ (List.mem_append_right _ (List.mem_append_left _ h)))))))))))))))
theorem wq_144 : (Cond.code yX7_sort cX7_sort 5 (some .int)) ∈ wsL_law := wr_7 _ (List.mem_of_getElem? (i := 0) rfl)
theorem wq_145 : (Cond.methodLink RX7 75 yX7_isSort) ∈ wsL_law := wr_7 _ (List.mem_of_getElem? (i := 1) rfl)
theorem wq_146 : (Cond.static yX7_isSort) ∈ wsL_law := wr_7 _ (List.mem_of_getElem? (i := 2) rfl)
theorem wq_147 : (Cond.code yX7_isSort cX7_isSort 1 (some .boolean)) ∈ wsL_law := wr_7 _ (List.mem_of_getElem? (i := 3) rfl)
theorem wq_148 : (Cond.methodLink RX7 79 yX7_no) ∈ wsL_law := wr_7 _ (List.mem_of_getElem? (i := 4) rfl)
theorem wq_149 : (Cond.instanceMethod yX7_no) ∈ wsL_law := wr_7 _ (List.mem_of_getElem? (i := 5) rfl)
theorem wq_150 : (Cond.selects RX7 yX7_no yX7_no) ∈ wsL_law := wr_7 _ (List.mem_of_getElem? (i := 6) rfl)
theorem wq_151 : (Cond.code yX7_no cX7_no 2 (some .int)) ∈ wsL_law := wr_7 _ (List.mem_of_getElem? (i := 7) rfl)
theorem wq_152 : (Cond.methodLink RL 18 yX6_person) ∈ wsL_law := wr_7 _ (List.mem_of_getElem? (i := 8) rfl)
theorem wq_153 : (Cond.instanceMethod yX6_person) ∈ wsL_law := wr_7 _ (List.mem_of_getElem? (i := 9) rfl)
theorem wq_154 : (Cond.selects RX6 yX6_person yX6_person) ∈ wsL_law := wr_7 _ (List.mem_of_getElem? (i := 10) rfl)
theorem wq_155 : (Cond.code yX6_person cX6_person 2 (some .int)) ∈ wsL_law := wr_7 _ (List.mem_of_getElem? (i := 11) rfl)
theorem wq_156 : (Cond.instanceMethod yX0_add) ∈ wsL_law := wr_7 _ (List.mem_of_getElem? (i := 12) rfl)
theorem wq_157 : (Cond.selects RX0 yX0_add yX0_add) ∈ wsL_law := wr_7 _ (List.mem_of_getElem? (i := 13) rfl)
theorem wq_158 : (Cond.code yX0_add cX0_add 2 none) ∈ wsL_law := wr_7 _ (List.mem_of_getElem? (i := 14) rfl)
theorem wq_159 : (Cond.fieldLink RX0 30 "StruckJury$Bench" "people" "I") ∈ wsL_law := wr_7 _ (List.mem_of_getElem? (i := 15) rfl)
theorem wq_160 : (Cond.methodLink RL 22 yX7_person) ∈ wsL_law := wr_7 _ (List.mem_of_getElem? (i := 16) rfl)
theorem wq_161 : (Cond.instanceMethod yX7_person) ∈ wsL_law := wr_7 _ (List.mem_of_getElem? (i := 17) rfl)
theorem wq_162 : (Cond.selects RX7 yX7_person yX7_person) ∈ wsL_law := wr_7 _ (List.mem_of_getElem? (i := 18) rfl)
theorem wq_163 : (Cond.code yX7_person cX7_person 2 (some .int)) ∈ wsL_law := wr_7 _ (List.mem_of_getElem? (i := 19) rfl)
theorem wq_164 : (Cond.fieldLink RX7 83 "StruckJuryModel" "people" "I") ∈ wsL_law := wr_7 _ (List.mem_of_getElem? (i := 20) rfl)
theorem wq_165 : (Cond.methodLink RL 23 yX6_takeBack) ∈ wsL_law := wr_7 _ (List.mem_of_getElem? (i := 21) rfl)
theorem wq_166 : (Cond.instanceMethod yX6_takeBack) ∈ wsL_law := wr_7 _ (List.mem_of_getElem? (i := 22) rfl)
theorem wq_167 : (Cond.selects RX6 yX6_takeBack yX6_takeBack) ∈ wsL_law := wr_7 _ (List.mem_of_getElem? (i := 23) rfl)
theorem wr_8 : ∀ w ∈ wsL_law_r8, w ∈ wsL_law := by
  intro w h
  exact List.mem_append_left _ (List.mem_append_left _ (List.mem_append_left _ (List.mem_append_left _ (List.mem_append_left _ (List.mem_append_left _ (List.mem_append_left _ (List.mem_append_left _ (List.mem_append_left _ (List.mem_append_right _ (List.mem_append_right _ (List.mem_append_right _ (List.mem_append_right _ (List.mem_append_right _ (List.mem_append_right _ (List.mem_append_right _ (List.mem_append_left _ h))))))))))))))))
theorem wq_168 : (Cond.code yX6_takeBack cX6_takeBack 1 (some .int)) ∈ wsL_law := wr_8 _ (List.mem_of_getElem? (i := 0) rfl)
theorem wq_169 : (Cond.methodLink RL 27 yX7_takeBack) ∈ wsL_law := wr_8 _ (List.mem_of_getElem? (i := 1) rfl)
theorem wq_170 : (Cond.instanceMethod yX7_takeBack) ∈ wsL_law := wr_8 _ (List.mem_of_getElem? (i := 2) rfl)
theorem wq_171 : (Cond.selects RX7 yX7_takeBack yX7_takeBack) ∈ wsL_law := wr_8 _ (List.mem_of_getElem? (i := 3) rfl)
theorem wq_172 : (Cond.code yX7_takeBack cX7_takeBack 1 (some .int)) ∈ wsL_law := wr_8 _ (List.mem_of_getElem? (i := 4) rfl)
theorem wq_173 : (Cond.methodLink RL 28 yX6_set) ∈ wsL_law := wr_8 _ (List.mem_of_getElem? (i := 5) rfl)
theorem wq_174 : (Cond.instanceMethod yX6_set) ∈ wsL_law := wr_8 _ (List.mem_of_getElem? (i := 6) rfl)
theorem wq_175 : (Cond.selects RX6 yX6_set yX6_set) ∈ wsL_law := wr_8 _ (List.mem_of_getElem? (i := 7) rfl)
theorem wq_176 : (Cond.code yX6_set cX6_set 4 (some .int)) ∈ wsL_law := wr_8 _ (List.mem_of_getElem? (i := 8) rfl)
theorem wq_177 : (Cond.fieldLink RX6 104 "StruckJury" "LEAST" "[I") ∈ wsL_law := wr_8 _ (List.mem_of_getElem? (i := 9) rfl)
theorem wq_178 : (Cond.fieldLink RX6 107 "StruckJury" "GREATEST" "[I") ∈ wsL_law := wr_8 _ (List.mem_of_getElem? (i := 10) rfl)
theorem wq_179 : (Cond.methodLink RL 32 yX7_set) ∈ wsL_law := wr_8 _ (List.mem_of_getElem? (i := 11) rfl)
theorem wq_180 : (Cond.instanceMethod yX7_set) ∈ wsL_law := wr_8 _ (List.mem_of_getElem? (i := 12) rfl)
theorem wq_181 : (Cond.selects RX7 yX7_set yX7_set) ∈ wsL_law := wr_8 _ (List.mem_of_getElem? (i := 13) rfl)
theorem wq_182 : (Cond.code yX7_set cX7_set 5 (some .int)) ∈ wsL_law := wr_8 _ (List.mem_of_getElem? (i := 14) rfl)
theorem wq_183 : (Cond.methodLink RX7 87 yX7_isIn) ∈ wsL_law := wr_8 _ (List.mem_of_getElem? (i := 15) rfl)
theorem wq_184 : (Cond.static yX7_isIn) ∈ wsL_law := wr_8 _ (List.mem_of_getElem? (i := 16) rfl)
theorem wq_185 : (Cond.code yX7_isIn cX7_isIn 3 (some .boolean)) ∈ wsL_law := wr_8 _ (List.mem_of_getElem? (i := 17) rfl)
theorem wq_186 : (Cond.methodLink RX7 91 yX7_out) ∈ wsL_law := wr_8 _ (List.mem_of_getElem? (i := 18) rfl)
theorem wq_187 : (Cond.static yX7_out) ∈ wsL_law := wr_8 _ (List.mem_of_getElem? (i := 19) rfl)
theorem wq_188 : (Cond.code yX7_out cX7_out 3 (some .int)) ∈ wsL_law := wr_8 _ (List.mem_of_getElem? (i := 20) rfl)
theorem wq_189 : (Cond.methodLink RL 35 yX6_feed) ∈ wsL_law := wr_8 _ (List.mem_of_getElem? (i := 21) rfl)
theorem wq_190 : (Cond.instanceMethod yX6_feed) ∈ wsL_law := wr_8 _ (List.mem_of_getElem? (i := 22) rfl)
theorem wq_191 : (Cond.selects RX6 yX6_feed yX6_feed) ∈ wsL_law := wr_8 _ (List.mem_of_getElem? (i := 23) rfl)
theorem wr_9 : ∀ w ∈ wsL_law_r9, w ∈ wsL_law := by
  intro w h
  exact List.mem_append_left _ (List.mem_append_left _ (List.mem_append_left _ (List.mem_append_left _ (List.mem_append_left _ (List.mem_append_left _ (List.mem_append_left _ (List.mem_append_left _ (List.mem_append_left _ (List.mem_append_right _ (List.mem_append_right _ (List.mem_append_right _ (List.mem_append_right _ (List.mem_append_right _ (List.mem_append_right _ (List.mem_append_right _ (List.mem_append_right _ (List.mem_append_left _ h)))))))))))))))))
theorem wq_192 : (Cond.code yX6_feed cX6_feed 4 (some .int)) ∈ wsL_law := wr_9 _ (List.mem_of_getElem? (i := 0) rfl)
theorem wq_193 : (Cond.instanceMethod yX4_append) ∈ wsL_law := wr_9 _ (List.mem_of_getElem? (i := 1) rfl)
theorem wq_194 : (Cond.selects RX4 yX4_append yX4_append) ∈ wsL_law := wr_9 _ (List.mem_of_getElem? (i := 2) rfl)
theorem wq_195 : (Cond.code yX4_append cX4_append 5 none) ∈ wsL_law := wr_9 _ (List.mem_of_getElem? (i := 3) rfl)
theorem wq_196 : (Cond.fieldLink RX4 19 "StruckJury$Text" "length" "I") ∈ wsL_law := wr_9 _ (List.mem_of_getElem? (i := 4) rfl)
theorem wq_197 : (Cond.methodLink RL 39 yX7_feed) ∈ wsL_law := wr_9 _ (List.mem_of_getElem? (i := 5) rfl)
theorem wq_198 : (Cond.instanceMethod yX7_feed) ∈ wsL_law := wr_9 _ (List.mem_of_getElem? (i := 6) rfl)
theorem wq_199 : (Cond.selects RX7 yX7_feed yX7_feed) ∈ wsL_law := wr_9 _ (List.mem_of_getElem? (i := 7) rfl)
theorem wq_200 : (Cond.code yX7_feed cX7_feed 6 (some .int)) ∈ wsL_law := wr_9 _ (List.mem_of_getElem? (i := 8) rfl)
theorem wq_201 : (Cond.fieldLink RX7 99 "StruckJuryModel" "taped" "I") ∈ wsL_law := wr_9 _ (List.mem_of_getElem? (i := 9) rfl)
theorem wq_202 : (Cond.constantLong RX7 102 (255)) ∈ wsL_law := wr_9 _ (List.mem_of_getElem? (i := 10) rfl)
theorem wq_203 : (Cond.methodLink RL 40 yX6_court) ∈ wsL_law := wr_9 _ (List.mem_of_getElem? (i := 11) rfl)
theorem wq_204 : (Cond.instanceMethod yX6_court) ∈ wsL_law := wr_9 _ (List.mem_of_getElem? (i := 12) rfl)
theorem wq_205 : (Cond.selects RX6 yX6_court yX6_court) ∈ wsL_law := wr_9 _ (List.mem_of_getElem? (i := 13) rfl)
theorem wq_206 : (Cond.code yX6_court cX6_court 2 (some .int)) ∈ wsL_law := wr_9 _ (List.mem_of_getElem? (i := 14) rfl)
theorem wq_207 : (Cond.instanceMethod yX4_readInto) ∈ wsL_law := wr_9 _ (List.mem_of_getElem? (i := 15) rfl)
theorem wq_208 : (Cond.selects RX4 yX4_readInto yX4_readInto) ∈ wsL_law := wr_9 _ (List.mem_of_getElem? (i := 16) rfl)
theorem wq_209 : (Cond.code yX4_readInto cX4_readInto 4 (some .int)) ∈ wsL_law := wr_9 _ (List.mem_of_getElem? (i := 17) rfl)
theorem wq_210 : (Cond.fieldLink RX4 23 "StruckJury$Text" "at" "I") ∈ wsL_law := wr_9 _ (List.mem_of_getElem? (i := 18) rfl)
theorem wq_211 : (Cond.fieldLink RX4 30 "StruckJury$Text" "faultAt" "I") ∈ wsL_law := wr_9 _ (List.mem_of_getElem? (i := 19) rfl)
theorem wq_212 : (Cond.methodLink RX4 26 yX4_readStatement) ∈ wsL_law := wr_9 _ (List.mem_of_getElem? (i := 20) rfl)
theorem wq_213 : (Cond.instanceMethod yX4_readStatement) ∈ wsL_law := wr_9 _ (List.mem_of_getElem? (i := 21) rfl)
theorem wq_214 : (Cond.selects RX4 yX4_readStatement yX4_readStatement) ∈ wsL_law := wr_9 _ (List.mem_of_getElem? (i := 22) rfl)
theorem wq_215 : (Cond.code yX4_readStatement cX4_readStatement 3 (some .boolean)) ∈ wsL_law := wr_9 _ (List.mem_of_getElem? (i := 23) rfl)
theorem wr_10 : ∀ w ∈ wsL_law_r10, w ∈ wsL_law := by
  intro w h
  exact List.mem_append_left _ (List.mem_append_left _ (List.mem_append_left _ (List.mem_append_left _ (List.mem_append_left _ (List.mem_append_left _ (List.mem_append_left _ (List.mem_append_left _ (List.mem_append_left _ (List.mem_append_right _ (List.mem_append_right _ (List.mem_append_right _ (List.mem_append_right _ (List.mem_append_right _ (List.mem_append_right _ (List.mem_append_right _ (List.mem_append_right _ (List.mem_append_right _ (List.mem_append_left _ h))))))))))))))))))
theorem wq_216 : (Cond.methodLink RX4 33 yX4_readSort) ∈ wsL_law := wr_10 _ (List.mem_of_getElem? (i := 0) rfl)
theorem wq_217 : (Cond.instanceMethod yX4_readSort) ∈ wsL_law := wr_10 _ (List.mem_of_getElem? (i := 1) rfl)
theorem wq_218 : (Cond.selects RX4 yX4_readSort yX4_readSort) ∈ wsL_law := wr_10 _ (List.mem_of_getElem? (i := 2) rfl)
theorem wq_219 : (Cond.code yX4_readSort cX4_readSort 5 (some .boolean)) ∈ wsL_law := wr_10 _ (List.mem_of_getElem? (i := 3) rfl)
theorem wq_220 : (Cond.methodLink RX4 53 yX4_digit) ∈ wsL_law := wr_10 _ (List.mem_of_getElem? (i := 4) rfl)
theorem wq_221 : (Cond.instanceMethod yX4_digit) ∈ wsL_law := wr_10 _ (List.mem_of_getElem? (i := 5) rfl)
theorem wq_222 : (Cond.selects RX4 yX4_digit yX4_digit) ∈ wsL_law := wr_10 _ (List.mem_of_getElem? (i := 6) rfl)
theorem wq_223 : (Cond.code yX4_digit cX4_digit 3 (some .int)) ∈ wsL_law := wr_10 _ (List.mem_of_getElem? (i := 7) rfl)
theorem wq_224 : (Cond.methodLink RX4 76 yX4_isDigit) ∈ wsL_law := wr_10 _ (List.mem_of_getElem? (i := 8) rfl)
theorem wq_225 : (Cond.instanceMethod yX4_isDigit) ∈ wsL_law := wr_10 _ (List.mem_of_getElem? (i := 9) rfl)
theorem wq_226 : (Cond.selects RX4 yX4_isDigit yX4_isDigit) ∈ wsL_law := wr_10 _ (List.mem_of_getElem? (i := 10) rfl)
theorem wq_227 : (Cond.code yX4_isDigit cX4_isDigit 3 (some .boolean)) ∈ wsL_law := wr_10 _ (List.mem_of_getElem? (i := 11) rfl)
theorem wq_228 : (Cond.methodLink RX4 49 yX4_fault) ∈ wsL_law := wr_10 _ (List.mem_of_getElem? (i := 12) rfl)
theorem wq_229 : (Cond.instanceMethod yX4_fault) ∈ wsL_law := wr_10 _ (List.mem_of_getElem? (i := 13) rfl)
theorem wq_230 : (Cond.selects RX4 yX4_fault yX4_fault) ∈ wsL_law := wr_10 _ (List.mem_of_getElem? (i := 14) rfl)
theorem wq_231 : (Cond.code yX4_fault cX4_fault 2 (some .boolean)) ∈ wsL_law := wr_10 _ (List.mem_of_getElem? (i := 15) rfl)
theorem wq_232 : (Cond.methodLink RX4 57 yX4_sign) ∈ wsL_law := wr_10 _ (List.mem_of_getElem? (i := 16) rfl)
theorem wq_233 : (Cond.instanceMethod yX4_sign) ∈ wsL_law := wr_10 _ (List.mem_of_getElem? (i := 17) rfl)
theorem wq_234 : (Cond.selects RX4 yX4_sign yX4_sign) ∈ wsL_law := wr_10 _ (List.mem_of_getElem? (i := 18) rfl)
theorem wq_235 : (Cond.code yX4_sign cX4_sign 2 (some .boolean)) ∈ wsL_law := wr_10 _ (List.mem_of_getElem? (i := 19) rfl)
theorem wq_236 : (Cond.methodLink RX4 61 yX4_number) ∈ wsL_law := wr_10 _ (List.mem_of_getElem? (i := 20) rfl)
theorem wq_237 : (Cond.instanceMethod yX4_number) ∈ wsL_law := wr_10 _ (List.mem_of_getElem? (i := 21) rfl)
theorem wq_238 : (Cond.selects RX4 yX4_number yX4_number) ∈ wsL_law := wr_10 _ (List.mem_of_getElem? (i := 22) rfl)
theorem wq_239 : (Cond.code yX4_number cX4_number 4 (some .int)) ∈ wsL_law := wr_10 _ (List.mem_of_getElem? (i := 23) rfl)
theorem wr_11 : ∀ w ∈ wsL_law_r11, w ∈ wsL_law := by
  intro w h
  exact List.mem_append_left _ (List.mem_append_left _ (List.mem_append_left _ (List.mem_append_left _ (List.mem_append_left _ (List.mem_append_left _ (List.mem_append_left _ (List.mem_append_left _ (List.mem_append_left _ (List.mem_append_right _ (List.mem_append_right _ (List.mem_append_right _ (List.mem_append_right _ (List.mem_append_right _ (List.mem_append_right _ (List.mem_append_right _ (List.mem_append_right _ (List.mem_append_right _ (List.mem_append_right _ (List.mem_append_left _ h)))))))))))))))))))
theorem wq_240 : (Cond.methodLink RX4 36 yX4_readPeople) ∈ wsL_law := wr_11 _ (List.mem_of_getElem? (i := 0) rfl)
theorem wq_241 : (Cond.instanceMethod yX4_readPeople) ∈ wsL_law := wr_11 _ (List.mem_of_getElem? (i := 1) rfl)
theorem wq_242 : (Cond.selects RX4 yX4_readPeople yX4_readPeople) ∈ wsL_law := wr_11 _ (List.mem_of_getElem? (i := 2) rfl)
theorem wq_243 : (Cond.code yX4_readPeople cX4_readPeople 5 (some .boolean)) ∈ wsL_law := wr_11 _ (List.mem_of_getElem? (i := 3) rfl)
theorem wq_244 : (Cond.methodLink RX4 39 yX4_readTerm) ∈ wsL_law := wr_11 _ (List.mem_of_getElem? (i := 4) rfl)
theorem wq_245 : (Cond.instanceMethod yX4_readTerm) ∈ wsL_law := wr_11 _ (List.mem_of_getElem? (i := 5) rfl)
theorem wq_246 : (Cond.selects RX4 yX4_readTerm yX4_readTerm) ∈ wsL_law := wr_11 _ (List.mem_of_getElem? (i := 6) rfl)
theorem wq_247 : (Cond.code yX4_readTerm cX4_readTerm 4 (some .boolean)) ∈ wsL_law := wr_11 _ (List.mem_of_getElem? (i := 7) rfl)
theorem wq_248 : (Cond.methodLink RX4 43 yX4_readStrikes) ∈ wsL_law := wr_11 _ (List.mem_of_getElem? (i := 8) rfl)
theorem wq_249 : (Cond.instanceMethod yX4_readStrikes) ∈ wsL_law := wr_11 _ (List.mem_of_getElem? (i := 9) rfl)
theorem wq_250 : (Cond.selects RX4 yX4_readStrikes yX4_readStrikes) ∈ wsL_law := wr_11 _ (List.mem_of_getElem? (i := 10) rfl)
theorem wq_251 : (Cond.code yX4_readStrikes cX4_readStrikes 4 (some .boolean)) ∈ wsL_law := wr_11 _ (List.mem_of_getElem? (i := 11) rfl)
theorem wq_252 : (Cond.methodLink RX4 46 yX4_readTruth) ∈ wsL_law := wr_11 _ (List.mem_of_getElem? (i := 12) rfl)
theorem wq_253 : (Cond.instanceMethod yX4_readTruth) ∈ wsL_law := wr_11 _ (List.mem_of_getElem? (i := 13) rfl)
theorem wq_254 : (Cond.selects RX4 yX4_readTruth yX4_readTruth) ∈ wsL_law := wr_11 _ (List.mem_of_getElem? (i := 14) rfl)
theorem wq_255 : (Cond.code yX4_readTruth cX4_readTruth 3 (some .boolean)) ∈ wsL_law := wr_11 _ (List.mem_of_getElem? (i := 15) rfl)
theorem wq_256 : (Cond.methodLink RL 43 yX7_court) ∈ wsL_law := wr_11 _ (List.mem_of_getElem? (i := 16) rfl)
theorem wq_257 : (Cond.instanceMethod yX7_court) ∈ wsL_law := wr_11 _ (List.mem_of_getElem? (i := 17) rfl)
theorem wq_258 : (Cond.selects RX7 yX7_court yX7_court) ∈ wsL_law := wr_11 _ (List.mem_of_getElem? (i := 18) rfl)
theorem wq_259 : (Cond.code yX7_court cX7_court 3 (some .int)) ∈ wsL_law := wr_11 _ (List.mem_of_getElem? (i := 19) rfl)
theorem wq_260 : (Cond.fieldLink RX7 104 "StruckJuryModel" "at" "I") ∈ wsL_law := wr_11 _ (List.mem_of_getElem? (i := 20) rfl)
theorem wq_261 : (Cond.methodLink RX7 130 yX7_statement) ∈ wsL_law := wr_11 _ (List.mem_of_getElem? (i := 21) rfl)
theorem wq_262 : (Cond.instanceMethod yX7_statement) ∈ wsL_law := wr_11 _ (List.mem_of_getElem? (i := 22) rfl)
theorem wq_263 : (Cond.selects RX7 yX7_statement yX7_statement) ∈ wsL_law := wr_11 _ (List.mem_of_getElem? (i := 23) rfl)
theorem wr_12 : ∀ w ∈ wsL_law_r12, w ∈ wsL_law := by
  intro w h
  exact List.mem_append_left _ (List.mem_append_left _ (List.mem_append_left _ (List.mem_append_left _ (List.mem_append_left _ (List.mem_append_left _ (List.mem_append_left _ (List.mem_append_left _ (List.mem_append_left _ (List.mem_append_right _ (List.mem_append_right _ (List.mem_append_right _ (List.mem_append_right _ (List.mem_append_right _ (List.mem_append_right _ (List.mem_append_right _ (List.mem_append_right _ (List.mem_append_right _ (List.mem_append_right _ (List.mem_append_right _ (List.mem_append_left _ h))))))))))))))))))))
theorem wq_264 : (Cond.code yX7_statement cX7_statement 2 (some .boolean)) ∈ wsL_law := wr_12 _ (List.mem_of_getElem? (i := 0) rfl)
theorem wq_265 : (Cond.methodLink RX7 107 yX7_sign) ∈ wsL_law := wr_12 _ (List.mem_of_getElem? (i := 1) rfl)
theorem wq_266 : (Cond.instanceMethod yX7_sign) ∈ wsL_law := wr_12 _ (List.mem_of_getElem? (i := 2) rfl)
theorem wq_267 : (Cond.selects RX7 yX7_sign yX7_sign) ∈ wsL_law := wr_12 _ (List.mem_of_getElem? (i := 3) rfl)
theorem wq_268 : (Cond.code yX7_sign cX7_sign 1 (some .int)) ∈ wsL_law := wr_12 _ (List.mem_of_getElem? (i := 4) rfl)
theorem wq_269 : (Cond.methodLink RX7 120 yX7_readsSort) ∈ wsL_law := wr_12 _ (List.mem_of_getElem? (i := 5) rfl)
theorem wq_270 : (Cond.instanceMethod yX7_readsSort) ∈ wsL_law := wr_12 _ (List.mem_of_getElem? (i := 6) rfl)
theorem wq_271 : (Cond.selects RX7 yX7_readsSort yX7_readsSort) ∈ wsL_law := wr_12 _ (List.mem_of_getElem? (i := 7) rfl)
theorem wq_272 : (Cond.code yX7_readsSort cX7_readsSort 4 (some .boolean)) ∈ wsL_law := wr_12 _ (List.mem_of_getElem? (i := 8) rfl)
theorem wq_273 : (Cond.methodLink RX7 110 yX7_digit) ∈ wsL_law := wr_12 _ (List.mem_of_getElem? (i := 9) rfl)
theorem wq_274 : (Cond.instanceMethod yX7_digit) ∈ wsL_law := wr_12 _ (List.mem_of_getElem? (i := 10) rfl)
theorem wq_275 : (Cond.selects RX7 yX7_digit yX7_digit) ∈ wsL_law := wr_12 _ (List.mem_of_getElem? (i := 11) rfl)
theorem wq_276 : (Cond.code yX7_digit cX7_digit 4 (some .int)) ∈ wsL_law := wr_12 _ (List.mem_of_getElem? (i := 12) rfl)
theorem wq_277 : (Cond.methodLink RX7 114 yX7_takes) ∈ wsL_law := wr_12 _ (List.mem_of_getElem? (i := 13) rfl)
theorem wq_278 : (Cond.instanceMethod yX7_takes) ∈ wsL_law := wr_12 _ (List.mem_of_getElem? (i := 14) rfl)
theorem wq_279 : (Cond.selects RX7 yX7_takes yX7_takes) ∈ wsL_law := wr_12 _ (List.mem_of_getElem? (i := 15) rfl)
theorem wq_280 : (Cond.code yX7_takes cX7_takes 2 (some .boolean)) ∈ wsL_law := wr_12 _ (List.mem_of_getElem? (i := 16) rfl)
theorem wq_281 : (Cond.methodLink RX7 117 yX7_hundredths) ∈ wsL_law := wr_12 _ (List.mem_of_getElem? (i := 17) rfl)
theorem wq_282 : (Cond.instanceMethod yX7_hundredths) ∈ wsL_law := wr_12 _ (List.mem_of_getElem? (i := 18) rfl)
theorem wq_283 : (Cond.selects RX7 yX7_hundredths yX7_hundredths) ∈ wsL_law := wr_12 _ (List.mem_of_getElem? (i := 19) rfl)
theorem wq_284 : (Cond.code yX7_hundredths cX7_hundredths 4 (some .int)) ∈ wsL_law := wr_12 _ (List.mem_of_getElem? (i := 20) rfl)
theorem wq_285 : (Cond.methodLink RX7 124 yX7_readsPeople) ∈ wsL_law := wr_12 _ (List.mem_of_getElem? (i := 21) rfl)
theorem wq_286 : (Cond.instanceMethod yX7_readsPeople) ∈ wsL_law := wr_12 _ (List.mem_of_getElem? (i := 22) rfl)
theorem wq_287 : (Cond.selects RX7 yX7_readsPeople yX7_readsPeople) ∈ wsL_law := wr_12 _ (List.mem_of_getElem? (i := 23) rfl)
theorem wr_13 : ∀ w ∈ wsL_law_r13, w ∈ wsL_law := by
  intro w h
  exact List.mem_append_left _ (List.mem_append_left _ (List.mem_append_left _ (List.mem_append_left _ (List.mem_append_left _ (List.mem_append_left _ (List.mem_append_left _ (List.mem_append_left _ (List.mem_append_left _ (List.mem_append_right _ (List.mem_append_right _ (List.mem_append_right _ (List.mem_append_right _ (List.mem_append_right _ (List.mem_append_right _ (List.mem_append_right _ (List.mem_append_right _ (List.mem_append_right _ (List.mem_append_right _ (List.mem_append_right _ (List.mem_append_right _ (List.mem_append_left _ h)))))))))))))))))))))
theorem wq_288 : (Cond.code yX7_readsPeople cX7_readsPeople 3 (some .boolean)) ∈ wsL_law := wr_13 _ (List.mem_of_getElem? (i := 0) rfl)
theorem wq_289 : (Cond.methodLink RX7 127 yX7_readsNumber) ∈ wsL_law := wr_13 _ (List.mem_of_getElem? (i := 1) rfl)
theorem wq_290 : (Cond.instanceMethod yX7_readsNumber) ∈ wsL_law := wr_13 _ (List.mem_of_getElem? (i := 2) rfl)
theorem wq_291 : (Cond.selects RX7 yX7_readsNumber yX7_readsNumber) ∈ wsL_law := wr_13 _ (List.mem_of_getElem? (i := 3) rfl)
theorem wq_292 : (Cond.code yX7_readsNumber cX7_readsNumber 4 (some .boolean)) ∈ wsL_law := wr_13 _ (List.mem_of_getElem? (i := 4) rfl)
theorem wq_293 : (Cond.methodLink RL 44 yX6_chance) ∈ wsL_law := wr_13 _ (List.mem_of_getElem? (i := 5) rfl)
theorem wq_294 : (Cond.instanceMethod yX6_chance) ∈ wsL_law := wr_13 _ (List.mem_of_getElem? (i := 6) rfl)
theorem wq_295 : (Cond.selects RX6 yX6_chance yX6_chance) ∈ wsL_law := wr_13 _ (List.mem_of_getElem? (i := 7) rfl)
theorem wq_296 : (Cond.code yX6_chance cX6_chance 3 (some .long)) ∈ wsL_law := wr_13 _ (List.mem_of_getElem? (i := 8) rfl)
theorem wq_297 : (Cond.methodLink RX6 124 yX6_juryRefusal) ∈ wsL_law := wr_13 _ (List.mem_of_getElem? (i := 9) rfl)
theorem wq_298 : (Cond.instanceMethod yX6_juryRefusal) ∈ wsL_law := wr_13 _ (List.mem_of_getElem? (i := 10) rfl)
theorem wq_299 : (Cond.selects RX6 yX6_juryRefusal yX6_juryRefusal) ∈ wsL_law := wr_13 _ (List.mem_of_getElem? (i := 11) rfl)
theorem wq_300 : (Cond.code yX6_juryRefusal cX6_juryRefusal 2 (some .int)) ∈ wsL_law := wr_13 _ (List.mem_of_getElem? (i := 12) rfl)
theorem wq_301 : (Cond.instanceMethod yX0_everyone) ∈ wsL_law := wr_13 _ (List.mem_of_getElem? (i := 13) rfl)
theorem wq_302 : (Cond.selects RX0 yX0_everyone yX0_everyone) ∈ wsL_law := wr_13 _ (List.mem_of_getElem? (i := 14) rfl)
theorem wq_303 : (Cond.code yX0_everyone cX0_everyone 1 (some .int)) ∈ wsL_law := wr_13 _ (List.mem_of_getElem? (i := 15) rfl)
theorem wq_304 : (Cond.static yX6_setOfFirst) ∈ wsL_law := wr_13 _ (List.mem_of_getElem? (i := 16) rfl)
theorem wq_305 : (Cond.code yX6_setOfFirst cX6_setOfFirst 1 (some .int)) ∈ wsL_law := wr_13 _ (List.mem_of_getElem? (i := 17) rfl)
theorem wq_306 : (Cond.methodLink RX6 204 yJ6_bitCount_0f7a4) ∈ wsL_law := wr_13 _ (List.mem_of_getElem? (i := 18) rfl)
theorem wq_307 : (Cond.static yJ6_bitCount_0f7a4) ∈ wsL_law := wr_13 _ (List.mem_of_getElem? (i := 19) rfl)
theorem wq_308 : (Cond.initialized RJ6) ∈ wsL_law := wr_13 _ (List.mem_of_getElem? (i := 20) rfl)
theorem wq_309 : (Cond.code yJ6_bitCount_0f7a4 cJ6_bitCount_0f7a4 1 (some .int)) ∈ wsL_law := wr_13 _ (List.mem_of_getElem? (i := 21) rfl)
theorem wq_310 : (Cond.constant RJ6 265 (1431655765)) ∈ wsL_law := wr_13 _ (List.mem_of_getElem? (i := 22) rfl)
theorem wq_311 : (Cond.constant RJ6 266 (858993459)) ∈ wsL_law := wr_13 _ (List.mem_of_getElem? (i := 23) rfl)
theorem wr_14 : ∀ w ∈ wsL_law_r14, w ∈ wsL_law := by
  intro w h
  exact List.mem_append_left _ (List.mem_append_left _ (List.mem_append_left _ (List.mem_append_left _ (List.mem_append_left _ (List.mem_append_left _ (List.mem_append_left _ (List.mem_append_left _ (List.mem_append_left _ (List.mem_append_right _ (List.mem_append_right _ (List.mem_append_right _ (List.mem_append_right _ (List.mem_append_right _ (List.mem_append_right _ (List.mem_append_right _ (List.mem_append_right _ (List.mem_append_right _ (List.mem_append_right _ (List.mem_append_right _ (List.mem_append_right _ (List.mem_append_right _ (List.mem_append_left _ h))))))))))))))))))))))
theorem wq_312 : (Cond.constant RJ6 267 (252645135)) ∈ wsL_law := wr_14 _ (List.mem_of_getElem? (i := 0) rfl)
theorem wq_313 : (Cond.methodLink RX6 127 yX6_refuseLong) ∈ wsL_law := wr_14 _ (List.mem_of_getElem? (i := 1) rfl)
theorem wq_314 : (Cond.instanceMethod yX6_refuseLong) ∈ wsL_law := wr_14 _ (List.mem_of_getElem? (i := 2) rfl)
theorem wq_315 : (Cond.selects RX6 yX6_refuseLong yX6_refuseLong) ∈ wsL_law := wr_14 _ (List.mem_of_getElem? (i := 3) rfl)
theorem wq_316 : (Cond.code yX6_refuseLong cX6_refuseLong 2 (some .long)) ∈ wsL_law := wr_14 _ (List.mem_of_getElem? (i := 4) rfl)
theorem wq_317 : (Cond.constantLong RX6 264 (4000000000000000000)) ∈ wsL_law := wr_14 _ (List.mem_of_getElem? (i := 5) rfl)
theorem wq_318 : (Cond.instanceMethod yX2_chanceOf) ∈ wsL_law := wr_14 _ (List.mem_of_getElem? (i := 6) rfl)
theorem wq_319 : (Cond.selects RX2 yX2_chanceOf yX2_chanceOf) ∈ wsL_law := wr_14 _ (List.mem_of_getElem? (i := 7) rfl)
theorem wq_320 : (Cond.code yX2_chanceOf cX2_chanceOf 4 (some .long)) ∈ wsL_law := wr_14 _ (List.mem_of_getElem? (i := 8) rfl)
theorem wq_321 : (Cond.methodLink RX2 54 yX2_spreadOut) ∈ wsL_law := wr_14 _ (List.mem_of_getElem? (i := 9) rfl)
theorem wq_322 : (Cond.instanceMethod yX2_spreadOut) ∈ wsL_law := wr_14 _ (List.mem_of_getElem? (i := 10) rfl)
theorem wq_323 : (Cond.selects RX2 yX2_spreadOut yX2_spreadOut) ∈ wsL_law := wr_14 _ (List.mem_of_getElem? (i := 11) rfl)
theorem wq_324 : (Cond.code yX2_spreadOut cX2_spreadOut 10 none) ∈ wsL_law := wr_14 _ (List.mem_of_getElem? (i := 12) rfl)
theorem wq_325 : (Cond.constantLong RX2 65 (100)) ∈ wsL_law := wr_14 _ (List.mem_of_getElem? (i := 13) rfl)
theorem wq_326 : (Cond.methodLink RX2 58 yX2_findsForA) ∈ wsL_law := wr_14 _ (List.mem_of_getElem? (i := 14) rfl)
theorem wq_327 : (Cond.instanceMethod yX2_findsForA) ∈ wsL_law := wr_14 _ (List.mem_of_getElem? (i := 15) rfl)
theorem wq_328 : (Cond.selects RX2 yX2_findsForA yX2_findsForA) ∈ wsL_law := wr_14 _ (List.mem_of_getElem? (i := 16) rfl)
theorem wq_329 : (Cond.code yX2_findsForA cX2_findsForA 1 (some .long)) ∈ wsL_law := wr_14 _ (List.mem_of_getElem? (i := 17) rfl)
theorem wq_330 : (Cond.methodLink RX2 70 yX2_spreadSum) ∈ wsL_law := wr_14 _ (List.mem_of_getElem? (i := 18) rfl)
theorem wq_331 : (Cond.instanceMethod yX2_spreadSum) ∈ wsL_law := wr_14 _ (List.mem_of_getElem? (i := 19) rfl)
theorem wq_332 : (Cond.selects RX2 yX2_spreadSum yX2_spreadSum) ∈ wsL_law := wr_14 _ (List.mem_of_getElem? (i := 20) rfl)
theorem wq_333 : (Cond.code yX2_spreadSum cX2_spreadSum 6 (some .long)) ∈ wsL_law := wr_14 _ (List.mem_of_getElem? (i := 21) rfl)
theorem wq_334 : (Cond.methodLink RL 48 yX7_chance) ∈ wsL_law := wr_14 _ (List.mem_of_getElem? (i := 22) rfl)
theorem wq_335 : (Cond.instanceMethod yX7_chance) ∈ wsL_law := wr_14 _ (List.mem_of_getElem? (i := 23) rfl)
theorem wr_15 : ∀ w ∈ wsL_law_r15, w ∈ wsL_law := by
  intro w h
  exact List.mem_append_left _ (List.mem_append_left _ (List.mem_append_left _ (List.mem_append_left _ (List.mem_append_left _ (List.mem_append_left _ (List.mem_append_left _ (List.mem_append_left _ (List.mem_append_left _ (List.mem_append_right _ (List.mem_append_right _ (List.mem_append_right _ (List.mem_append_right _ (List.mem_append_right _ (List.mem_append_right _ (List.mem_append_right _ (List.mem_append_right _ (List.mem_append_right _ (List.mem_append_right _ (List.mem_append_right _ (List.mem_append_right _ (List.mem_append_right _ (List.mem_append_right _ (List.mem_append_left _ h)))))))))))))))))))))))
theorem wq_336 : (Cond.selects RX7 yX7_chance yX7_chance) ∈ wsL_law := wr_15 _ (List.mem_of_getElem? (i := 0) rfl)
theorem wq_337 : (Cond.code yX7_chance cX7_chance 3 (some .long)) ∈ wsL_law := wr_15 _ (List.mem_of_getElem? (i := 1) rfl)
theorem wq_338 : (Cond.methodLink RX7 147 yX7_notJury) ∈ wsL_law := wr_15 _ (List.mem_of_getElem? (i := 2) rfl)
theorem wq_339 : (Cond.instanceMethod yX7_notJury) ∈ wsL_law := wr_15 _ (List.mem_of_getElem? (i := 3) rfl)
theorem wq_340 : (Cond.selects RX7 yX7_notJury yX7_notJury) ∈ wsL_law := wr_15 _ (List.mem_of_getElem? (i := 4) rfl)
theorem wq_341 : (Cond.code yX7_notJury cX7_notJury 2 (some .int)) ∈ wsL_law := wr_15 _ (List.mem_of_getElem? (i := 5) rfl)
theorem wq_342 : (Cond.methodLink RX7 144 yX7_bits) ∈ wsL_law := wr_15 _ (List.mem_of_getElem? (i := 6) rfl)
theorem wq_343 : (Cond.static yX7_bits) ∈ wsL_law := wr_15 _ (List.mem_of_getElem? (i := 7) rfl)
theorem wq_344 : (Cond.code yX7_bits cX7_bits 3 (some .int)) ∈ wsL_law := wr_15 _ (List.mem_of_getElem? (i := 8) rfl)
theorem wq_345 : (Cond.methodLink RX7 137 yX7_needed) ∈ wsL_law := wr_15 _ (List.mem_of_getElem? (i := 9) rfl)
theorem wq_346 : (Cond.instanceMethod yX7_needed) ∈ wsL_law := wr_15 _ (List.mem_of_getElem? (i := 10) rfl)
theorem wq_347 : (Cond.selects RX7 yX7_needed yX7_needed) ∈ wsL_law := wr_15 _ (List.mem_of_getElem? (i := 11) rfl)
theorem wq_348 : (Cond.code yX7_needed cX7_needed 1 (some .int)) ∈ wsL_law := wr_15 _ (List.mem_of_getElem? (i := 12) rfl)
theorem wq_349 : (Cond.methodLink RX7 150 yX7_noLong) ∈ wsL_law := wr_15 _ (List.mem_of_getElem? (i := 13) rfl)
theorem wq_350 : (Cond.instanceMethod yX7_noLong) ∈ wsL_law := wr_15 _ (List.mem_of_getElem? (i := 14) rfl)
theorem wq_351 : (Cond.selects RX7 yX7_noLong yX7_noLong) ∈ wsL_law := wr_15 _ (List.mem_of_getElem? (i := 15) rfl)
theorem wq_352 : (Cond.code yX7_noLong cX7_noLong 2 (some .long)) ∈ wsL_law := wr_15 _ (List.mem_of_getElem? (i := 16) rfl)
theorem wq_353 : (Cond.constantLong RX7 73 (4000000000000000000)) ∈ wsL_law := wr_15 _ (List.mem_of_getElem? (i := 17) rfl)
theorem wq_354 : (Cond.methodLink RX7 154 yX7_holdsTrue) ∈ wsL_law := wr_15 _ (List.mem_of_getElem? (i := 18) rfl)
theorem wq_355 : (Cond.instanceMethod yX7_holdsTrue) ∈ wsL_law := wr_15 _ (List.mem_of_getElem? (i := 19) rfl)
theorem wq_356 : (Cond.selects RX7 yX7_holdsTrue yX7_holdsTrue) ∈ wsL_law := wr_15 _ (List.mem_of_getElem? (i := 20) rfl)
theorem wq_357 : (Cond.code yX7_holdsTrue cX7_holdsTrue 2 none) ∈ wsL_law := wr_15 _ (List.mem_of_getElem? (i := 21) rfl)
theorem wq_358 : (Cond.methodLink RX7 157 yX7_chanceOf) ∈ wsL_law := wr_15 _ (List.mem_of_getElem? (i := 22) rfl)
theorem wq_359 : (Cond.instanceMethod yX7_chanceOf) ∈ wsL_law := wr_15 _ (List.mem_of_getElem? (i := 23) rfl)
theorem wr_16 : ∀ w ∈ wsL_law_r16, w ∈ wsL_law := by
  intro w h
  exact List.mem_append_left _ (List.mem_append_left _ (List.mem_append_left _ (List.mem_append_left _ (List.mem_append_left _ (List.mem_append_left _ (List.mem_append_left _ (List.mem_append_left _ (List.mem_append_left _ (List.mem_append_right _ (List.mem_append_right _ (List.mem_append_right _ (List.mem_append_right _ (List.mem_append_right _ (List.mem_append_right _ (List.mem_append_right _ (List.mem_append_right _ (List.mem_append_right _ (List.mem_append_right _ (List.mem_append_right _ (List.mem_append_right _ (List.mem_append_right _ (List.mem_append_right _ (List.mem_append_right _ (List.mem_append_left _ h))))))))))))))))))))))))
theorem wq_360 : (Cond.selects RX7 yX7_chanceOf yX7_chanceOf) ∈ wsL_law := wr_16 _ (List.mem_of_getElem? (i := 0) rfl)
theorem wq_361 : (Cond.code yX7_chanceOf cX7_chanceOf 2 (some .long)) ∈ wsL_law := wr_16 _ (List.mem_of_getElem? (i := 1) rfl)
theorem wq_362 : (Cond.methodLink RX7 140 yX7_found) ∈ wsL_law := wr_16 _ (List.mem_of_getElem? (i := 2) rfl)
theorem wq_363 : (Cond.instanceMethod yX7_found) ∈ wsL_law := wr_16 _ (List.mem_of_getElem? (i := 3) rfl)
theorem wq_364 : (Cond.selects RX7 yX7_found yX7_found) ∈ wsL_law := wr_16 _ (List.mem_of_getElem? (i := 4) rfl)
theorem wq_365 : (Cond.code yX7_found cX7_found 8 (some .long)) ∈ wsL_law := wr_16 _ (List.mem_of_getElem? (i := 5) rfl)
theorem wq_366 : (Cond.methodLink RX7 133 yX7_findFor) ∈ wsL_law := wr_16 _ (List.mem_of_getElem? (i := 6) rfl)
theorem wq_367 : (Cond.instanceMethod yX7_findFor) ∈ wsL_law := wr_16 _ (List.mem_of_getElem? (i := 7) rfl)
theorem wq_368 : (Cond.selects RX7 yX7_findFor yX7_findFor) ∈ wsL_law := wr_16 _ (List.mem_of_getElem? (i := 8) rfl)
theorem wq_369 : (Cond.code yX7_findFor cX7_findFor 7 none) ∈ wsL_law := wr_16 _ (List.mem_of_getElem? (i := 9) rfl)
theorem wq_370 : (Cond.methodLink RL 49 yX6_right) ∈ wsL_law := wr_16 _ (List.mem_of_getElem? (i := 10) rfl)
theorem wq_371 : (Cond.instanceMethod yX6_right) ∈ wsL_law := wr_16 _ (List.mem_of_getElem? (i := 11) rfl)
theorem wq_372 : (Cond.selects RX6 yX6_right yX6_right) ∈ wsL_law := wr_16 _ (List.mem_of_getElem? (i := 12) rfl)
theorem wq_373 : (Cond.code yX6_right cX6_right 3 (some .long)) ∈ wsL_law := wr_16 _ (List.mem_of_getElem? (i := 13) rfl)
theorem wq_374 : (Cond.instanceMethod yX2_rightOf) ∈ wsL_law := wr_16 _ (List.mem_of_getElem? (i := 14) rfl)
theorem wq_375 : (Cond.selects RX2 yX2_rightOf yX2_rightOf) ∈ wsL_law := wr_16 _ (List.mem_of_getElem? (i := 15) rfl)
theorem wq_376 : (Cond.code yX2_rightOf cX2_rightOf 4 (some .long)) ∈ wsL_law := wr_16 _ (List.mem_of_getElem? (i := 16) rfl)
theorem wq_377 : (Cond.methodLink RX2 62 yX2_findsForB) ∈ wsL_law := wr_16 _ (List.mem_of_getElem? (i := 17) rfl)
theorem wq_378 : (Cond.instanceMethod yX2_findsForB) ∈ wsL_law := wr_16 _ (List.mem_of_getElem? (i := 18) rfl)
theorem wq_379 : (Cond.selects RX2 yX2_findsForB yX2_findsForB) ∈ wsL_law := wr_16 _ (List.mem_of_getElem? (i := 19) rfl)
theorem wq_380 : (Cond.code yX2_findsForB cX2_findsForB 1 (some .long)) ∈ wsL_law := wr_16 _ (List.mem_of_getElem? (i := 20) rfl)
theorem wq_381 : (Cond.methodLink RL 52 yX7_right) ∈ wsL_law := wr_16 _ (List.mem_of_getElem? (i := 21) rfl)
theorem wq_382 : (Cond.instanceMethod yX7_right) ∈ wsL_law := wr_16 _ (List.mem_of_getElem? (i := 22) rfl)
theorem wq_383 : (Cond.selects RX7 yX7_right yX7_right) ∈ wsL_law := wr_16 _ (List.mem_of_getElem? (i := 23) rfl)
theorem wr_17 : ∀ w ∈ wsL_law_r17, w ∈ wsL_law := by
  intro w h
  exact List.mem_append_left _ (List.mem_append_left _ (List.mem_append_left _ (List.mem_append_left _ (List.mem_append_left _ (List.mem_append_left _ (List.mem_append_left _ (List.mem_append_left _ (List.mem_append_left _ (List.mem_append_right _ (List.mem_append_right _ (List.mem_append_right _ (List.mem_append_right _ (List.mem_append_right _ (List.mem_append_right _ (List.mem_append_right _ (List.mem_append_right _ (List.mem_append_right _ (List.mem_append_right _ (List.mem_append_right _ (List.mem_append_right _ (List.mem_append_right _ (List.mem_append_right _ (List.mem_append_right _ (List.mem_append_right _ (List.mem_append_left _ h)))))))))))))))))))))))))
theorem wq_384 : (Cond.code yX7_right cX7_right 3 (some .long)) ∈ wsL_law := wr_17 _ (List.mem_of_getElem? (i := 0) rfl)
theorem wq_385 : (Cond.methodLink RX7 160 yX7_rightOf) ∈ wsL_law := wr_17 _ (List.mem_of_getElem? (i := 1) rfl)
theorem wq_386 : (Cond.instanceMethod yX7_rightOf) ∈ wsL_law := wr_17 _ (List.mem_of_getElem? (i := 2) rfl)
theorem wq_387 : (Cond.selects RX7 yX7_rightOf yX7_rightOf) ∈ wsL_law := wr_17 _ (List.mem_of_getElem? (i := 3) rfl)
theorem wq_388 : (Cond.code yX7_rightOf cX7_rightOf 2 (some .long)) ∈ wsL_law := wr_17 _ (List.mem_of_getElem? (i := 4) rfl)
theorem wq_389 : (Cond.methodLink RL 53 yX6_best) ∈ wsL_law := wr_17 _ (List.mem_of_getElem? (i := 5) rfl)
theorem wq_390 : (Cond.instanceMethod yX6_best) ∈ wsL_law := wr_17 _ (List.mem_of_getElem? (i := 6) rfl)
theorem wq_391 : (Cond.selects RX6 yX6_best yX6_best) ∈ wsL_law := wr_17 _ (List.mem_of_getElem? (i := 7) rfl)
theorem wq_392 : (Cond.code yX6_best cX6_best 5 (some .long)) ∈ wsL_law := wr_17 _ (List.mem_of_getElem? (i := 8) rfl)
theorem wq_393 : (Cond.methodLink RX6 137 yX6_leftRefusal) ∈ wsL_law := wr_17 _ (List.mem_of_getElem? (i := 9) rfl)
theorem wq_394 : (Cond.instanceMethod yX6_leftRefusal) ∈ wsL_law := wr_17 _ (List.mem_of_getElem? (i := 10) rfl)
theorem wq_395 : (Cond.selects RX6 yX6_leftRefusal yX6_leftRefusal) ∈ wsL_law := wr_17 _ (List.mem_of_getElem? (i := 11) rfl)
theorem wq_396 : (Cond.code yX6_leftRefusal cX6_leftRefusal 6 (some .int)) ∈ wsL_law := wr_17 _ (List.mem_of_getElem? (i := 12) rfl)
theorem wq_397 : (Cond.methodLink RX6 189 yX6_isSide) ∈ wsL_law := wr_17 _ (List.mem_of_getElem? (i := 13) rfl)
theorem wq_398 : (Cond.static yX6_isSide) ∈ wsL_law := wr_17 _ (List.mem_of_getElem? (i := 14) rfl)
theorem wq_399 : (Cond.code yX6_isSide cX6_isSide 1 (some .boolean)) ∈ wsL_law := wr_17 _ (List.mem_of_getElem? (i := 15) rfl)
theorem wq_400 : (Cond.instanceMethod yX5_lookBack) ∈ wsL_law := wr_17 _ (List.mem_of_getElem? (i := 16) rfl)
theorem wq_401 : (Cond.selects RX5 yX5_lookBack yX5_lookBack) ∈ wsL_law := wr_17 _ (List.mem_of_getElem? (i := 17) rfl)
theorem wq_402 : (Cond.code yX5_lookBack cX5_lookBack 7 none) ∈ wsL_law := wr_17 _ (List.mem_of_getElem? (i := 18) rfl)
theorem wq_403 : (Cond.fieldLink RX5 22 "StruckJury$Turns" "all" "I") ∈ wsL_law := wr_17 _ (List.mem_of_getElem? (i := 19) rfl)
theorem wq_404 : (Cond.fieldLink RX5 26 "StruckJury$Turns" "strikes" "I") ∈ wsL_law := wr_17 _ (List.mem_of_getElem? (i := 20) rfl)
theorem wq_405 : (Cond.fieldLink RX5 34 "StruckJury$Turns" "needed" "I") ∈ wsL_law := wr_17 _ (List.mem_of_getElem? (i := 21) rfl)
theorem wq_406 : (Cond.methodLink RX5 35 yX5_sideAt) ∈ wsL_law := wr_17 _ (List.mem_of_getElem? (i := 22) rfl)
theorem wq_407 : (Cond.static yX5_sideAt) ∈ wsL_law := wr_17 _ (List.mem_of_getElem? (i := 23) rfl)
theorem wr_18 : ∀ w ∈ wsL_law_r18, w ∈ wsL_law := by
  intro w h
  exact List.mem_append_left _ (List.mem_append_left _ (List.mem_append_left _ (List.mem_append_left _ (List.mem_append_left _ (List.mem_append_left _ (List.mem_append_left _ (List.mem_append_left _ (List.mem_append_left _ (List.mem_append_right _ (List.mem_append_right _ (List.mem_append_right _ (List.mem_append_right _ (List.mem_append_right _ (List.mem_append_right _ (List.mem_append_right _ (List.mem_append_right _ (List.mem_append_right _ (List.mem_append_right _ (List.mem_append_right _ (List.mem_append_right _ (List.mem_append_right _ (List.mem_append_right _ (List.mem_append_right _ (List.mem_append_right _ (List.mem_append_right _ (List.mem_append_left _ h))))))))))))))))))))))))))
theorem wq_408 : (Cond.code yX5_sideAt cX5_sideAt 8 (some .int)) ∈ wsL_law := wr_18 _ (List.mem_of_getElem? (i := 0) rfl)
theorem wq_409 : (Cond.methodLink RX5 39 yX5_findTwins) ∈ wsL_law := wr_18 _ (List.mem_of_getElem? (i := 1) rfl)
theorem wq_410 : (Cond.instanceMethod yX5_findTwins) ∈ wsL_law := wr_18 _ (List.mem_of_getElem? (i := 2) rfl)
theorem wq_411 : (Cond.selects RX5 yX5_findTwins yX5_findTwins) ∈ wsL_law := wr_18 _ (List.mem_of_getElem? (i := 3) rfl)
theorem wq_412 : (Cond.code yX5_findTwins cX5_findTwins 4 none) ∈ wsL_law := wr_18 _ (List.mem_of_getElem? (i := 4) rfl)
theorem wq_413 : (Cond.instanceMethod yX2_areAlike) ∈ wsL_law := wr_18 _ (List.mem_of_getElem? (i := 5) rfl)
theorem wq_414 : (Cond.selects RX2 yX2_areAlike yX2_areAlike) ∈ wsL_law := wr_18 _ (List.mem_of_getElem? (i := 6) rfl)
theorem wq_415 : (Cond.code yX2_areAlike cX2_areAlike 3 (some .boolean)) ∈ wsL_law := wr_18 _ (List.mem_of_getElem? (i := 7) rfl)
theorem wq_416 : (Cond.methodLink RX5 43 yJ6_bitCount_0f7a4) ∈ wsL_law := wr_18 _ (List.mem_of_getElem? (i := 8) rfl)
theorem wq_417 : (Cond.methodLink RX5 49 yX5_worthOf) ∈ wsL_law := wr_18 _ (List.mem_of_getElem? (i := 9) rfl)
theorem wq_418 : (Cond.instanceMethod yX5_worthOf) ∈ wsL_law := wr_18 _ (List.mem_of_getElem? (i := 10) rfl)
theorem wq_419 : (Cond.selects RX5 yX5_worthOf yX5_worthOf) ∈ wsL_law := wr_18 _ (List.mem_of_getElem? (i := 11) rfl)
theorem wq_420 : (Cond.code yX5_worthOf cX5_worthOf 5 (some .long)) ∈ wsL_law := wr_18 _ (List.mem_of_getElem? (i := 12) rfl)
theorem wq_421 : (Cond.methodLink RX5 57 yX5_lesserLike) ∈ wsL_law := wr_18 _ (List.mem_of_getElem? (i := 13) rfl)
theorem wq_422 : (Cond.instanceMethod yX5_lesserLike) ∈ wsL_law := wr_18 _ (List.mem_of_getElem? (i := 14) rfl)
theorem wq_423 : (Cond.selects RX5 yX5_lesserLike yX5_lesserLike) ∈ wsL_law := wr_18 _ (List.mem_of_getElem? (i := 15) rfl)
theorem wq_424 : (Cond.code yX5_lesserLike cX5_lesserLike 4 (some .int)) ∈ wsL_law := wr_18 _ (List.mem_of_getElem? (i := 16) rfl)
theorem wq_425 : (Cond.methodLink RX5 64 yX5_valueAfterBest) ∈ wsL_law := wr_18 _ (List.mem_of_getElem? (i := 17) rfl)
theorem wq_426 : (Cond.instanceMethod yX5_valueAfterBest) ∈ wsL_law := wr_18 _ (List.mem_of_getElem? (i := 18) rfl)
theorem wq_427 : (Cond.selects RX5 yX5_valueAfterBest yX5_valueAfterBest) ∈ wsL_law := wr_18 _ (List.mem_of_getElem? (i := 19) rfl)
theorem wq_428 : (Cond.code yX5_valueAfterBest cX5_valueAfterBest 8 (some .long)) ∈ wsL_law := wr_18 _ (List.mem_of_getElem? (i := 20) rfl)
theorem wq_429 : (Cond.constantLong RX5 68 (-1)) ∈ wsL_law := wr_18 _ (List.mem_of_getElem? (i := 21) rfl)
theorem wq_430 : (Cond.constantLong RX5 70 (10000000000000001)) ∈ wsL_law := wr_18 _ (List.mem_of_getElem? (i := 22) rfl)
theorem wq_431 : (Cond.methodLink RX5 72 Lib.MathLoose.max_long.x) ∈ wsL_law := wr_18 _ (List.mem_of_getElem? (i := 23) rfl)
theorem wr_19 : ∀ w ∈ wsL_law_r19, w ∈ wsL_law := by
  intro w h
  exact List.mem_append_left _ (List.mem_append_left _ (List.mem_append_left _ (List.mem_append_left _ (List.mem_append_left _ (List.mem_append_left _ (List.mem_append_left _ (List.mem_append_left _ (List.mem_append_left _ (List.mem_append_right _ (List.mem_append_right _ (List.mem_append_right _ (List.mem_append_right _ (List.mem_append_right _ (List.mem_append_right _ (List.mem_append_right _ (List.mem_append_right _ (List.mem_append_right _ (List.mem_append_right _ (List.mem_append_right _ (List.mem_append_right _ (List.mem_append_right _ (List.mem_append_right _ (List.mem_append_right _ (List.mem_append_right _ (List.mem_append_right _ (List.mem_append_right _ (List.mem_append_left _ h)))))))))))))))))))))))))))
theorem wq_432 : (Cond.static Lib.MathLoose.max_long.x) ∈ wsL_law := wr_19 _ (List.mem_of_getElem? (i := 0) rfl)
theorem wq_433 : (Cond.initialized "java/lang/Math") ∈ wsL_law := wr_19 _ (List.mem_of_getElem? (i := 1) rfl)
theorem wq_434 : (Cond.code Lib.MathLoose.max_long.x Lib.MathLoose.max_long.code 4 (some .long)) ∈ wsL_law := wr_19 _ (List.mem_of_getElem? (i := 2) rfl)
theorem wq_435 : (Cond.methodLink RX5 78 Lib.MathLoose.min_long.x) ∈ wsL_law := wr_19 _ (List.mem_of_getElem? (i := 3) rfl)
theorem wq_436 : (Cond.static Lib.MathLoose.min_long.x) ∈ wsL_law := wr_19 _ (List.mem_of_getElem? (i := 4) rfl)
theorem wq_437 : (Cond.code Lib.MathLoose.min_long.x Lib.MathLoose.min_long.code 4 (some .long)) ∈ wsL_law := wr_19 _ (List.mem_of_getElem? (i := 5) rfl)
theorem wq_438 : (Cond.instanceMethod yX5_valueOf) ∈ wsL_law := wr_19 _ (List.mem_of_getElem? (i := 6) rfl)
theorem wq_439 : (Cond.selects RX5 yX5_valueOf yX5_valueOf) ∈ wsL_law := wr_19 _ (List.mem_of_getElem? (i := 7) rfl)
theorem wq_440 : (Cond.code yX5_valueOf cX5_valueOf 2 (some .long)) ∈ wsL_law := wr_19 _ (List.mem_of_getElem? (i := 8) rfl)
theorem wq_441 : (Cond.methodLink RL 57 yX7_best) ∈ wsL_law := wr_19 _ (List.mem_of_getElem? (i := 9) rfl)
theorem wq_442 : (Cond.instanceMethod yX7_best) ∈ wsL_law := wr_19 _ (List.mem_of_getElem? (i := 10) rfl)
theorem wq_443 : (Cond.selects RX7 yX7_best yX7_best) ∈ wsL_law := wr_19 _ (List.mem_of_getElem? (i := 11) rfl)
theorem wq_444 : (Cond.code yX7_best cX7_best 5 (some .long)) ∈ wsL_law := wr_19 _ (List.mem_of_getElem? (i := 12) rfl)
theorem wq_445 : (Cond.methodLink RX7 178 yX7_notLeft) ∈ wsL_law := wr_19 _ (List.mem_of_getElem? (i := 13) rfl)
theorem wq_446 : (Cond.instanceMethod yX7_notLeft) ∈ wsL_law := wr_19 _ (List.mem_of_getElem? (i := 14) rfl)
theorem wq_447 : (Cond.selects RX7 yX7_notLeft yX7_notLeft) ∈ wsL_law := wr_19 _ (List.mem_of_getElem? (i := 15) rfl)
theorem wq_448 : (Cond.code yX7_notLeft cX7_notLeft 4 (some .int)) ∈ wsL_law := wr_19 _ (List.mem_of_getElem? (i := 16) rfl)
theorem wq_449 : (Cond.methodLink RX7 181 yX7_findBest) ∈ wsL_law := wr_19 _ (List.mem_of_getElem? (i := 17) rfl)
theorem wq_450 : (Cond.instanceMethod yX7_findBest) ∈ wsL_law := wr_19 _ (List.mem_of_getElem? (i := 18) rfl)
theorem wq_451 : (Cond.selects RX7 yX7_findBest yX7_findBest) ∈ wsL_law := wr_19 _ (List.mem_of_getElem? (i := 19) rfl)
theorem wq_452 : (Cond.code yX7_findBest cX7_findBest 8 none) ∈ wsL_law := wr_19 _ (List.mem_of_getElem? (i := 20) rfl)
theorem wq_453 : (Cond.methodLink RX7 163 yX7_index) ∈ wsL_law := wr_19 _ (List.mem_of_getElem? (i := 21) rfl)
theorem wq_454 : (Cond.static yX7_index) ∈ wsL_law := wr_19 _ (List.mem_of_getElem? (i := 22) rfl)
theorem wq_455 : (Cond.code yX7_index cX7_index 4 (some .int)) ∈ wsL_law := wr_19 _ (List.mem_of_getElem? (i := 23) rfl)
theorem wr_20 : ∀ w ∈ wsL_law_r20, w ∈ wsL_law := by
  intro w h
  exact List.mem_append_left _ (List.mem_append_left _ (List.mem_append_left _ (List.mem_append_left _ (List.mem_append_left _ (List.mem_append_left _ (List.mem_append_left _ (List.mem_append_left _ (List.mem_append_left _ (List.mem_append_right _ (List.mem_append_right _ (List.mem_append_right _ (List.mem_append_right _ (List.mem_append_right _ (List.mem_append_right _ (List.mem_append_right _ (List.mem_append_right _ (List.mem_append_right _ (List.mem_append_right _ (List.mem_append_right _ (List.mem_append_right _ (List.mem_append_right _ (List.mem_append_right _ (List.mem_append_right _ (List.mem_append_right _ (List.mem_append_right _ (List.mem_append_right _ (List.mem_append_right _ (List.mem_append_left _ h))))))))))))))))))))))))))))
theorem wq_456 : (Cond.methodLink RX7 167 yX7_valueOf) ∈ wsL_law := wr_20 _ (List.mem_of_getElem? (i := 0) rfl)
theorem wq_457 : (Cond.instanceMethod yX7_valueOf) ∈ wsL_law := wr_20 _ (List.mem_of_getElem? (i := 1) rfl)
theorem wq_458 : (Cond.selects RX7 yX7_valueOf yX7_valueOf) ∈ wsL_law := wr_20 _ (List.mem_of_getElem? (i := 2) rfl)
theorem wq_459 : (Cond.code yX7_valueOf cX7_valueOf 12 (some .long)) ∈ wsL_law := wr_20 _ (List.mem_of_getElem? (i := 3) rfl)
theorem wq_460 : (Cond.methodLink RX7 171 yX7_mover) ∈ wsL_law := wr_20 _ (List.mem_of_getElem? (i := 4) rfl)
theorem wq_461 : (Cond.static yX7_mover) ∈ wsL_law := wr_20 _ (List.mem_of_getElem? (i := 5) rfl)
theorem wq_462 : (Cond.code yX7_mover cX7_mover 3 (some .int)) ∈ wsL_law := wr_20 _ (List.mem_of_getElem? (i := 6) rfl)
theorem wq_463 : (Cond.methodLink RX7 174 yX7_behind) ∈ wsL_law := wr_20 _ (List.mem_of_getElem? (i := 7) rfl)
theorem wq_464 : (Cond.instanceMethod yX7_behind) ∈ wsL_law := wr_20 _ (List.mem_of_getElem? (i := 8) rfl)
theorem wq_465 : (Cond.selects RX7 yX7_behind yX7_behind) ∈ wsL_law := wr_20 _ (List.mem_of_getElem? (i := 9) rfl)
theorem wq_466 : (Cond.code yX7_behind cX7_behind 6 (some .long)) ∈ wsL_law := wr_20 _ (List.mem_of_getElem? (i := 10) rfl)
theorem wq_467 : (Cond.methodLink RL 58 yX6_strike) ∈ wsL_law := wr_20 _ (List.mem_of_getElem? (i := 11) rfl)
theorem wq_468 : (Cond.instanceMethod yX6_strike) ∈ wsL_law := wr_20 _ (List.mem_of_getElem? (i := 12) rfl)
theorem wq_469 : (Cond.selects RX6 yX6_strike yX6_strike) ∈ wsL_law := wr_20 _ (List.mem_of_getElem? (i := 13) rfl)
theorem wq_470 : (Cond.code yX6_strike cX6_strike 5 (some .int)) ∈ wsL_law := wr_20 _ (List.mem_of_getElem? (i := 14) rfl)
theorem wq_471 : (Cond.instanceMethod yX5_strikeFrom) ∈ wsL_law := wr_20 _ (List.mem_of_getElem? (i := 15) rfl)
theorem wq_472 : (Cond.selects RX5 yX5_strikeFrom yX5_strikeFrom) ∈ wsL_law := wr_20 _ (List.mem_of_getElem? (i := 16) rfl)
theorem wq_473 : (Cond.code yX5_strikeFrom cX5_strikeFrom 4 (some .int)) ∈ wsL_law := wr_20 _ (List.mem_of_getElem? (i := 17) rfl)
theorem wq_474 : (Cond.methodLink RL 61 yX7_strike) ∈ wsL_law := wr_20 _ (List.mem_of_getElem? (i := 18) rfl)
theorem wq_475 : (Cond.instanceMethod yX7_strike) ∈ wsL_law := wr_20 _ (List.mem_of_getElem? (i := 19) rfl)
theorem wq_476 : (Cond.selects RX7 yX7_strike yX7_strike) ∈ wsL_law := wr_20 _ (List.mem_of_getElem? (i := 20) rfl)
theorem wq_477 : (Cond.code yX7_strike cX7_strike 5 (some .int)) ∈ wsL_law := wr_20 _ (List.mem_of_getElem? (i := 21) rfl)
theorem wq_478 : (Cond.methodLink RX7 185 yX7_strikeOf) ∈ wsL_law := wr_20 _ (List.mem_of_getElem? (i := 22) rfl)
theorem wq_479 : (Cond.instanceMethod yX7_strikeOf) ∈ wsL_law := wr_20 _ (List.mem_of_getElem? (i := 23) rfl)
theorem wr_21 : ∀ w ∈ wsL_law_r21, w ∈ wsL_law := by
  intro w h
  exact List.mem_append_left _ (List.mem_append_left _ (List.mem_append_left _ (List.mem_append_left _ (List.mem_append_left _ (List.mem_append_left _ (List.mem_append_left _ (List.mem_append_left _ (List.mem_append_left _ (List.mem_append_right _ (List.mem_append_right _ (List.mem_append_right _ (List.mem_append_right _ (List.mem_append_right _ (List.mem_append_right _ (List.mem_append_right _ (List.mem_append_right _ (List.mem_append_right _ (List.mem_append_right _ (List.mem_append_right _ (List.mem_append_right _ (List.mem_append_right _ (List.mem_append_right _ (List.mem_append_right _ (List.mem_append_right _ (List.mem_append_right _ (List.mem_append_right _ (List.mem_append_right _ (List.mem_append_right _ (List.mem_append_left _ h)))))))))))))))))))))))))))))
theorem wq_480 : (Cond.selects RX7 yX7_strikeOf yX7_strikeOf) ∈ wsL_law := wr_21 _ (List.mem_of_getElem? (i := 0) rfl)
theorem wq_481 : (Cond.code yX7_strikeOf cX7_strikeOf 7 (some .int)) ∈ wsL_law := wr_21 _ (List.mem_of_getElem? (i := 1) rfl)
theorem wq_482 : (Cond.methodLink RL 62 yX6_turns) ∈ wsL_law := wr_21 _ (List.mem_of_getElem? (i := 2) rfl)
theorem wq_483 : (Cond.instanceMethod yX6_turns) ∈ wsL_law := wr_21 _ (List.mem_of_getElem? (i := 3) rfl)
theorem wq_484 : (Cond.selects RX6 yX6_turns yX6_turns) ∈ wsL_law := wr_21 _ (List.mem_of_getElem? (i := 4) rfl)
theorem wq_485 : (Cond.code yX6_turns cX6_turns 1 (some .long)) ∈ wsL_law := wr_21 _ (List.mem_of_getElem? (i := 5) rfl)
theorem wq_486 : (Cond.instanceMethod yX0_called) ∈ wsL_law := wr_21 _ (List.mem_of_getElem? (i := 6) rfl)
theorem wq_487 : (Cond.selects RX0 yX0_called yX0_called) ∈ wsL_law := wr_21 _ (List.mem_of_getElem? (i := 7) rfl)
theorem wq_488 : (Cond.code yX0_called cX0_called 2 (some .int)) ∈ wsL_law := wr_21 _ (List.mem_of_getElem? (i := 8) rfl)
theorem wq_489 : (Cond.methodLink RX0 34 yX0_needed) ∈ wsL_law := wr_21 _ (List.mem_of_getElem? (i := 9) rfl)
theorem wq_490 : (Cond.methodLink RX0 38 yX0_strikes) ∈ wsL_law := wr_21 _ (List.mem_of_getElem? (i := 10) rfl)
theorem wq_491 : (Cond.instanceMethod yX0_strikes) ∈ wsL_law := wr_21 _ (List.mem_of_getElem? (i := 11) rfl)
theorem wq_492 : (Cond.selects RX0 yX0_strikes yX0_strikes) ∈ wsL_law := wr_21 _ (List.mem_of_getElem? (i := 12) rfl)
theorem wq_493 : (Cond.code yX0_strikes cX0_strikes 1 (some .int)) ∈ wsL_law := wr_21 _ (List.mem_of_getElem? (i := 13) rfl)
theorem wq_494 : (Cond.methodLink RX6 154 yX6_valueByTurns) ∈ wsL_law := wr_21 _ (List.mem_of_getElem? (i := 14) rfl)
theorem wq_495 : (Cond.instanceMethod yX6_valueByTurns) ∈ wsL_law := wr_21 _ (List.mem_of_getElem? (i := 15) rfl)
theorem wq_496 : (Cond.selects RX6 yX6_valueByTurns yX6_valueByTurns) ∈ wsL_law := wr_21 _ (List.mem_of_getElem? (i := 16) rfl)
theorem wq_497 : (Cond.code yX6_valueByTurns cX6_valueByTurns 1 (some .long)) ∈ wsL_law := wr_21 _ (List.mem_of_getElem? (i := 17) rfl)
theorem wq_498 : (Cond.methodLink RX6 161 yX6_knowTurns) ∈ wsL_law := wr_21 _ (List.mem_of_getElem? (i := 18) rfl)
theorem wq_499 : (Cond.instanceMethod yX6_knowTurns) ∈ wsL_law := wr_21 _ (List.mem_of_getElem? (i := 19) rfl)
theorem wq_500 : (Cond.selects RX6 yX6_knowTurns yX6_knowTurns) ∈ wsL_law := wr_21 _ (List.mem_of_getElem? (i := 20) rfl)
theorem wq_501 : (Cond.code yX6_knowTurns cX6_knowTurns 1 none) ∈ wsL_law := wr_21 _ (List.mem_of_getElem? (i := 21) rfl)
theorem wq_502 : (Cond.instanceMethod yX0_calledSet) ∈ wsL_law := wr_21 _ (List.mem_of_getElem? (i := 22) rfl)
theorem wq_503 : (Cond.selects RX0 yX0_calledSet yX0_calledSet) ∈ wsL_law := wr_21 _ (List.mem_of_getElem? (i := 23) rfl)
theorem wr_22 : ∀ w ∈ wsL_law_r22, w ∈ wsL_law := by
  intro w h
  exact List.mem_append_left _ (List.mem_append_left _ (List.mem_append_left _ (List.mem_append_left _ (List.mem_append_left _ (List.mem_append_left _ (List.mem_append_left _ (List.mem_append_left _ (List.mem_append_left _ (List.mem_append_right _ (List.mem_append_right _ (List.mem_append_right _ (List.mem_append_right _ (List.mem_append_right _ (List.mem_append_right _ (List.mem_append_right _ (List.mem_append_right _ (List.mem_append_right _ (List.mem_append_right _ (List.mem_append_right _ (List.mem_append_right _ (List.mem_append_right _ (List.mem_append_right _ (List.mem_append_right _ (List.mem_append_right _ (List.mem_append_right _ (List.mem_append_right _ (List.mem_append_right _ (List.mem_append_right _ (List.mem_append_right _ (List.mem_append_left _ h))))))))))))))))))))))))))))))
theorem wq_504 : (Cond.code yX0_calledSet cX0_calledSet 1 (some .int)) ∈ wsL_law := wr_22 _ (List.mem_of_getElem? (i := 0) rfl)
theorem wq_505 : (Cond.methodLink RX0 41 yX0_called) ∈ wsL_law := wr_22 _ (List.mem_of_getElem? (i := 1) rfl)
theorem wq_506 : (Cond.instanceMethod yX0_strikesOf) ∈ wsL_law := wr_22 _ (List.mem_of_getElem? (i := 2) rfl)
theorem wq_507 : (Cond.selects RX0 yX0_strikesOf yX0_strikesOf) ∈ wsL_law := wr_22 _ (List.mem_of_getElem? (i := 3) rfl)
theorem wq_508 : (Cond.code yX0_strikesOf cX0_strikesOf 2 (some .int)) ∈ wsL_law := wr_22 _ (List.mem_of_getElem? (i := 4) rfl)
theorem wq_509 : (Cond.methodLink RL 66 yX7_turns) ∈ wsL_law := wr_22 _ (List.mem_of_getElem? (i := 5) rfl)
theorem wq_510 : (Cond.instanceMethod yX7_turns) ∈ wsL_law := wr_22 _ (List.mem_of_getElem? (i := 6) rfl)
theorem wq_511 : (Cond.selects RX7 yX7_turns yX7_turns) ∈ wsL_law := wr_22 _ (List.mem_of_getElem? (i := 7) rfl)
theorem wq_512 : (Cond.code yX7_turns cX7_turns 1 (some .long)) ∈ wsL_law := wr_22 _ (List.mem_of_getElem? (i := 8) rfl)
theorem wq_513 : (Cond.methodLink RX7 191 yX7_isEnough) ∈ wsL_law := wr_22 _ (List.mem_of_getElem? (i := 9) rfl)
theorem wq_514 : (Cond.instanceMethod yX7_isEnough) ∈ wsL_law := wr_22 _ (List.mem_of_getElem? (i := 10) rfl)
theorem wq_515 : (Cond.selects RX7 yX7_isEnough yX7_isEnough) ∈ wsL_law := wr_22 _ (List.mem_of_getElem? (i := 11) rfl)
theorem wq_516 : (Cond.code yX7_isEnough cX7_isEnough 1 (some .boolean)) ∈ wsL_law := wr_22 _ (List.mem_of_getElem? (i := 12) rfl)
theorem wq_517 : (Cond.methodLink RX7 95 yX7_calledMany) ∈ wsL_law := wr_22 _ (List.mem_of_getElem? (i := 13) rfl)
theorem wq_518 : (Cond.instanceMethod yX7_calledMany) ∈ wsL_law := wr_22 _ (List.mem_of_getElem? (i := 14) rfl)
theorem wq_519 : (Cond.selects RX7 yX7_calledMany yX7_calledMany) ∈ wsL_law := wr_22 _ (List.mem_of_getElem? (i := 15) rfl)
theorem wq_520 : (Cond.code yX7_calledMany cX7_calledMany 1 (some .int)) ∈ wsL_law := wr_22 _ (List.mem_of_getElem? (i := 16) rfl)
theorem wq_521 : (Cond.methodLink RX7 194 yX7_findTurns) ∈ wsL_law := wr_22 _ (List.mem_of_getElem? (i := 17) rfl)
theorem wq_522 : (Cond.instanceMethod yX7_findTurns) ∈ wsL_law := wr_22 _ (List.mem_of_getElem? (i := 18) rfl)
theorem wq_523 : (Cond.selects RX7 yX7_findTurns yX7_findTurns) ∈ wsL_law := wr_22 _ (List.mem_of_getElem? (i := 19) rfl)
theorem wq_524 : (Cond.code yX7_findTurns cX7_findTurns 1 none) ∈ wsL_law := wr_22 _ (List.mem_of_getElem? (i := 20) rfl)
theorem wq_525 : (Cond.methodLink RX7 188 yX7_called) ∈ wsL_law := wr_22 _ (List.mem_of_getElem? (i := 21) rfl)
theorem wq_526 : (Cond.instanceMethod yX7_called) ∈ wsL_law := wr_22 _ (List.mem_of_getElem? (i := 22) rfl)
theorem wq_527 : (Cond.selects RX7 yX7_called yX7_called) ∈ wsL_law := wr_22 _ (List.mem_of_getElem? (i := 23) rfl)
theorem wr_23 : ∀ w ∈ wsL_law_r23, w ∈ wsL_law := by
  intro w h
  exact List.mem_append_left _ (List.mem_append_left _ (List.mem_append_left _ (List.mem_append_left _ (List.mem_append_left _ (List.mem_append_left _ (List.mem_append_left _ (List.mem_append_left _ (List.mem_append_left _ (List.mem_append_right _ (List.mem_append_right _ (List.mem_append_right _ (List.mem_append_right _ (List.mem_append_right _ (List.mem_append_right _ (List.mem_append_right _ (List.mem_append_right _ (List.mem_append_right _ (List.mem_append_right _ (List.mem_append_right _ (List.mem_append_right _ (List.mem_append_right _ (List.mem_append_right _ (List.mem_append_right _ (List.mem_append_right _ (List.mem_append_right _ (List.mem_append_right _ (List.mem_append_right _ (List.mem_append_right _ (List.mem_append_right _ (List.mem_append_right _ (List.mem_append_left _ h)))))))))))))))))))))))))))))))
theorem wq_528 : (Cond.code yX7_called cX7_called 1 (some .int)) ∈ wsL_law := wr_23 _ (List.mem_of_getElem? (i := 0) rfl)
theorem wq_529 : (Cond.methodLink RX7 197 yX7_turnsOf) ∈ wsL_law := wr_23 _ (List.mem_of_getElem? (i := 1) rfl)
theorem wq_530 : (Cond.instanceMethod yX7_turnsOf) ∈ wsL_law := wr_23 _ (List.mem_of_getElem? (i := 2) rfl)
theorem wq_531 : (Cond.selects RX7 yX7_turnsOf yX7_turnsOf) ∈ wsL_law := wr_23 _ (List.mem_of_getElem? (i := 3) rfl)
theorem wq_532 : (Cond.code yX7_turnsOf cX7_turnsOf 1 (some .long)) ∈ wsL_law := wr_23 _ (List.mem_of_getElem? (i := 4) rfl)
theorem wq_533 : (Cond.methodLink RL 67 yX6_order) ∈ wsL_law := wr_23 _ (List.mem_of_getElem? (i := 5) rfl)
theorem wq_534 : (Cond.instanceMethod yX6_order) ∈ wsL_law := wr_23 _ (List.mem_of_getElem? (i := 6) rfl)
theorem wq_535 : (Cond.selects RX6 yX6_order yX6_order) ∈ wsL_law := wr_23 _ (List.mem_of_getElem? (i := 7) rfl)
theorem wq_536 : (Cond.code yX6_order cX6_order 4 (some .int)) ∈ wsL_law := wr_23 _ (List.mem_of_getElem? (i := 8) rfl)
theorem wq_537 : (Cond.methodLink RL 70 yX7_order) ∈ wsL_law := wr_23 _ (List.mem_of_getElem? (i := 9) rfl)
theorem wq_538 : (Cond.instanceMethod yX7_order) ∈ wsL_law := wr_23 _ (List.mem_of_getElem? (i := 10) rfl)
theorem wq_539 : (Cond.selects RX7 yX7_order yX7_order) ∈ wsL_law := wr_23 _ (List.mem_of_getElem? (i := 11) rfl)
theorem wq_540 : (Cond.code yX7_order cX7_order 2 (some .int)) ∈ wsL_law := wr_23 _ (List.mem_of_getElem? (i := 12) rfl)
theorem wq_541 : (Cond.fieldLink RX7 201 "StruckJuryModel" "lineMany" "I") ∈ wsL_law := wr_23 _ (List.mem_of_getElem? (i := 13) rfl)
theorem wq_542 : (Cond.methodLink RX7 207 yX7_findLine) ∈ wsL_law := wr_23 _ (List.mem_of_getElem? (i := 14) rfl)
theorem wq_543 : (Cond.instanceMethod yX7_findLine) ∈ wsL_law := wr_23 _ (List.mem_of_getElem? (i := 15) rfl)
theorem wq_544 : (Cond.selects RX7 yX7_findLine yX7_findLine) ∈ wsL_law := wr_23 _ (List.mem_of_getElem? (i := 16) rfl)
theorem wq_545 : (Cond.code yX7_findLine cX7_findLine 6 none) ∈ wsL_law := wr_23 _ (List.mem_of_getElem? (i := 17) rfl)
theorem wq_546 : (Cond.fieldLink RX7 204 "StruckJuryModel" "leftThen" "I") ∈ wsL_law := wr_23 _ (List.mem_of_getElem? (i := 18) rfl)
theorem wq_547 : (Cond.methodLink RL 71 yX6_put) ∈ wsL_law := wr_23 _ (List.mem_of_getElem? (i := 19) rfl)
theorem wq_548 : (Cond.instanceMethod yX6_put) ∈ wsL_law := wr_23 _ (List.mem_of_getElem? (i := 20) rfl)
theorem wq_549 : (Cond.selects RX6 yX6_put yX6_put) ∈ wsL_law := wr_23 _ (List.mem_of_getElem? (i := 21) rfl)
theorem wq_550 : (Cond.code yX6_put cX6_put 2 (some .int)) ∈ wsL_law := wr_23 _ (List.mem_of_getElem? (i := 22) rfl)
theorem wq_551 : (Cond.fieldLink RX6 167 "StruckJury" "rowLength" "I") ∈ wsL_law := wr_23 _ (List.mem_of_getElem? (i := 23) rfl)
theorem wr_24 : ∀ w ∈ wsL_law_r24, w ∈ wsL_law := by
  intro w h
  exact List.mem_append_left _ (List.mem_append_left _ (List.mem_append_left _ (List.mem_append_left _ (List.mem_append_left _ (List.mem_append_left _ (List.mem_append_left _ (List.mem_append_left _ (List.mem_append_left _ (List.mem_append_right _ (List.mem_append_right _ (List.mem_append_right _ (List.mem_append_right _ (List.mem_append_right _ (List.mem_append_right _ (List.mem_append_right _ (List.mem_append_right _ (List.mem_append_right _ (List.mem_append_right _ (List.mem_append_right _ (List.mem_append_right _ (List.mem_append_right _ (List.mem_append_right _ (List.mem_append_right _ (List.mem_append_right _ (List.mem_append_right _ (List.mem_append_right _ (List.mem_append_right _ (List.mem_append_right _ (List.mem_append_right _ (List.mem_append_right _ (List.mem_append_right _ (List.mem_append_left _ h))))))))))))))))))))))))))))))))
theorem wq_552 : (Cond.methodLink RL 74 yX7_put) ∈ wsL_law := wr_24 _ (List.mem_of_getElem? (i := 0) rfl)
theorem wq_553 : (Cond.instanceMethod yX7_put) ∈ wsL_law := wr_24 _ (List.mem_of_getElem? (i := 1) rfl)
theorem wq_554 : (Cond.selects RX7 yX7_put yX7_put) ∈ wsL_law := wr_24 _ (List.mem_of_getElem? (i := 2) rfl)
theorem wq_555 : (Cond.code yX7_put cX7_put 3 (some .int)) ∈ wsL_law := wr_24 _ (List.mem_of_getElem? (i := 3) rfl)
theorem wq_556 : (Cond.fieldLink RX7 210 "StruckJuryModel" "rowMany" "I") ∈ wsL_law := wr_24 _ (List.mem_of_getElem? (i := 4) rfl)
theorem wq_557 : (Cond.methodLink RL 75 yX6_unput) ∈ wsL_law := wr_24 _ (List.mem_of_getElem? (i := 5) rfl)
theorem wq_558 : (Cond.instanceMethod yX6_unput) ∈ wsL_law := wr_24 _ (List.mem_of_getElem? (i := 6) rfl)
theorem wq_559 : (Cond.selects RX6 yX6_unput yX6_unput) ∈ wsL_law := wr_24 _ (List.mem_of_getElem? (i := 7) rfl)
theorem wq_560 : (Cond.code yX6_unput cX6_unput 2 (some .int)) ∈ wsL_law := wr_24 _ (List.mem_of_getElem? (i := 8) rfl)
theorem wq_561 : (Cond.methodLink RL 78 yX7_unput) ∈ wsL_law := wr_24 _ (List.mem_of_getElem? (i := 9) rfl)
theorem wq_562 : (Cond.instanceMethod yX7_unput) ∈ wsL_law := wr_24 _ (List.mem_of_getElem? (i := 10) rfl)
theorem wq_563 : (Cond.selects RX7 yX7_unput yX7_unput) ∈ wsL_law := wr_24 _ (List.mem_of_getElem? (i := 11) rfl)
theorem wq_564 : (Cond.code yX7_unput cX7_unput 2 (some .int)) ∈ wsL_law := wr_24 _ (List.mem_of_getElem? (i := 12) rfl)
theorem wq_565 : (Cond.methodLink RL 79 yX6_lawful) ∈ wsL_law := wr_24 _ (List.mem_of_getElem? (i := 13) rfl)
theorem wq_566 : (Cond.instanceMethod yX6_lawful) ∈ wsL_law := wr_24 _ (List.mem_of_getElem? (i := 14) rfl)
theorem wq_567 : (Cond.selects RX6 yX6_lawful yX6_lawful) ∈ wsL_law := wr_24 _ (List.mem_of_getElem? (i := 15) rfl)
theorem wq_568 : (Cond.code yX6_lawful cX6_lawful 1 (some .int)) ∈ wsL_law := wr_24 _ (List.mem_of_getElem? (i := 16) rfl)
theorem wq_569 : (Cond.methodLink RX6 170 yX6_rowIsLawful) ∈ wsL_law := wr_24 _ (List.mem_of_getElem? (i := 17) rfl)
theorem wq_570 : (Cond.instanceMethod yX6_rowIsLawful) ∈ wsL_law := wr_24 _ (List.mem_of_getElem? (i := 18) rfl)
theorem wq_571 : (Cond.selects RX6 yX6_rowIsLawful yX6_rowIsLawful) ∈ wsL_law := wr_24 _ (List.mem_of_getElem? (i := 19) rfl)
theorem wq_572 : (Cond.code yX6_rowIsLawful cX6_rowIsLawful 4 (some .boolean)) ∈ wsL_law := wr_24 _ (List.mem_of_getElem? (i := 20) rfl)
theorem wq_573 : (Cond.methodLink RL 82 yX7_lawful) ∈ wsL_law := wr_24 _ (List.mem_of_getElem? (i := 21) rfl)
theorem wq_574 : (Cond.instanceMethod yX7_lawful) ∈ wsL_law := wr_24 _ (List.mem_of_getElem? (i := 22) rfl)
theorem wq_575 : (Cond.selects RX7 yX7_lawful yX7_lawful) ∈ wsL_law := wr_24 _ (List.mem_of_getElem? (i := 23) rfl)
theorem wr_25 : ∀ w ∈ wsL_law_r25, w ∈ wsL_law := by
  intro w h
  exact List.mem_append_left _ (List.mem_append_left _ (List.mem_append_left _ (List.mem_append_left _ (List.mem_append_left _ (List.mem_append_left _ (List.mem_append_left _ (List.mem_append_left _ (List.mem_append_left _ (List.mem_append_right _ (List.mem_append_right _ (List.mem_append_right _ (List.mem_append_right _ (List.mem_append_right _ (List.mem_append_right _ (List.mem_append_right _ (List.mem_append_right _ (List.mem_append_right _ (List.mem_append_right _ (List.mem_append_right _ (List.mem_append_right _ (List.mem_append_right _ (List.mem_append_right _ (List.mem_append_right _ (List.mem_append_right _ (List.mem_append_right _ (List.mem_append_right _ (List.mem_append_right _ (List.mem_append_right _ (List.mem_append_right _ (List.mem_append_right _ (List.mem_append_right _ (List.mem_append_right _ (List.mem_append_left _ h)))))))))))))))))))))))))))))))))
theorem wq_576 : (Cond.code yX7_lawful cX7_lawful 1 (some .int)) ∈ wsL_law := wr_25 _ (List.mem_of_getElem? (i := 0) rfl)
theorem wq_577 : (Cond.methodLink RX7 213 yX7_isLawful) ∈ wsL_law := wr_25 _ (List.mem_of_getElem? (i := 1) rfl)
theorem wq_578 : (Cond.instanceMethod yX7_isLawful) ∈ wsL_law := wr_25 _ (List.mem_of_getElem? (i := 2) rfl)
theorem wq_579 : (Cond.selects RX7 yX7_isLawful yX7_isLawful) ∈ wsL_law := wr_25 _ (List.mem_of_getElem? (i := 3) rfl)
theorem wq_580 : (Cond.code yX7_isLawful cX7_isLawful 3 (some .boolean)) ∈ wsL_law := wr_25 _ (List.mem_of_getElem? (i := 4) rfl)
theorem wq_581 : (Cond.methodLink RL 83 yX6_slip) ∈ wsL_law := wr_25 _ (List.mem_of_getElem? (i := 5) rfl)
theorem wq_582 : (Cond.instanceMethod yX6_slip) ∈ wsL_law := wr_25 _ (List.mem_of_getElem? (i := 6) rfl)
theorem wq_583 : (Cond.selects RX6 yX6_slip yX6_slip) ∈ wsL_law := wr_25 _ (List.mem_of_getElem? (i := 7) rfl)
theorem wq_584 : (Cond.code yX6_slip cX6_slip 7 (some .long)) ∈ wsL_law := wr_25 _ (List.mem_of_getElem? (i := 8) rfl)
theorem wq_585 : (Cond.methodLink RX6 174 Lib.MathLoose.abs_long.x) ∈ wsL_law := wr_25 _ (List.mem_of_getElem? (i := 9) rfl)
theorem wq_586 : (Cond.static Lib.MathLoose.abs_long.x) ∈ wsL_law := wr_25 _ (List.mem_of_getElem? (i := 10) rfl)
theorem wq_587 : (Cond.code Lib.MathLoose.abs_long.x Lib.MathLoose.abs_long.code 2 (some .long)) ∈ wsL_law := wr_25 _ (List.mem_of_getElem? (i := 11) rfl)
theorem wq_588 : (Cond.constantLong RX6 180 (-9)) ∈ wsL_law := wr_25 _ (List.mem_of_getElem? (i := 12) rfl)
theorem wq_589 : (Cond.methodLink RL 87 yX7_slip) ∈ wsL_law := wr_25 _ (List.mem_of_getElem? (i := 13) rfl)
theorem wq_590 : (Cond.instanceMethod yX7_slip) ∈ wsL_law := wr_25 _ (List.mem_of_getElem? (i := 14) rfl)
theorem wq_591 : (Cond.selects RX7 yX7_slip yX7_slip) ∈ wsL_law := wr_25 _ (List.mem_of_getElem? (i := 15) rfl)
theorem wq_592 : (Cond.code yX7_slip cX7_slip 3 (some .long)) ∈ wsL_law := wr_25 _ (List.mem_of_getElem? (i := 16) rfl)
theorem wq_593 : (Cond.fieldLink RX7 216 "StruckJuryModel" "slipLoss" "J") ∈ wsL_law := wr_25 _ (List.mem_of_getElem? (i := 17) rfl)
theorem wq_594 : (Cond.methodLink RX7 223 yX7_findSlip) ∈ wsL_law := wr_25 _ (List.mem_of_getElem? (i := 18) rfl)
theorem wq_595 : (Cond.instanceMethod yX7_findSlip) ∈ wsL_law := wr_25 _ (List.mem_of_getElem? (i := 19) rfl)
theorem wq_596 : (Cond.selects RX7 yX7_findSlip yX7_findSlip) ∈ wsL_law := wr_25 _ (List.mem_of_getElem? (i := 20) rfl)
theorem wq_597 : (Cond.code yX7_findSlip cX7_findSlip 12 (some .int)) ∈ wsL_law := wr_25 _ (List.mem_of_getElem? (i := 21) rfl)
theorem wq_598 : (Cond.fieldLink RX7 220 "StruckJuryModel" "byA" "I") ∈ wsL_law := wr_25 _ (List.mem_of_getElem? (i := 22) rfl)
theorem wq_599 : (Cond.methodLink RL 88 yX6_second) ∈ wsL_law := wr_25 _ (List.mem_of_getElem? (i := 23) rfl)
theorem wr_26 : ∀ w ∈ wsL_law_r26, w ∈ wsL_law := by
  intro w h
  exact List.mem_append_left _ (List.mem_append_left _ (List.mem_append_left _ (List.mem_append_left _ (List.mem_append_left _ (List.mem_append_left _ (List.mem_append_left _ (List.mem_append_left _ (List.mem_append_left _ (List.mem_append_right _ (List.mem_append_right _ (List.mem_append_right _ (List.mem_append_right _ (List.mem_append_right _ (List.mem_append_right _ (List.mem_append_right _ (List.mem_append_right _ (List.mem_append_right _ (List.mem_append_right _ (List.mem_append_right _ (List.mem_append_right _ (List.mem_append_right _ (List.mem_append_right _ (List.mem_append_right _ (List.mem_append_right _ (List.mem_append_right _ (List.mem_append_right _ (List.mem_append_right _ (List.mem_append_right _ (List.mem_append_right _ (List.mem_append_right _ (List.mem_append_right _ (List.mem_append_right _ (List.mem_append_right _ (List.mem_append_left _ h))))))))))))))))))))))))))))))))))
theorem wq_600 : (Cond.instanceMethod yX6_second) ∈ wsL_law := wr_26 _ (List.mem_of_getElem? (i := 0) rfl)
theorem wq_601 : (Cond.selects RX6 yX6_second yX6_second) ∈ wsL_law := wr_26 _ (List.mem_of_getElem? (i := 1) rfl)
theorem wq_602 : (Cond.code yX6_second cX6_second 1 (some .long)) ∈ wsL_law := wr_26 _ (List.mem_of_getElem? (i := 2) rfl)
theorem wq_603 : (Cond.methodLink RX6 185 yX6_valueWith) ∈ wsL_law := wr_26 _ (List.mem_of_getElem? (i := 3) rfl)
theorem wq_604 : (Cond.instanceMethod yX6_valueWith) ∈ wsL_law := wr_26 _ (List.mem_of_getElem? (i := 4) rfl)
theorem wq_605 : (Cond.selects RX6 yX6_valueWith yX6_valueWith) ∈ wsL_law := wr_26 _ (List.mem_of_getElem? (i := 5) rfl)
theorem wq_606 : (Cond.code yX6_valueWith cX6_valueWith 6 (some .long)) ∈ wsL_law := wr_26 _ (List.mem_of_getElem? (i := 6) rfl)
theorem wq_607 : (Cond.methodLink RX6 284 yX6_setOfFirst) ∈ wsL_law := wr_26 _ (List.mem_of_getElem? (i := 7) rfl)
theorem wq_608 : (Cond.methodLink RL 91 yX7_second) ∈ wsL_law := wr_26 _ (List.mem_of_getElem? (i := 8) rfl)
theorem wq_609 : (Cond.instanceMethod yX7_second) ∈ wsL_law := wr_26 _ (List.mem_of_getElem? (i := 9) rfl)
theorem wq_610 : (Cond.selects RX7 yX7_second yX7_second) ∈ wsL_law := wr_26 _ (List.mem_of_getElem? (i := 10) rfl)
theorem wq_611 : (Cond.code yX7_second cX7_second 1 (some .long)) ∈ wsL_law := wr_26 _ (List.mem_of_getElem? (i := 11) rfl)
theorem wq_612 : (Cond.methodLink RL 92 yX6_more) ∈ wsL_law := wr_26 _ (List.mem_of_getElem? (i := 12) rfl)
theorem wq_613 : (Cond.instanceMethod yX6_more) ∈ wsL_law := wr_26 _ (List.mem_of_getElem? (i := 13) rfl)
theorem wq_614 : (Cond.selects RX6 yX6_more yX6_more) ∈ wsL_law := wr_26 _ (List.mem_of_getElem? (i := 14) rfl)
theorem wq_615 : (Cond.code yX6_more cX6_more 6 (some .long)) ∈ wsL_law := wr_26 _ (List.mem_of_getElem? (i := 15) rfl)
theorem wq_616 : (Cond.methodLink RL 95 yX7_more) ∈ wsL_law := wr_26 _ (List.mem_of_getElem? (i := 16) rfl)
theorem wq_617 : (Cond.instanceMethod yX7_more) ∈ wsL_law := wr_26 _ (List.mem_of_getElem? (i := 17) rfl)
theorem wq_618 : (Cond.selects RX7 yX7_more yX7_more) ∈ wsL_law := wr_26 _ (List.mem_of_getElem? (i := 18) rfl)
theorem wq_619 : (Cond.code yX7_more cX7_more 6 (some .long)) ∈ wsL_law := wr_26 _ (List.mem_of_getElem? (i := 19) rfl)
theorem wq_620 : (Cond.methodLink RL 96 yX6_rests) ∈ wsL_law := wr_26 _ (List.mem_of_getElem? (i := 20) rfl)
theorem wq_621 : (Cond.instanceMethod yX6_rests) ∈ wsL_law := wr_26 _ (List.mem_of_getElem? (i := 21) rfl)
theorem wq_622 : (Cond.selects RX6 yX6_rests yX6_rests) ∈ wsL_law := wr_26 _ (List.mem_of_getElem? (i := 22) rfl)
theorem wq_623 : (Cond.code yX6_rests cX6_rests 1 (some .int)) ∈ wsL_law := wr_26 _ (List.mem_of_getElem? (i := 23) rfl)
theorem wr_27 : ∀ w ∈ wsL_law_r27, w ∈ wsL_law := by
  intro w h
  exact List.mem_append_left _ (List.mem_append_left _ (List.mem_append_left _ (List.mem_append_left _ (List.mem_append_left _ (List.mem_append_left _ (List.mem_append_left _ (List.mem_append_left _ (List.mem_append_left _ (List.mem_append_right _ (List.mem_append_right _ (List.mem_append_right _ (List.mem_append_right _ (List.mem_append_right _ (List.mem_append_right _ (List.mem_append_right _ (List.mem_append_right _ (List.mem_append_right _ (List.mem_append_right _ (List.mem_append_right _ (List.mem_append_right _ (List.mem_append_right _ (List.mem_append_right _ (List.mem_append_right _ (List.mem_append_right _ (List.mem_append_right _ (List.mem_append_right _ (List.mem_append_right _ (List.mem_append_right _ (List.mem_append_right _ (List.mem_append_right _ (List.mem_append_right _ (List.mem_append_right _ (List.mem_append_right _ (List.mem_append_right _ (List.mem_append_left _ h)))))))))))))))))))))))))))))))))))
theorem wq_624 : (Cond.methodLink RX6 192 yX6_knowPaper) ∈ wsL_law := wr_27 _ (List.mem_of_getElem? (i := 0) rfl)
theorem wq_625 : (Cond.instanceMethod yX6_knowPaper) ∈ wsL_law := wr_27 _ (List.mem_of_getElem? (i := 1) rfl)
theorem wq_626 : (Cond.selects RX6 yX6_knowPaper yX6_knowPaper) ∈ wsL_law := wr_27 _ (List.mem_of_getElem? (i := 2) rfl)
theorem wq_627 : (Cond.code yX6_knowPaper cX6_knowPaper 1 none) ∈ wsL_law := wr_27 _ (List.mem_of_getElem? (i := 3) rfl)
theorem wq_628 : (Cond.instanceMethod yX3_weigh) ∈ wsL_law := wr_27 _ (List.mem_of_getElem? (i := 4) rfl)
theorem wq_629 : (Cond.selects RX3 yX3_weigh yX3_weigh) ∈ wsL_law := wr_27 _ (List.mem_of_getElem? (i := 5) rfl)
theorem wq_630 : (Cond.code yX3_weigh cX3_weigh 8 none) ∈ wsL_law := wr_27 _ (List.mem_of_getElem? (i := 6) rfl)
theorem wq_631 : (Cond.fieldLink RX3 53 "StruckJury$Paper" "countA" "I") ∈ wsL_law := wr_27 _ (List.mem_of_getElem? (i := 7) rfl)
theorem wq_632 : (Cond.fieldLink RX3 57 "StruckJury$Paper" "countB" "I") ∈ wsL_law := wr_27 _ (List.mem_of_getElem? (i := 8) rfl)
theorem wq_633 : (Cond.constantLong RX3 60 (-1)) ∈ wsL_law := wr_27 _ (List.mem_of_getElem? (i := 9) rfl)
theorem wq_634 : (Cond.methodLink RX3 65 Lib.MathLoose.max_long.x) ∈ wsL_law := wr_27 _ (List.mem_of_getElem? (i := 10) rfl)
theorem wq_635 : (Cond.methodLink RX3 71 Lib.MathLoose.min_long.x) ∈ wsL_law := wr_27 _ (List.mem_of_getElem? (i := 11) rfl)
theorem wq_636 : (Cond.methodLink RX3 41 yX3_fillValues) ∈ wsL_law := wr_27 _ (List.mem_of_getElem? (i := 12) rfl)
theorem wq_637 : (Cond.instanceMethod yX3_fillValues) ∈ wsL_law := wr_27 _ (List.mem_of_getElem? (i := 13) rfl)
theorem wq_638 : (Cond.selects RX3 yX3_fillValues yX3_fillValues) ∈ wsL_law := wr_27 _ (List.mem_of_getElem? (i := 14) rfl)
theorem wq_639 : (Cond.code yX3_fillValues cX3_fillValues 6 none) ∈ wsL_law := wr_27 _ (List.mem_of_getElem? (i := 15) rfl)
theorem wq_640 : (Cond.methodLink RX3 78 yJ6_bitCount_0f7a4) ∈ wsL_law := wr_27 _ (List.mem_of_getElem? (i := 16) rfl)
theorem wq_641 : (Cond.methodLink RX3 49 yX3_listSets) ∈ wsL_law := wr_27 _ (List.mem_of_getElem? (i := 17) rfl)
theorem wq_642 : (Cond.static yX3_listSets) ∈ wsL_law := wr_27 _ (List.mem_of_getElem? (i := 18) rfl)
theorem wq_643 : (Cond.code yX3_listSets cX3_listSets 5 (some .int)) ∈ wsL_law := wr_27 _ (List.mem_of_getElem? (i := 19) rfl)
theorem wq_644 : (Cond.methodLink RX3 62 yX3_weighSet) ∈ wsL_law := wr_27 _ (List.mem_of_getElem? (i := 20) rfl)
theorem wq_645 : (Cond.instanceMethod yX3_weighSet) ∈ wsL_law := wr_27 _ (List.mem_of_getElem? (i := 21) rfl)
theorem wq_646 : (Cond.selects RX3 yX3_weighSet yX3_weighSet) ∈ wsL_law := wr_27 _ (List.mem_of_getElem? (i := 22) rfl)
theorem wq_647 : (Cond.code yX3_weighSet cX3_weighSet 9 none) ∈ wsL_law := wr_27 _ (List.mem_of_getElem? (i := 23) rfl)
theorem wr_28 : ∀ w ∈ wsL_law_r28, w ∈ wsL_law := by
  intro w h
  exact List.mem_append_left _ (List.mem_append_left _ (List.mem_append_left _ (List.mem_append_left _ (List.mem_append_left _ (List.mem_append_left _ (List.mem_append_left _ (List.mem_append_left _ (List.mem_append_left _ (List.mem_append_right _ (List.mem_append_right _ (List.mem_append_right _ (List.mem_append_right _ (List.mem_append_right _ (List.mem_append_right _ (List.mem_append_right _ (List.mem_append_right _ (List.mem_append_right _ (List.mem_append_right _ (List.mem_append_right _ (List.mem_append_right _ (List.mem_append_right _ (List.mem_append_right _ (List.mem_append_right _ (List.mem_append_right _ (List.mem_append_right _ (List.mem_append_right _ (List.mem_append_right _ (List.mem_append_right _ (List.mem_append_right _ (List.mem_append_right _ (List.mem_append_right _ (List.mem_append_right _ (List.mem_append_right _ (List.mem_append_right _ (List.mem_append_right _ (List.mem_append_left _ h))))))))))))))))))))))))))))))))))))
theorem wq_648 : (Cond.constantLong RX3 89 (10000000000000001)) ∈ wsL_law := wr_28 _ (List.mem_of_getElem? (i := 0) rfl)
theorem wq_649 : (Cond.methodLink RX3 74 yX3_keepThose) ∈ wsL_law := wr_28 _ (List.mem_of_getElem? (i := 1) rfl)
theorem wq_650 : (Cond.static yX3_keepThose) ∈ wsL_law := wr_28 _ (List.mem_of_getElem? (i := 2) rfl)
theorem wq_651 : (Cond.code yX3_keepThose cX3_keepThose 7 (some .int)) ∈ wsL_law := wr_28 _ (List.mem_of_getElem? (i := 3) rfl)
theorem wq_652 : (Cond.instanceMethod yX3_restCount) ∈ wsL_law := wr_28 _ (List.mem_of_getElem? (i := 4) rfl)
theorem wq_653 : (Cond.selects RX3 yX3_restCount yX3_restCount) ∈ wsL_law := wr_28 _ (List.mem_of_getElem? (i := 5) rfl)
theorem wq_654 : (Cond.code yX3_restCount cX3_restCount 1 (some .int)) ∈ wsL_law := wr_28 _ (List.mem_of_getElem? (i := 6) rfl)
theorem wq_655 : (Cond.methodLink RL 99 yX7_rests) ∈ wsL_law := wr_28 _ (List.mem_of_getElem? (i := 7) rfl)
theorem wq_656 : (Cond.instanceMethod yX7_rests) ∈ wsL_law := wr_28 _ (List.mem_of_getElem? (i := 8) rfl)
theorem wq_657 : (Cond.selects RX7 yX7_rests yX7_rests) ∈ wsL_law := wr_28 _ (List.mem_of_getElem? (i := 9) rfl)
theorem wq_658 : (Cond.code yX7_rests cX7_rests 1 (some .int)) ∈ wsL_law := wr_28 _ (List.mem_of_getElem? (i := 10) rfl)
theorem wq_659 : (Cond.fieldLink RX7 238 "StruckJuryModel" "restMany" "I") ∈ wsL_law := wr_28 _ (List.mem_of_getElem? (i := 11) rfl)
theorem wq_660 : (Cond.methodLink RX7 245 yX7_restOf) ∈ wsL_law := wr_28 _ (List.mem_of_getElem? (i := 12) rfl)
theorem wq_661 : (Cond.instanceMethod yX7_restOf) ∈ wsL_law := wr_28 _ (List.mem_of_getElem? (i := 13) rfl)
theorem wq_662 : (Cond.selects RX7 yX7_restOf yX7_restOf) ∈ wsL_law := wr_28 _ (List.mem_of_getElem? (i := 14) rfl)
theorem wq_663 : (Cond.code yX7_restOf cX7_restOf 5 (some .int)) ∈ wsL_law := wr_28 _ (List.mem_of_getElem? (i := 15) rfl)
theorem wq_664 : (Cond.fieldLink RX7 226 "StruckJuryModel" "manyA" "I") ∈ wsL_law := wr_28 _ (List.mem_of_getElem? (i := 16) rfl)
theorem wq_665 : (Cond.fieldLink RX7 229 "StruckJuryModel" "manyB" "I") ∈ wsL_law := wr_28 _ (List.mem_of_getElem? (i := 17) rfl)
theorem wq_666 : (Cond.methodLink RX7 235 yX7_findPaper) ∈ wsL_law := wr_28 _ (List.mem_of_getElem? (i := 18) rfl)
theorem wq_667 : (Cond.instanceMethod yX7_findPaper) ∈ wsL_law := wr_28 _ (List.mem_of_getElem? (i := 19) rfl)
theorem wq_668 : (Cond.selects RX7 yX7_findPaper yX7_findPaper) ∈ wsL_law := wr_28 _ (List.mem_of_getElem? (i := 20) rfl)
theorem wq_669 : (Cond.code yX7_findPaper cX7_findPaper 5 none) ∈ wsL_law := wr_28 _ (List.mem_of_getElem? (i := 21) rfl)
theorem wq_670 : (Cond.methodLink RX7 232 yX7_juryOf) ∈ wsL_law := wr_28 _ (List.mem_of_getElem? (i := 22) rfl)
theorem wq_671 : (Cond.instanceMethod yX7_juryOf) ∈ wsL_law := wr_28 _ (List.mem_of_getElem? (i := 23) rfl)
theorem wr_29 : ∀ w ∈ wsL_law_r29, w ∈ wsL_law := by
  intro w h
  exact List.mem_append_left _ (List.mem_append_left _ (List.mem_append_left _ (List.mem_append_left _ (List.mem_append_left _ (List.mem_append_left _ (List.mem_append_left _ (List.mem_append_left _ (List.mem_append_left _ (List.mem_append_right _ (List.mem_append_right _ (List.mem_append_right _ (List.mem_append_right _ (List.mem_append_right _ (List.mem_append_right _ (List.mem_append_right _ (List.mem_append_right _ (List.mem_append_right _ (List.mem_append_right _ (List.mem_append_right _ (List.mem_append_right _ (List.mem_append_right _ (List.mem_append_right _ (List.mem_append_right _ (List.mem_append_right _ (List.mem_append_right _ (List.mem_append_right _ (List.mem_append_right _ (List.mem_append_right _ (List.mem_append_right _ (List.mem_append_right _ (List.mem_append_right _ (List.mem_append_right _ (List.mem_append_right _ (List.mem_append_right _ (List.mem_append_right _ (List.mem_append_right _ (List.mem_append_left _ h)))))))))))))))))))))))))))))))))))))
theorem wq_672 : (Cond.selects RX7 yX7_juryOf yX7_juryOf) ∈ wsL_law := wr_29 _ (List.mem_of_getElem? (i := 0) rfl)
theorem wq_673 : (Cond.code yX7_juryOf cX7_juryOf 7 (some .int)) ∈ wsL_law := wr_29 _ (List.mem_of_getElem? (i := 1) rfl)
theorem wq_674 : (Cond.methodLink RX7 241 yX7_isRest) ∈ wsL_law := wr_29 _ (List.mem_of_getElem? (i := 2) rfl)
theorem wq_675 : (Cond.instanceMethod yX7_isRest) ∈ wsL_law := wr_29 _ (List.mem_of_getElem? (i := 3) rfl)
theorem wq_676 : (Cond.selects RX7 yX7_isRest yX7_isRest) ∈ wsL_law := wr_29 _ (List.mem_of_getElem? (i := 4) rfl)
theorem wq_677 : (Cond.code yX7_isRest cX7_isRest 5 (some .boolean)) ∈ wsL_law := wr_29 _ (List.mem_of_getElem? (i := 5) rfl)
theorem wq_678 : (Cond.methodLink RL 100 yX6_rest) ∈ wsL_law := wr_29 _ (List.mem_of_getElem? (i := 6) rfl)
theorem wq_679 : (Cond.instanceMethod yX6_rest) ∈ wsL_law := wr_29 _ (List.mem_of_getElem? (i := 7) rfl)
theorem wq_680 : (Cond.selects RX6 yX6_rest yX6_rest) ∈ wsL_law := wr_29 _ (List.mem_of_getElem? (i := 8) rfl)
theorem wq_681 : (Cond.code yX6_rest cX6_rest 2 (some .int)) ∈ wsL_law := wr_29 _ (List.mem_of_getElem? (i := 9) rfl)
theorem wq_682 : (Cond.instanceMethod yX3_restOfA) ∈ wsL_law := wr_29 _ (List.mem_of_getElem? (i := 10) rfl)
theorem wq_683 : (Cond.selects RX3 yX3_restOfA yX3_restOfA) ∈ wsL_law := wr_29 _ (List.mem_of_getElem? (i := 11) rfl)
theorem wq_684 : (Cond.code yX3_restOfA cX3_restOfA 2 (some .int)) ∈ wsL_law := wr_29 _ (List.mem_of_getElem? (i := 12) rfl)
theorem wq_685 : (Cond.instanceMethod yX3_restOfB) ∈ wsL_law := wr_29 _ (List.mem_of_getElem? (i := 13) rfl)
theorem wq_686 : (Cond.selects RX3 yX3_restOfB yX3_restOfB) ∈ wsL_law := wr_29 _ (List.mem_of_getElem? (i := 14) rfl)
theorem wq_687 : (Cond.code yX3_restOfB cX3_restOfB 2 (some .int)) ∈ wsL_law := wr_29 _ (List.mem_of_getElem? (i := 15) rfl)
theorem wq_688 : (Cond.methodLink RL 103 yX7_rest) ∈ wsL_law := wr_29 _ (List.mem_of_getElem? (i := 16) rfl)
theorem wq_689 : (Cond.instanceMethod yX7_rest) ∈ wsL_law := wr_29 _ (List.mem_of_getElem? (i := 17) rfl)
theorem wq_690 : (Cond.selects RX7 yX7_rest yX7_rest) ∈ wsL_law := wr_29 _ (List.mem_of_getElem? (i := 18) rfl)
theorem wq_691 : (Cond.code yX7_rest cX7_rest 2 (some .int)) ∈ wsL_law := wr_29 _ (List.mem_of_getElem? (i := 19) rfl)
theorem wq_692 : (Cond.methodLink RL 104 yX6_paper) ∈ wsL_law := wr_29 _ (List.mem_of_getElem? (i := 20) rfl)
theorem wq_693 : (Cond.instanceMethod yX6_paper) ∈ wsL_law := wr_29 _ (List.mem_of_getElem? (i := 21) rfl)
theorem wq_694 : (Cond.selects RX6 yX6_paper yX6_paper) ∈ wsL_law := wr_29 _ (List.mem_of_getElem? (i := 22) rfl)
theorem wq_695 : (Cond.code yX6_paper cX6_paper 4 (some .long)) ∈ wsL_law := wr_29 _ (List.mem_of_getElem? (i := 23) rfl)
theorem wr_30 : ∀ w ∈ wsL_law_r30, w ∈ wsL_law := by
  intro w h
  exact List.mem_append_left _ (List.mem_append_left _ (List.mem_append_left _ (List.mem_append_left _ (List.mem_append_left _ (List.mem_append_left _ (List.mem_append_left _ (List.mem_append_left _ (List.mem_append_left _ (List.mem_append_right _ (List.mem_append_right _ (List.mem_append_right _ (List.mem_append_right _ (List.mem_append_right _ (List.mem_append_right _ (List.mem_append_right _ (List.mem_append_right _ (List.mem_append_right _ (List.mem_append_right _ (List.mem_append_right _ (List.mem_append_right _ (List.mem_append_right _ (List.mem_append_right _ (List.mem_append_right _ (List.mem_append_right _ (List.mem_append_right _ (List.mem_append_right _ (List.mem_append_right _ (List.mem_append_right _ (List.mem_append_right _ (List.mem_append_right _ (List.mem_append_right _ (List.mem_append_right _ (List.mem_append_right _ (List.mem_append_right _ (List.mem_append_right _ (List.mem_append_right _ (List.mem_append_right _ (List.mem_append_left _ h))))))))))))))))))))))))))))))))))))))
theorem wq_696 : (Cond.methodLink RX6 212 yX6_firstOf) ∈ wsL_law := wr_30 _ (List.mem_of_getElem? (i := 0) rfl)
theorem wq_697 : (Cond.static yX6_firstOf) ∈ wsL_law := wr_30 _ (List.mem_of_getElem? (i := 1) rfl)
theorem wq_698 : (Cond.code yX6_firstOf cX6_firstOf 5 (some .int)) ∈ wsL_law := wr_30 _ (List.mem_of_getElem? (i := 2) rfl)
theorem wq_699 : (Cond.methodLink RL 108 yX7_paper) ∈ wsL_law := wr_30 _ (List.mem_of_getElem? (i := 3) rfl)
theorem wq_700 : (Cond.instanceMethod yX7_paper) ∈ wsL_law := wr_30 _ (List.mem_of_getElem? (i := 4) rfl)
theorem wq_701 : (Cond.selects RX7 yX7_paper yX7_paper) ∈ wsL_law := wr_30 _ (List.mem_of_getElem? (i := 5) rfl)
theorem wq_702 : (Cond.code yX7_paper cX7_paper 3 (some .long)) ∈ wsL_law := wr_30 _ (List.mem_of_getElem? (i := 6) rfl)
theorem wq_703 : (Cond.methodLink RL 109 yX6_coming) ∈ wsL_law := wr_30 _ (List.mem_of_getElem? (i := 7) rfl)
theorem wq_704 : (Cond.instanceMethod yX6_coming) ∈ wsL_law := wr_30 _ (List.mem_of_getElem? (i := 8) rfl)
theorem wq_705 : (Cond.selects RX6 yX6_coming yX6_coming) ∈ wsL_law := wr_30 _ (List.mem_of_getElem? (i := 9) rfl)
theorem wq_706 : (Cond.code yX6_coming cX6_coming 1 (some .long)) ∈ wsL_law := wr_30 _ (List.mem_of_getElem? (i := 10) rfl)
theorem wq_707 : (Cond.methodLink RX6 216 yX6_knowComing) ∈ wsL_law := wr_30 _ (List.mem_of_getElem? (i := 11) rfl)
theorem wq_708 : (Cond.instanceMethod yX6_knowComing) ∈ wsL_law := wr_30 _ (List.mem_of_getElem? (i := 12) rfl)
theorem wq_709 : (Cond.selects RX6 yX6_knowComing yX6_knowComing) ∈ wsL_law := wr_30 _ (List.mem_of_getElem? (i := 13) rfl)
theorem wq_710 : (Cond.code yX6_knowComing cX6_knowComing 1 none) ∈ wsL_law := wr_30 _ (List.mem_of_getElem? (i := 14) rfl)
theorem wq_711 : (Cond.instanceMethod yX1_goBack) ∈ wsL_law := wr_30 _ (List.mem_of_getElem? (i := 15) rfl)
theorem wq_712 : (Cond.selects RX1 yX1_goBack yX1_goBack) ∈ wsL_law := wr_30 _ (List.mem_of_getElem? (i := 16) rfl)
theorem wq_713 : (Cond.code yX1_goBack cX1_goBack 4 none) ∈ wsL_law := wr_30 _ (List.mem_of_getElem? (i := 17) rfl)
theorem wq_714 : (Cond.fieldLink RX1 25 "StruckJury$Coming" "called" "I") ∈ wsL_law := wr_30 _ (List.mem_of_getElem? (i := 18) rfl)
theorem wq_715 : (Cond.fieldLink RX1 31 "StruckJury$Coming" "needed" "I") ∈ wsL_law := wr_30 _ (List.mem_of_getElem? (i := 19) rfl)
theorem wq_716 : (Cond.fieldLink RX1 37 "StruckJury$Coming" "strikesA" "I") ∈ wsL_law := wr_30 _ (List.mem_of_getElem? (i := 20) rfl)
theorem wq_717 : (Cond.fieldLink RX1 40 "StruckJury$Coming" "strikesB" "I") ∈ wsL_law := wr_30 _ (List.mem_of_getElem? (i := 21) rfl)
theorem wq_718 : (Cond.fieldLink RX1 51 "StruckJury$Coming" "end" "I") ∈ wsL_law := wr_30 _ (List.mem_of_getElem? (i := 22) rfl)
theorem wq_719 : (Cond.methodLink RX1 43 yX1_decideAll) ∈ wsL_law := wr_30 _ (List.mem_of_getElem? (i := 23) rfl)
theorem wr_31 : ∀ w ∈ wsL_law_r31, w ∈ wsL_law := by
  intro w h
  exact List.mem_append_left _ (List.mem_append_left _ (List.mem_append_left _ (List.mem_append_left _ (List.mem_append_left _ (List.mem_append_left _ (List.mem_append_left _ (List.mem_append_left _ (List.mem_append_left _ (List.mem_append_right _ (List.mem_append_right _ (List.mem_append_right _ (List.mem_append_right _ (List.mem_append_right _ (List.mem_append_right _ (List.mem_append_right _ (List.mem_append_right _ (List.mem_append_right _ (List.mem_append_right _ (List.mem_append_right _ (List.mem_append_right _ (List.mem_append_right _ (List.mem_append_right _ (List.mem_append_right _ (List.mem_append_right _ (List.mem_append_right _ (List.mem_append_right _ (List.mem_append_right _ (List.mem_append_right _ (List.mem_append_right _ (List.mem_append_right _ (List.mem_append_right _ (List.mem_append_right _ (List.mem_append_right _ (List.mem_append_right _ (List.mem_append_right _ (List.mem_append_right _ (List.mem_append_right _ (List.mem_append_right _ (List.mem_append_left _ h)))))))))))))))))))))))))))))))))))))))
theorem wq_720 : (Cond.instanceMethod yX1_decideAll) ∈ wsL_law := wr_31 _ (List.mem_of_getElem? (i := 0) rfl)
theorem wq_721 : (Cond.selects RX1 yX1_decideAll yX1_decideAll) ∈ wsL_law := wr_31 _ (List.mem_of_getElem? (i := 1) rfl)
theorem wq_722 : (Cond.code yX1_decideAll cX1_decideAll 9 none) ∈ wsL_law := wr_31 _ (List.mem_of_getElem? (i := 2) rfl)
theorem wq_723 : (Cond.methodLink RX1 59 Lib.Math.min.name) ∈ wsL_law := wr_31 _ (List.mem_of_getElem? (i := 3) rfl)
theorem wq_724 : (Cond.static Lib.Math.min.name) ∈ wsL_law := wr_31 _ (List.mem_of_getElem? (i := 4) rfl)
theorem wq_725 : (Cond.code Lib.Math.min.name Lib.Math.min.code 2 (some .int)) ∈ wsL_law := wr_31 _ (List.mem_of_getElem? (i := 5) rfl)
theorem wq_726 : (Cond.methodLink RX1 65 Lib.Math.max.name) ∈ wsL_law := wr_31 _ (List.mem_of_getElem? (i := 6) rfl)
theorem wq_727 : (Cond.static Lib.Math.max.name) ∈ wsL_law := wr_31 _ (List.mem_of_getElem? (i := 7) rfl)
theorem wq_728 : (Cond.code Lib.Math.max.name Lib.Math.max.code 2 (some .int)) ∈ wsL_law := wr_31 _ (List.mem_of_getElem? (i := 8) rfl)
theorem wq_729 : (Cond.constantLong RX1 71 (65535)) ∈ wsL_law := wr_31 _ (List.mem_of_getElem? (i := 9) rfl)
theorem wq_730 : (Cond.constantLong RX1 73 (-1)) ∈ wsL_law := wr_31 _ (List.mem_of_getElem? (i := 10) rfl)
theorem wq_731 : (Cond.methodLink RX1 54 yJ6_bitCount_0f7a4) ∈ wsL_law := wr_31 _ (List.mem_of_getElem? (i := 11) rfl)
theorem wq_732 : (Cond.methodLink RX1 68 yX1_decide) ∈ wsL_law := wr_31 _ (List.mem_of_getElem? (i := 12) rfl)
theorem wq_733 : (Cond.instanceMethod yX1_decide) ∈ wsL_law := wr_31 _ (List.mem_of_getElem? (i := 13) rfl)
theorem wq_734 : (Cond.selects RX1 yX1_decide yX1_decide) ∈ wsL_law := wr_31 _ (List.mem_of_getElem? (i := 14) rfl)
theorem wq_735 : (Cond.code yX1_decide cX1_decide 7 (some .int)) ∈ wsL_law := wr_31 _ (List.mem_of_getElem? (i := 15) rfl)
theorem wq_736 : (Cond.methodLink RX1 47 yX1_endFrom) ∈ wsL_law := wr_31 _ (List.mem_of_getElem? (i := 16) rfl)
theorem wq_737 : (Cond.instanceMethod yX1_endFrom) ∈ wsL_law := wr_31 _ (List.mem_of_getElem? (i := 17) rfl)
theorem wq_738 : (Cond.selects RX1 yX1_endFrom yX1_endFrom) ∈ wsL_law := wr_31 _ (List.mem_of_getElem? (i := 18) rfl)
theorem wq_739 : (Cond.code yX1_endFrom cX1_endFrom 8 (some .int)) ∈ wsL_law := wr_31 _ (List.mem_of_getElem? (i := 19) rfl)
theorem wq_740 : (Cond.methodLink RX1 75 yX1_valueOfEnd) ∈ wsL_law := wr_31 _ (List.mem_of_getElem? (i := 20) rfl)
theorem wq_741 : (Cond.instanceMethod yX1_valueOfEnd) ∈ wsL_law := wr_31 _ (List.mem_of_getElem? (i := 21) rfl)
theorem wq_742 : (Cond.selects RX1 yX1_valueOfEnd yX1_valueOfEnd) ∈ wsL_law := wr_31 _ (List.mem_of_getElem? (i := 22) rfl)
theorem wq_743 : (Cond.code yX1_valueOfEnd cX1_valueOfEnd 2 (some .long)) ∈ wsL_law := wr_31 _ (List.mem_of_getElem? (i := 23) rfl)
theorem wr_32 : ∀ w ∈ wsL_law_r32, w ∈ wsL_law := by
  intro w h
  exact List.mem_append_left _ (List.mem_append_left _ (List.mem_append_left _ (List.mem_append_left _ (List.mem_append_left _ (List.mem_append_left _ (List.mem_append_left _ (List.mem_append_left _ (List.mem_append_left _ (List.mem_append_right _ (List.mem_append_right _ (List.mem_append_right _ (List.mem_append_right _ (List.mem_append_right _ (List.mem_append_right _ (List.mem_append_right _ (List.mem_append_right _ (List.mem_append_right _ (List.mem_append_right _ (List.mem_append_right _ (List.mem_append_right _ (List.mem_append_right _ (List.mem_append_right _ (List.mem_append_right _ (List.mem_append_right _ (List.mem_append_right _ (List.mem_append_right _ (List.mem_append_right _ (List.mem_append_right _ (List.mem_append_right _ (List.mem_append_right _ (List.mem_append_right _ (List.mem_append_right _ (List.mem_append_right _ (List.mem_append_right _ (List.mem_append_right _ (List.mem_append_right _ (List.mem_append_right _ (List.mem_append_right _ (List.mem_append_right _ (List.mem_append_left _ h))))))))))))))))))))))))))))))))))))))))
theorem wq_744 : (Cond.instanceMethod yX1_jury) ∈ wsL_law := wr_32 _ (List.mem_of_getElem? (i := 0) rfl)
theorem wq_745 : (Cond.selects RX1 yX1_jury yX1_jury) ∈ wsL_law := wr_32 _ (List.mem_of_getElem? (i := 1) rfl)
theorem wq_746 : (Cond.code yX1_jury cX1_jury 1 (some .int)) ∈ wsL_law := wr_32 _ (List.mem_of_getElem? (i := 2) rfl)
theorem wq_747 : (Cond.methodLink RL 112 yX7_coming) ∈ wsL_law := wr_32 _ (List.mem_of_getElem? (i := 3) rfl)
theorem wq_748 : (Cond.instanceMethod yX7_coming) ∈ wsL_law := wr_32 _ (List.mem_of_getElem? (i := 4) rfl)
theorem wq_749 : (Cond.selects RX7 yX7_coming yX7_coming) ∈ wsL_law := wr_32 _ (List.mem_of_getElem? (i := 5) rfl)
theorem wq_750 : (Cond.code yX7_coming cX7_coming 1 (some .long)) ∈ wsL_law := wr_32 _ (List.mem_of_getElem? (i := 6) rfl)
theorem wq_751 : (Cond.methodLink RX7 270 yX7_findComing) ∈ wsL_law := wr_32 _ (List.mem_of_getElem? (i := 7) rfl)
theorem wq_752 : (Cond.instanceMethod yX7_findComing) ∈ wsL_law := wr_32 _ (List.mem_of_getElem? (i := 8) rfl)
theorem wq_753 : (Cond.selects RX7 yX7_findComing yX7_findComing) ∈ wsL_law := wr_32 _ (List.mem_of_getElem? (i := 9) rfl)
theorem wq_754 : (Cond.code yX7_findComing cX7_findComing 5 none) ∈ wsL_law := wr_32 _ (List.mem_of_getElem? (i := 10) rfl)
theorem wq_755 : (Cond.methodLink RX7 248 yX7_leftOfB) ∈ wsL_law := wr_32 _ (List.mem_of_getElem? (i := 11) rfl)
theorem wq_756 : (Cond.instanceMethod yX7_leftOfB) ∈ wsL_law := wr_32 _ (List.mem_of_getElem? (i := 12) rfl)
theorem wq_757 : (Cond.selects RX7 yX7_leftOfB yX7_leftOfB) ∈ wsL_law := wr_32 _ (List.mem_of_getElem? (i := 13) rfl)
theorem wq_758 : (Cond.code yX7_leftOfB cX7_leftOfB 4 (some .int)) ∈ wsL_law := wr_32 _ (List.mem_of_getElem? (i := 14) rfl)
theorem wq_759 : (Cond.methodLink RX7 251 yX7_place) ∈ wsL_law := wr_32 _ (List.mem_of_getElem? (i := 15) rfl)
theorem wq_760 : (Cond.instanceMethod yX7_place) ∈ wsL_law := wr_32 _ (List.mem_of_getElem? (i := 16) rfl)
theorem wq_761 : (Cond.selects RX7 yX7_place yX7_place) ∈ wsL_law := wr_32 _ (List.mem_of_getElem? (i := 17) rfl)
theorem wq_762 : (Cond.code yX7_place cX7_place 4 (some .int)) ∈ wsL_law := wr_32 _ (List.mem_of_getElem? (i := 18) rfl)
theorem wq_763 : (Cond.methodLink RX7 261 yX7_ends) ∈ wsL_law := wr_32 _ (List.mem_of_getElem? (i := 19) rfl)
theorem wq_764 : (Cond.instanceMethod yX7_ends) ∈ wsL_law := wr_32 _ (List.mem_of_getElem? (i := 20) rfl)
theorem wq_765 : (Cond.selects RX7 yX7_ends yX7_ends) ∈ wsL_law := wr_32 _ (List.mem_of_getElem? (i := 21) rfl)
theorem wq_766 : (Cond.code yX7_ends cX7_ends 4 (some .boolean)) ∈ wsL_law := wr_32 _ (List.mem_of_getElem? (i := 22) rfl)
theorem wq_767 : (Cond.methodLink RX7 264 yX7_seatedAll) ∈ wsL_law := wr_32 _ (List.mem_of_getElem? (i := 23) rfl)
theorem wr_33 : ∀ w ∈ wsL_law_r33, w ∈ wsL_law := by
  intro w h
  exact List.mem_append_left _ (List.mem_append_left _ (List.mem_append_left _ (List.mem_append_left _ (List.mem_append_left _ (List.mem_append_left _ (List.mem_append_left _ (List.mem_append_left _ (List.mem_append_left _ (List.mem_append_right _ (List.mem_append_right _ (List.mem_append_right _ (List.mem_append_right _ (List.mem_append_right _ (List.mem_append_right _ (List.mem_append_right _ (List.mem_append_right _ (List.mem_append_right _ (List.mem_append_right _ (List.mem_append_right _ (List.mem_append_right _ (List.mem_append_right _ (List.mem_append_right _ (List.mem_append_right _ (List.mem_append_right _ (List.mem_append_right _ (List.mem_append_right _ (List.mem_append_right _ (List.mem_append_right _ (List.mem_append_right _ (List.mem_append_right _ (List.mem_append_right _ (List.mem_append_right _ (List.mem_append_right _ (List.mem_append_right _ (List.mem_append_right _ (List.mem_append_right _ (List.mem_append_right _ (List.mem_append_right _ (List.mem_append_right _ (List.mem_append_right _ (List.mem_append_left _ h)))))))))))))))))))))))))))))))))))))))))
theorem wq_768 : (Cond.instanceMethod yX7_seatedAll) ∈ wsL_law := wr_33 _ (List.mem_of_getElem? (i := 0) rfl)
theorem wq_769 : (Cond.selects RX7 yX7_seatedAll yX7_seatedAll) ∈ wsL_law := wr_33 _ (List.mem_of_getElem? (i := 1) rfl)
theorem wq_770 : (Cond.code yX7_seatedAll cX7_seatedAll 3 (some .int)) ∈ wsL_law := wr_33 _ (List.mem_of_getElem? (i := 2) rfl)
theorem wq_771 : (Cond.methodLink RX7 267 yX7_strikesA) ∈ wsL_law := wr_33 _ (List.mem_of_getElem? (i := 3) rfl)
theorem wq_772 : (Cond.instanceMethod yX7_strikesA) ∈ wsL_law := wr_33 _ (List.mem_of_getElem? (i := 4) rfl)
theorem wq_773 : (Cond.selects RX7 yX7_strikesA yX7_strikesA) ∈ wsL_law := wr_33 _ (List.mem_of_getElem? (i := 5) rfl)
theorem wq_774 : (Cond.code yX7_strikesA cX7_strikesA 4 (some .boolean)) ∈ wsL_law := wr_33 _ (List.mem_of_getElem? (i := 6) rfl)
theorem wq_775 : (Cond.methodLink RX7 257 yX7_notByA) ∈ wsL_law := wr_33 _ (List.mem_of_getElem? (i := 7) rfl)
theorem wq_776 : (Cond.instanceMethod yX7_notByA) ∈ wsL_law := wr_33 _ (List.mem_of_getElem? (i := 8) rfl)
theorem wq_777 : (Cond.selects RX7 yX7_notByA yX7_notByA) ∈ wsL_law := wr_33 _ (List.mem_of_getElem? (i := 9) rfl)
theorem wq_778 : (Cond.code yX7_notByA cX7_notByA 4 (some .long)) ∈ wsL_law := wr_33 _ (List.mem_of_getElem? (i := 10) rfl)
theorem wq_779 : (Cond.methodLink RX7 254 yX7_strikesB) ∈ wsL_law := wr_33 _ (List.mem_of_getElem? (i := 11) rfl)
theorem wq_780 : (Cond.instanceMethod yX7_strikesB) ∈ wsL_law := wr_33 _ (List.mem_of_getElem? (i := 12) rfl)
theorem wq_781 : (Cond.selects RX7 yX7_strikesB yX7_strikesB) ∈ wsL_law := wr_33 _ (List.mem_of_getElem? (i := 13) rfl)
theorem wq_782 : (Cond.code yX7_strikesB cX7_strikesB 4 (some .boolean)) ∈ wsL_law := wr_33 _ (List.mem_of_getElem? (i := 14) rfl)
theorem wq_783 : (Cond.methodLink RL 113 yX6_come) ∈ wsL_law := wr_33 _ (List.mem_of_getElem? (i := 15) rfl)
theorem wq_784 : (Cond.instanceMethod yX6_come) ∈ wsL_law := wr_33 _ (List.mem_of_getElem? (i := 16) rfl)
theorem wq_785 : (Cond.selects RX6 yX6_come yX6_come) ∈ wsL_law := wr_33 _ (List.mem_of_getElem? (i := 17) rfl)
theorem wq_786 : (Cond.code yX6_come cX6_come 2 (some .int)) ∈ wsL_law := wr_33 _ (List.mem_of_getElem? (i := 18) rfl)
theorem wq_787 : (Cond.instanceMethod yX1_keptBack) ∈ wsL_law := wr_33 _ (List.mem_of_getElem? (i := 19) rfl)
theorem wq_788 : (Cond.selects RX1 yX1_keptBack yX1_keptBack) ∈ wsL_law := wr_33 _ (List.mem_of_getElem? (i := 20) rfl)
theorem wq_789 : (Cond.code yX1_keptBack cX1_keptBack 2 (some .int)) ∈ wsL_law := wr_33 _ (List.mem_of_getElem? (i := 21) rfl)
theorem wq_790 : (Cond.methodLink RL 116 yX7_come) ∈ wsL_law := wr_33 _ (List.mem_of_getElem? (i := 22) rfl)
theorem wq_791 : (Cond.instanceMethod yX7_come) ∈ wsL_law := wr_33 _ (List.mem_of_getElem? (i := 23) rfl)
theorem wr_34 : ∀ w ∈ wsL_law_r34, w ∈ wsL_law := by
  intro w h
  exact List.mem_append_left _ (List.mem_append_left _ (List.mem_append_left _ (List.mem_append_left _ (List.mem_append_left _ (List.mem_append_left _ (List.mem_append_left _ (List.mem_append_left _ (List.mem_append_left _ (List.mem_append_right _ (List.mem_append_right _ (List.mem_append_right _ (List.mem_append_right _ (List.mem_append_right _ (List.mem_append_right _ (List.mem_append_right _ (List.mem_append_right _ (List.mem_append_right _ (List.mem_append_right _ (List.mem_append_right _ (List.mem_append_right _ (List.mem_append_right _ (List.mem_append_right _ (List.mem_append_right _ (List.mem_append_right _ (List.mem_append_right _ (List.mem_append_right _ (List.mem_append_right _ (List.mem_append_right _ (List.mem_append_right _ (List.mem_append_right _ (List.mem_append_right _ (List.mem_append_right _ (List.mem_append_right _ (List.mem_append_right _ (List.mem_append_right _ (List.mem_append_right _ (List.mem_append_right _ (List.mem_append_right _ (List.mem_append_right _ (List.mem_append_right _ (List.mem_append_right _ (List.mem_append_left _ h))))))))))))))))))))))))))))))))))))))))))
theorem wq_792 : (Cond.selects RX7 yX7_come yX7_come) ∈ wsL_law := wr_34 _ (List.mem_of_getElem? (i := 0) rfl)
theorem wq_793 : (Cond.code yX7_come cX7_come 2 (some .int)) ∈ wsL_law := wr_34 _ (List.mem_of_getElem? (i := 1) rfl)
theorem wq_794 : (Cond.fieldLink RX7 273 "StruckJuryModel" "comeJury" "I") ∈ wsL_law := wr_34 _ (List.mem_of_getElem? (i := 2) rfl)
theorem wq_795 : (Cond.fieldLink RX7 276 "StruckJuryModel" "comeA" "I") ∈ wsL_law := wr_34 _ (List.mem_of_getElem? (i := 3) rfl)
theorem wq_796 : (Cond.fieldLink RX7 279 "StruckJuryModel" "comeB" "I") ∈ wsL_law := wr_34 _ (List.mem_of_getElem? (i := 4) rfl)
theorem wq_797 : (Cond.methodLink RX7 282 yX7_findCome) ∈ wsL_law := wr_34 _ (List.mem_of_getElem? (i := 5) rfl)
theorem wq_798 : (Cond.instanceMethod yX7_findCome) ∈ wsL_law := wr_34 _ (List.mem_of_getElem? (i := 6) rfl)
theorem wq_799 : (Cond.selects RX7 yX7_findCome yX7_findCome) ∈ wsL_law := wr_34 _ (List.mem_of_getElem? (i := 7) rfl)
theorem wq_800 : (Cond.code yX7_findCome cX7_findCome 4 none) ∈ wsL_law := wr_34 _ (List.mem_of_getElem? (i := 8) rfl)
theorem wq_801 : (Cond.methodLink RL 117 yX6_seldom) ∈ wsL_law := wr_34 _ (List.mem_of_getElem? (i := 9) rfl)
theorem wq_802 : (Cond.instanceMethod yX6_seldom) ∈ wsL_law := wr_34 _ (List.mem_of_getElem? (i := 10) rfl)
theorem wq_803 : (Cond.selects RX6 yX6_seldom yX6_seldom) ∈ wsL_law := wr_34 _ (List.mem_of_getElem? (i := 11) rfl)
theorem wq_804 : (Cond.code yX6_seldom cX6_seldom 5 (some .long)) ∈ wsL_law := wr_34 _ (List.mem_of_getElem? (i := 12) rfl)
theorem wq_805 : (Cond.methodLink RX6 225 yX6_ways) ∈ wsL_law := wr_34 _ (List.mem_of_getElem? (i := 13) rfl)
theorem wq_806 : (Cond.static yX6_ways) ∈ wsL_law := wr_34 _ (List.mem_of_getElem? (i := 14) rfl)
theorem wq_807 : (Cond.code yX6_ways cX6_ways 5 (some .long)) ∈ wsL_law := wr_34 _ (List.mem_of_getElem? (i := 15) rfl)
theorem wq_808 : (Cond.methodLink RX6 229 yX6_setsAsStruck) ∈ wsL_law := wr_34 _ (List.mem_of_getElem? (i := 16) rfl)
theorem wq_809 : (Cond.instanceMethod yX6_setsAsStruck) ∈ wsL_law := wr_34 _ (List.mem_of_getElem? (i := 17) rfl)
theorem wq_810 : (Cond.selects RX6 yX6_setsAsStruck yX6_setsAsStruck) ∈ wsL_law := wr_34 _ (List.mem_of_getElem? (i := 18) rfl)
theorem wq_811 : (Cond.code yX6_setsAsStruck cX6_setsAsStruck 10 (some .long)) ∈ wsL_law := wr_34 _ (List.mem_of_getElem? (i := 19) rfl)
theorem wq_812 : (Cond.instanceMethod yX0_ofSort) ∈ wsL_law := wr_34 _ (List.mem_of_getElem? (i := 20) rfl)
theorem wq_813 : (Cond.selects RX0 yX0_ofSort yX0_ofSort) ∈ wsL_law := wr_34 _ (List.mem_of_getElem? (i := 21) rfl)
theorem wq_814 : (Cond.code yX0_ofSort cX0_ofSort 4 (some .int)) ∈ wsL_law := wr_34 _ (List.mem_of_getElem? (i := 22) rfl)
theorem wq_815 : (Cond.instanceMethod yX0_sideAt) ∈ wsL_law := wr_34 _ (List.mem_of_getElem? (i := 23) rfl)
theorem wr_35 : ∀ w ∈ wsL_law_r35, w ∈ wsL_law := by
  intro w h
  exact List.mem_append_left _ (List.mem_append_left _ (List.mem_append_left _ (List.mem_append_left _ (List.mem_append_left _ (List.mem_append_left _ (List.mem_append_left _ (List.mem_append_left _ (List.mem_append_left _ (List.mem_append_right _ (List.mem_append_right _ (List.mem_append_right _ (List.mem_append_right _ (List.mem_append_right _ (List.mem_append_right _ (List.mem_append_right _ (List.mem_append_right _ (List.mem_append_right _ (List.mem_append_right _ (List.mem_append_right _ (List.mem_append_right _ (List.mem_append_right _ (List.mem_append_right _ (List.mem_append_right _ (List.mem_append_right _ (List.mem_append_right _ (List.mem_append_right _ (List.mem_append_right _ (List.mem_append_right _ (List.mem_append_right _ (List.mem_append_right _ (List.mem_append_right _ (List.mem_append_right _ (List.mem_append_right _ (List.mem_append_right _ (List.mem_append_right _ (List.mem_append_right _ (List.mem_append_right _ (List.mem_append_right _ (List.mem_append_right _ (List.mem_append_right _ (List.mem_append_right _ (List.mem_append_right _ (List.mem_append_left _ h)))))))))))))))))))))))))))))))))))))))))))
theorem wq_816 : (Cond.selects RX0 yX0_sideAt yX0_sideAt) ∈ wsL_law := wr_35 _ (List.mem_of_getElem? (i := 0) rfl)
theorem wq_817 : (Cond.code yX0_sideAt cX0_sideAt 2 (some .int)) ∈ wsL_law := wr_35 _ (List.mem_of_getElem? (i := 1) rfl)
theorem wq_818 : (Cond.methodLink RX0 48 yX0_strikesOf) ∈ wsL_law := wr_35 _ (List.mem_of_getElem? (i := 2) rfl)
theorem wq_819 : (Cond.methodLink RL 120 yX7_seldom) ∈ wsL_law := wr_35 _ (List.mem_of_getElem? (i := 3) rfl)
theorem wq_820 : (Cond.instanceMethod yX7_seldom) ∈ wsL_law := wr_35 _ (List.mem_of_getElem? (i := 4) rfl)
theorem wq_821 : (Cond.selects RX7 yX7_seldom yX7_seldom) ∈ wsL_law := wr_35 _ (List.mem_of_getElem? (i := 5) rfl)
theorem wq_822 : (Cond.code yX7_seldom cX7_seldom 8 (some .long)) ∈ wsL_law := wr_35 _ (List.mem_of_getElem? (i := 6) rfl)
theorem wq_823 : (Cond.methodLink RX7 285 yX7_ways) ∈ wsL_law := wr_35 _ (List.mem_of_getElem? (i := 7) rfl)
theorem wq_824 : (Cond.static yX7_ways) ∈ wsL_law := wr_35 _ (List.mem_of_getElem? (i := 8) rfl)
theorem wq_825 : (Cond.code yX7_ways cX7_ways 5 (some .long)) ∈ wsL_law := wr_35 _ (List.mem_of_getElem? (i := 9) rfl)
theorem wq_826 : (Cond.methodLink RL 121 yX6_finest) ∈ wsL_law := wr_35 _ (List.mem_of_getElem? (i := 10) rfl)
theorem wq_827 : (Cond.instanceMethod yX6_finest) ∈ wsL_law := wr_35 _ (List.mem_of_getElem? (i := 11) rfl)
theorem wq_828 : (Cond.selects RX6 yX6_finest yX6_finest) ∈ wsL_law := wr_35 _ (List.mem_of_getElem? (i := 12) rfl)
theorem wq_829 : (Cond.code yX6_finest cX6_finest 7 (some .int)) ∈ wsL_law := wr_35 _ (List.mem_of_getElem? (i := 13) rfl)
theorem wq_830 : (Cond.instanceMethod yX5_juryAtLast) ∈ wsL_law := wr_35 _ (List.mem_of_getElem? (i := 14) rfl)
theorem wq_831 : (Cond.selects RX5 yX5_juryAtLast yX5_juryAtLast) ∈ wsL_law := wr_35 _ (List.mem_of_getElem? (i := 15) rfl)
theorem wq_832 : (Cond.code yX5_juryAtLast cX5_juryAtLast 3 (some .int)) ∈ wsL_law := wr_35 _ (List.mem_of_getElem? (i := 16) rfl)
theorem wq_833 : (Cond.methodLink RX5 81 yX5_strikeFrom) ∈ wsL_law := wr_35 _ (List.mem_of_getElem? (i := 17) rfl)
theorem wq_834 : (Cond.methodLink RL 124 yX7_finest) ∈ wsL_law := wr_35 _ (List.mem_of_getElem? (i := 18) rfl)
theorem wq_835 : (Cond.instanceMethod yX7_finest) ∈ wsL_law := wr_35 _ (List.mem_of_getElem? (i := 19) rfl)
theorem wq_836 : (Cond.selects RX7 yX7_finest yX7_finest) ∈ wsL_law := wr_35 _ (List.mem_of_getElem? (i := 20) rfl)
theorem wq_837 : (Cond.code yX7_finest cX7_finest 7 (some .int)) ∈ wsL_law := wr_35 _ (List.mem_of_getElem? (i := 21) rfl)
theorem wq_838 : (Cond.methodLink RL 125 yX6_lot) ∈ wsL_law := wr_35 _ (List.mem_of_getElem? (i := 22) rfl)
theorem wq_839 : (Cond.instanceMethod yX6_lot) ∈ wsL_law := wr_35 _ (List.mem_of_getElem? (i := 23) rfl)
theorem wr_36 : ∀ w ∈ wsL_law_r36, w ∈ wsL_law := by
  intro w h
  exact List.mem_append_left _ (List.mem_append_left _ (List.mem_append_left _ (List.mem_append_left _ (List.mem_append_left _ (List.mem_append_left _ (List.mem_append_left _ (List.mem_append_left _ (List.mem_append_left _ (List.mem_append_right _ (List.mem_append_right _ (List.mem_append_right _ (List.mem_append_right _ (List.mem_append_right _ (List.mem_append_right _ (List.mem_append_right _ (List.mem_append_right _ (List.mem_append_right _ (List.mem_append_right _ (List.mem_append_right _ (List.mem_append_right _ (List.mem_append_right _ (List.mem_append_right _ (List.mem_append_right _ (List.mem_append_right _ (List.mem_append_right _ (List.mem_append_right _ (List.mem_append_right _ (List.mem_append_right _ (List.mem_append_right _ (List.mem_append_right _ (List.mem_append_right _ (List.mem_append_right _ (List.mem_append_right _ (List.mem_append_right _ (List.mem_append_right _ (List.mem_append_right _ (List.mem_append_right _ (List.mem_append_right _ (List.mem_append_right _ (List.mem_append_right _ (List.mem_append_right _ (List.mem_append_right _ (List.mem_append_right _ (List.mem_append_left _ h))))))))))))))))))))))))))))))))))))))))))))
theorem wq_840 : (Cond.selects RX6 yX6_lot yX6_lot) ∈ wsL_law := wr_36 _ (List.mem_of_getElem? (i := 0) rfl)
theorem wq_841 : (Cond.code yX6_lot cX6_lot 3 (some .long)) ∈ wsL_law := wr_36 _ (List.mem_of_getElem? (i := 1) rfl)
theorem wq_842 : (Cond.instanceMethod yX2_rightOfAll) ∈ wsL_law := wr_36 _ (List.mem_of_getElem? (i := 2) rfl)
theorem wq_843 : (Cond.selects RX2 yX2_rightOfAll yX2_rightOfAll) ∈ wsL_law := wr_36 _ (List.mem_of_getElem? (i := 3) rfl)
theorem wq_844 : (Cond.code yX2_rightOfAll cX2_rightOfAll 4 (some .long)) ∈ wsL_law := wr_36 _ (List.mem_of_getElem? (i := 4) rfl)
theorem wq_845 : (Cond.methodLink RX2 67 yX2_spreadOutAll) ∈ wsL_law := wr_36 _ (List.mem_of_getElem? (i := 5) rfl)
theorem wq_846 : (Cond.instanceMethod yX2_spreadOutAll) ∈ wsL_law := wr_36 _ (List.mem_of_getElem? (i := 6) rfl)
theorem wq_847 : (Cond.selects RX2 yX2_spreadOutAll yX2_spreadOutAll) ∈ wsL_law := wr_36 _ (List.mem_of_getElem? (i := 7) rfl)
theorem wq_848 : (Cond.code yX2_spreadOutAll cX2_spreadOutAll 8 none) ∈ wsL_law := wr_36 _ (List.mem_of_getElem? (i := 8) rfl)
theorem wq_849 : (Cond.methodLink RL 128 yX7_lot) ∈ wsL_law := wr_36 _ (List.mem_of_getElem? (i := 9) rfl)
theorem wq_850 : (Cond.instanceMethod yX7_lot) ∈ wsL_law := wr_36 _ (List.mem_of_getElem? (i := 10) rfl)
theorem wq_851 : (Cond.selects RX7 yX7_lot yX7_lot) ∈ wsL_law := wr_36 _ (List.mem_of_getElem? (i := 11) rfl)
theorem wq_852 : (Cond.code yX7_lot cX7_lot 5 (some .long)) ∈ wsL_law := wr_36 _ (List.mem_of_getElem? (i := 12) rfl)
theorem wq_853 : (Cond.methodLink RL 129 yX6_trade) ∈ wsL_law := wr_36 _ (List.mem_of_getElem? (i := 13) rfl)
theorem wq_854 : (Cond.instanceMethod yX6_trade) ∈ wsL_law := wr_36 _ (List.mem_of_getElem? (i := 14) rfl)
theorem wq_855 : (Cond.selects RX6 yX6_trade yX6_trade) ∈ wsL_law := wr_36 _ (List.mem_of_getElem? (i := 15) rfl)
theorem wq_856 : (Cond.code yX6_trade cX6_trade 5 (some .int)) ∈ wsL_law := wr_36 _ (List.mem_of_getElem? (i := 16) rfl)
theorem wq_857 : (Cond.methodLink RL 132 yX7_trade) ∈ wsL_law := wr_36 _ (List.mem_of_getElem? (i := 17) rfl)
theorem wq_858 : (Cond.instanceMethod yX7_trade) ∈ wsL_law := wr_36 _ (List.mem_of_getElem? (i := 18) rfl)
theorem wq_859 : (Cond.selects RX7 yX7_trade yX7_trade) ∈ wsL_law := wr_36 _ (List.mem_of_getElem? (i := 19) rfl)
theorem wq_860 : (Cond.code yX7_trade cX7_trade 5 (some .int)) ∈ wsL_law := wr_36 _ (List.mem_of_getElem? (i := 20) rfl)
theorem wq_861 : (Cond.methodLink RL 133 yX6_wrongly) ∈ wsL_law := wr_36 _ (List.mem_of_getElem? (i := 21) rfl)
theorem wq_862 : (Cond.instanceMethod yX6_wrongly) ∈ wsL_law := wr_36 _ (List.mem_of_getElem? (i := 22) rfl)
theorem wq_863 : (Cond.selects RX6 yX6_wrongly yX6_wrongly) ∈ wsL_law := wr_36 _ (List.mem_of_getElem? (i := 23) rfl)
theorem wr_37 : ∀ w ∈ wsL_law_r37, w ∈ wsL_law := by
  intro w h
  exact List.mem_append_left _ (List.mem_append_left _ (List.mem_append_left _ (List.mem_append_left _ (List.mem_append_left _ (List.mem_append_left _ (List.mem_append_left _ (List.mem_append_left _ (List.mem_append_left _ (List.mem_append_right _ (List.mem_append_right _ (List.mem_append_right _ (List.mem_append_right _ (List.mem_append_right _ (List.mem_append_right _ (List.mem_append_right _ (List.mem_append_right _ (List.mem_append_right _ (List.mem_append_right _ (List.mem_append_right _ (List.mem_append_right _ (List.mem_append_right _ (List.mem_append_right _ (List.mem_append_right _ (List.mem_append_right _ (List.mem_append_right _ (List.mem_append_right _ (List.mem_append_right _ (List.mem_append_right _ (List.mem_append_right _ (List.mem_append_right _ (List.mem_append_right _ (List.mem_append_right _ (List.mem_append_right _ (List.mem_append_right _ (List.mem_append_right _ (List.mem_append_right _ (List.mem_append_right _ (List.mem_append_right _ (List.mem_append_right _ (List.mem_append_right _ (List.mem_append_right _ (List.mem_append_right _ (List.mem_append_right _ (List.mem_append_right _ (List.mem_append_left _ h)))))))))))))))))))))))))))))))))))))))))))))
theorem wq_864 : (Cond.code yX6_wrongly cX6_wrongly 6 (some .long)) ∈ wsL_law := wr_37 _ (List.mem_of_getElem? (i := 0) rfl)
theorem wq_865 : (Cond.instanceMethod yX2_lean) ∈ wsL_law := wr_37 _ (List.mem_of_getElem? (i := 1) rfl)
theorem wq_866 : (Cond.selects RX2 yX2_lean yX2_lean) ∈ wsL_law := wr_37 _ (List.mem_of_getElem? (i := 2) rfl)
theorem wq_867 : (Cond.code yX2_lean cX2_lean 4 none) ∈ wsL_law := wr_37 _ (List.mem_of_getElem? (i := 3) rfl)
theorem wq_868 : (Cond.methodLink RX6 249 yX6_juryOfTwoMinds) ∈ wsL_law := wr_37 _ (List.mem_of_getElem? (i := 4) rfl)
theorem wq_869 : (Cond.instanceMethod yX6_juryOfTwoMinds) ∈ wsL_law := wr_37 _ (List.mem_of_getElem? (i := 5) rfl)
theorem wq_870 : (Cond.selects RX6 yX6_juryOfTwoMinds yX6_juryOfTwoMinds) ∈ wsL_law := wr_37 _ (List.mem_of_getElem? (i := 6) rfl)
theorem wq_871 : (Cond.code yX6_juryOfTwoMinds cX6_juryOfTwoMinds 6 (some .int)) ∈ wsL_law := wr_37 _ (List.mem_of_getElem? (i := 7) rfl)
theorem wq_872 : (Cond.methodLink RL 136 yX7_wrongly) ∈ wsL_law := wr_37 _ (List.mem_of_getElem? (i := 8) rfl)
theorem wq_873 : (Cond.instanceMethod yX7_wrongly) ∈ wsL_law := wr_37 _ (List.mem_of_getElem? (i := 9) rfl)
theorem wq_874 : (Cond.selects RX7 yX7_wrongly yX7_wrongly) ∈ wsL_law := wr_37 _ (List.mem_of_getElem? (i := 10) rfl)
theorem wq_875 : (Cond.code yX7_wrongly cX7_wrongly 12 (some .long)) ∈ wsL_law := wr_37 _ (List.mem_of_getElem? (i := 11) rfl)
theorem wq_876 : (Cond.methodLink RX7 289 yX7_holdsWrong) ∈ wsL_law := wr_37 _ (List.mem_of_getElem? (i := 12) rfl)
theorem wq_877 : (Cond.instanceMethod yX7_holdsWrong) ∈ wsL_law := wr_37 _ (List.mem_of_getElem? (i := 13) rfl)
theorem wq_878 : (Cond.selects RX7 yX7_holdsWrong yX7_holdsWrong) ∈ wsL_law := wr_37 _ (List.mem_of_getElem? (i := 14) rfl)
theorem wq_879 : (Cond.code yX7_holdsWrong cX7_holdsWrong 5 none) ∈ wsL_law := wr_37 _ (List.mem_of_getElem? (i := 15) rfl)
theorem wq_880 : (Cond.methodLink RL 137 yX6_asked) ∈ wsL_law := wr_37 _ (List.mem_of_getElem? (i := 16) rfl)
theorem wq_881 : (Cond.instanceMethod yX6_asked) ∈ wsL_law := wr_37 _ (List.mem_of_getElem? (i := 17) rfl)
theorem wq_882 : (Cond.selects RX6 yX6_asked yX6_asked) ∈ wsL_law := wr_37 _ (List.mem_of_getElem? (i := 18) rfl)
theorem wq_883 : (Cond.code yX6_asked cX6_asked 3 (some .long)) ∈ wsL_law := wr_37 _ (List.mem_of_getElem? (i := 19) rfl)
theorem wq_884 : (Cond.constantLong RX6 255 (2)) ∈ wsL_law := wr_37 _ (List.mem_of_getElem? (i := 20) rfl)
theorem wq_885 : (Cond.methodLink RX6 252 yX6_valueLeaning) ∈ wsL_law := wr_37 _ (List.mem_of_getElem? (i := 21) rfl)
theorem wq_886 : (Cond.instanceMethod yX6_valueLeaning) ∈ wsL_law := wr_37 _ (List.mem_of_getElem? (i := 22) rfl)
theorem wq_887 : (Cond.selects RX6 yX6_valueLeaning yX6_valueLeaning) ∈ wsL_law := wr_37 _ (List.mem_of_getElem? (i := 23) rfl)
theorem wr_38 : ∀ w ∈ wsL_law_r38, w ∈ wsL_law := by
  intro w h
  exact List.mem_append_left _ (List.mem_append_left _ (List.mem_append_left _ (List.mem_append_left _ (List.mem_append_left _ (List.mem_append_left _ (List.mem_append_left _ (List.mem_append_left _ (List.mem_append_left _ (List.mem_append_right _ (List.mem_append_right _ (List.mem_append_right _ (List.mem_append_right _ (List.mem_append_right _ (List.mem_append_right _ (List.mem_append_right _ (List.mem_append_right _ (List.mem_append_right _ (List.mem_append_right _ (List.mem_append_right _ (List.mem_append_right _ (List.mem_append_right _ (List.mem_append_right _ (List.mem_append_right _ (List.mem_append_right _ (List.mem_append_right _ (List.mem_append_right _ (List.mem_append_right _ (List.mem_append_right _ (List.mem_append_right _ (List.mem_append_right _ (List.mem_append_right _ (List.mem_append_right _ (List.mem_append_right _ (List.mem_append_right _ (List.mem_append_right _ (List.mem_append_right _ (List.mem_append_right _ (List.mem_append_right _ (List.mem_append_right _ (List.mem_append_right _ (List.mem_append_right _ (List.mem_append_right _ (List.mem_append_right _ (List.mem_append_right _ (List.mem_append_right _ (List.mem_append_left _ h))))))))))))))))))))))))))))))))))))))))))))))
theorem wq_888 : (Cond.code yX6_valueLeaning cX6_valueLeaning 4 (some .long)) ∈ wsL_law := wr_38 _ (List.mem_of_getElem? (i := 0) rfl)
theorem wq_889 : (Cond.methodLink RX6 287 yX6_heldLean) ∈ wsL_law := wr_38 _ (List.mem_of_getElem? (i := 1) rfl)
theorem wq_890 : (Cond.static yX6_heldLean) ∈ wsL_law := wr_38 _ (List.mem_of_getElem? (i := 2) rfl)
theorem wq_891 : (Cond.code yX6_heldLean cX6_heldLean 1 (some .int)) ∈ wsL_law := wr_38 _ (List.mem_of_getElem? (i := 3) rfl)
theorem wq_892 : (Cond.methodLink RX6 290 Lib.Math.min.name) ∈ wsL_law := wr_38 _ (List.mem_of_getElem? (i := 4) rfl)
theorem wq_893 : (Cond.methodLink RX6 293 Lib.Math.max.name) ∈ wsL_law := wr_38 _ (List.mem_of_getElem? (i := 5) rfl)
theorem wq_894 : (Cond.methodLink RL 140 yX7_asked) ∈ wsL_law := wr_38 _ (List.mem_of_getElem? (i := 6) rfl)
theorem wq_895 : (Cond.instanceMethod yX7_asked) ∈ wsL_law := wr_38 _ (List.mem_of_getElem? (i := 7) rfl)
theorem wq_896 : (Cond.selects RX7 yX7_asked yX7_asked) ∈ wsL_law := wr_38 _ (List.mem_of_getElem? (i := 8) rfl)
theorem wq_897 : (Cond.code yX7_asked cX7_asked 8 (some .long)) ∈ wsL_law := wr_38 _ (List.mem_of_getElem? (i := 9) rfl)
theorem wq_898 : (Cond.constantLong RX7 295 (2)) ∈ wsL_law := wr_38 _ (List.mem_of_getElem? (i := 10) rfl)
theorem wq_899 : (Cond.methodLink RX7 292 yX7_turnsWith) ∈ wsL_law := wr_38 _ (List.mem_of_getElem? (i := 11) rfl)
theorem wq_900 : (Cond.instanceMethod yX7_turnsWith) ∈ wsL_law := wr_38 _ (List.mem_of_getElem? (i := 12) rfl)
theorem wq_901 : (Cond.selects RX7 yX7_turnsWith yX7_turnsWith) ∈ wsL_law := wr_38 _ (List.mem_of_getElem? (i := 13) rfl)
theorem wq_902 : (Cond.code yX7_turnsWith cX7_turnsWith 5 (some .long)) ∈ wsL_law := wr_38 _ (List.mem_of_getElem? (i := 14) rfl)
theorem wq_903 : (Cond.methodLink RL 141 yX6_image) ∈ wsL_law := wr_38 _ (List.mem_of_getElem? (i := 15) rfl)
theorem wq_904 : (Cond.instanceMethod yX6_image) ∈ wsL_law := wr_38 _ (List.mem_of_getElem? (i := 16) rfl)
theorem wq_905 : (Cond.selects RX6 yX6_image yX6_image) ∈ wsL_law := wr_38 _ (List.mem_of_getElem? (i := 17) rfl)
theorem wq_906 : (Cond.code yX6_image cX6_image 1 (some .int)) ∈ wsL_law := wr_38 _ (List.mem_of_getElem? (i := 18) rfl)
theorem wq_907 : (Cond.fieldLink RX6 260 "StruckJury" "isKept" "Z") ∈ wsL_law := wr_38 _ (List.mem_of_getElem? (i := 19) rfl)
theorem wq_908 : (Cond.instanceMethod yX0_copy) ∈ wsL_law := wr_38 _ (List.mem_of_getElem? (i := 20) rfl)
theorem wq_909 : (Cond.selects RX0 yX0_copy yX0_copy) ∈ wsL_law := wr_38 _ (List.mem_of_getElem? (i := 21) rfl)
theorem wq_910 : (Cond.code yX0_copy cX0_copy 2 none) ∈ wsL_law := wr_38 _ (List.mem_of_getElem? (i := 22) rfl)
theorem wq_911 : (Cond.methodLink RX0 24 arraycopyName) ∈ wsL_law := wr_38 _ (List.mem_of_getElem? (i := 23) rfl)
theorem wr_39 : ∀ w ∈ wsL_law_r39, w ∈ wsL_law := by
  intro w h
  exact List.mem_append_left _ (List.mem_append_left _ (List.mem_append_left _ (List.mem_append_left _ (List.mem_append_left _ (List.mem_append_left _ (List.mem_append_left _ (List.mem_append_left _ (List.mem_append_left _ (List.mem_append_right _ (List.mem_append_right _ (List.mem_append_right _ (List.mem_append_right _ (List.mem_append_right _ (List.mem_append_right _ (List.mem_append_right _ (List.mem_append_right _ (List.mem_append_right _ (List.mem_append_right _ (List.mem_append_right _ (List.mem_append_right _ (List.mem_append_right _ (List.mem_append_right _ (List.mem_append_right _ (List.mem_append_right _ (List.mem_append_right _ (List.mem_append_right _ (List.mem_append_right _ (List.mem_append_right _ (List.mem_append_right _ (List.mem_append_right _ (List.mem_append_right _ (List.mem_append_right _ (List.mem_append_right _ (List.mem_append_right _ (List.mem_append_right _ (List.mem_append_right _ (List.mem_append_right _ (List.mem_append_right _ (List.mem_append_right _ (List.mem_append_right _ (List.mem_append_right _ (List.mem_append_right _ (List.mem_append_right _ (List.mem_append_right _ (List.mem_append_right _ (List.mem_append_right _ (List.mem_append_left _ h)))))))))))))))))))))))))))))))))))))))))))))))
theorem wq_912 : (Cond.native arraycopyName) ∈ wsL_law := wr_39 _ (List.mem_of_getElem? (i := 0) rfl)
theorem wq_913 : (Cond.static arraycopyName) ∈ wsL_law := wr_39 _ (List.mem_of_getElem? (i := 1) rfl)
theorem wq_914 : (Cond.initialized "java/lang/System") ∈ wsL_law := wr_39 _ (List.mem_of_getElem? (i := 2) rfl)
theorem wq_915 : (Cond.methodLink RL 144 yX7_image) ∈ wsL_law := wr_39 _ (List.mem_of_getElem? (i := 3) rfl)
theorem wq_916 : (Cond.instanceMethod yX7_image) ∈ wsL_law := wr_39 _ (List.mem_of_getElem? (i := 4) rfl)
theorem wq_917 : (Cond.selects RX7 yX7_image yX7_image) ∈ wsL_law := wr_39 _ (List.mem_of_getElem? (i := 5) rfl)
theorem wq_918 : (Cond.code yX7_image cX7_image 2 (some .int)) ∈ wsL_law := wr_39 _ (List.mem_of_getElem? (i := 6) rfl)
theorem wq_919 : (Cond.fieldLink RX7 297 "StruckJuryModel" "keptPeople" "I") ∈ wsL_law := wr_39 _ (List.mem_of_getElem? (i := 7) rfl)
theorem wq_920 : (Cond.fieldLink RX7 300 "StruckJuryModel" "hasImage" "Z") ∈ wsL_law := wr_39 _ (List.mem_of_getElem? (i := 8) rfl)
theorem wq_921 : (Cond.methodLink RL 145 yX6_restore) ∈ wsL_law := wr_39 _ (List.mem_of_getElem? (i := 9) rfl)
theorem wq_922 : (Cond.instanceMethod yX6_restore) ∈ wsL_law := wr_39 _ (List.mem_of_getElem? (i := 10) rfl)
theorem wq_923 : (Cond.selects RX6 yX6_restore yX6_restore) ∈ wsL_law := wr_39 _ (List.mem_of_getElem? (i := 11) rfl)
theorem wq_924 : (Cond.code yX6_restore cX6_restore 1 (some .int)) ∈ wsL_law := wr_39 _ (List.mem_of_getElem? (i := 12) rfl)
theorem wq_925 : (Cond.methodLink RL 148 yX7_restore) ∈ wsL_law := wr_39 _ (List.mem_of_getElem? (i := 13) rfl)
theorem wq_926 : (Cond.instanceMethod yX7_restore) ∈ wsL_law := wr_39 _ (List.mem_of_getElem? (i := 14) rfl)
theorem wq_927 : (Cond.selects RX7 yX7_restore yX7_restore) ∈ wsL_law := wr_39 _ (List.mem_of_getElem? (i := 15) rfl)
theorem wq_928 : (Cond.code yX7_restore cX7_restore 2 (some .int)) ∈ wsL_law := wr_39 _ (List.mem_of_getElem? (i := 16) rfl)
theorem wq_929 : (Cond.methodLink RL 149 yX6_count) ∈ wsL_law := wr_39 _ (List.mem_of_getElem? (i := 17) rfl)
theorem wq_930 : (Cond.instanceMethod yX6_count) ∈ wsL_law := wr_39 _ (List.mem_of_getElem? (i := 18) rfl)
theorem wq_931 : (Cond.selects RX6 yX6_count yX6_count) ∈ wsL_law := wr_39 _ (List.mem_of_getElem? (i := 19) rfl)
theorem wq_932 : (Cond.code yX6_count cX6_count 2 (some .int)) ∈ wsL_law := wr_39 _ (List.mem_of_getElem? (i := 20) rfl)
theorem wq_933 : (Cond.methodLink RL 152 yX7_count) ∈ wsL_law := wr_39 _ (List.mem_of_getElem? (i := 21) rfl)
theorem wq_934 : (Cond.instanceMethod yX7_count) ∈ wsL_law := wr_39 _ (List.mem_of_getElem? (i := 22) rfl)
theorem wq_935 : (Cond.selects RX7 yX7_count yX7_count) ∈ wsL_law := wr_39 _ (List.mem_of_getElem? (i := 23) rfl)
theorem wr_40 : ∀ w ∈ wsL_law_r40, w ∈ wsL_law := by
  intro w h
  exact List.mem_append_left _ (List.mem_append_left _ (List.mem_append_left _ (List.mem_append_left _ (List.mem_append_left _ (List.mem_append_left _ (List.mem_append_left _ (List.mem_append_left _ (List.mem_append_left _ (List.mem_append_right _ (List.mem_append_right _ (List.mem_append_right _ (List.mem_append_right _ (List.mem_append_right _ (List.mem_append_right _ (List.mem_append_right _ (List.mem_append_right _ (List.mem_append_right _ (List.mem_append_right _ (List.mem_append_right _ (List.mem_append_right _ (List.mem_append_right _ (List.mem_append_right _ (List.mem_append_right _ (List.mem_append_right _ (List.mem_append_right _ (List.mem_append_right _ (List.mem_append_right _ (List.mem_append_right _ (List.mem_append_right _ (List.mem_append_right _ (List.mem_append_right _ (List.mem_append_right _ (List.mem_append_right _ (List.mem_append_right _ (List.mem_append_right _ (List.mem_append_right _ (List.mem_append_right _ (List.mem_append_right _ (List.mem_append_right _ (List.mem_append_right _ (List.mem_append_right _ (List.mem_append_right _ (List.mem_append_right _ (List.mem_append_right _ (List.mem_append_right _ (List.mem_append_right _ (List.mem_append_right _ (h))))))))))))))))))))))))))))))))))))))))))))))))
theorem wq_936 : (Cond.code yX7_count cX7_count 4 (some .int)) ∈ wsL_law := wr_40 _ (List.mem_of_getElem? (i := 0) rfl)
def nestK : Cond → Bool
  | .fieldLinkNest .. => true
  | .methodLinkNest .. => true
  | _ => false
def nestW : List Cond := [Cond.methodLinkNest "StruckJury" 11 ({ cls := "StruckJury$Bench", name := "<init>", desc := "()V" } : Jvm.MethodName) "StruckJury",
  Cond.fieldLinkNest "StruckJury$Minds" 36 "StruckJury$Bench" "leans0" "[I" "StruckJury",
  Cond.fieldLinkNest "StruckJury" 83 "StruckJury$Bench" "leans0" "[I" "StruckJury",
  Cond.fieldLinkNest "StruckJury$Text" 65 "StruckJury$Bench" "leans0" "[I" "StruckJury",
  Cond.fieldLinkNest "StruckJury" 86 "StruckJury$Bench" "leans1" "[I" "StruckJury",
  Cond.fieldLinkNest "StruckJury$Minds" 37 "StruckJury$Bench" "leans1" "[I" "StruckJury",
  Cond.fieldLinkNest "StruckJury$Text" 70 "StruckJury$Bench" "leans1" "[I" "StruckJury",
  Cond.fieldLinkNest "StruckJury$Minds" 33 "StruckJury$Bench" "sortOf" "[I" "StruckJury",
  Cond.fieldLinkNest "StruckJury" 242 "StruckJury$Bench" "sortOf" "[I" "StruckJury",
  Cond.fieldLinkNest "StruckJury$Minds" 44 "StruckJury$Bench" "terms" "[I" "StruckJury",
  Cond.fieldLinkNest "StruckJury" 110 "StruckJury$Bench" "terms" "[I" "StruckJury",
  Cond.fieldLinkNest "StruckJury$Text" 90 "StruckJury$Bench" "terms" "[I" "StruckJury",
  Cond.fieldLinkNest "StruckJury$Minds" 27 "StruckJury$Bench" "people" "I" "StruckJury",
  Cond.fieldLinkNest "StruckJury" 96 "StruckJury$Bench" "people" "I" "StruckJury",
  Cond.fieldLinkNest "StruckJury$Text" 73 "StruckJury$Bench" "people" "I" "StruckJury",
  Cond.methodLinkNest "StruckJury" 21 ({ cls := "StruckJury$Text", name := "<init>", desc := "()V" } : Jvm.MethodName) "StruckJury",
  Cond.fieldLinkNest "StruckJury" 113 "StruckJury$Text" "length" "I" "StruckJury",
  Cond.methodLinkNest "StruckJury" 35 ({ cls := "StruckJury$Minds", name := "<init>", desc := "()V" } : Jvm.MethodName) "StruckJury",
  Cond.fieldLinkNest "StruckJury$Turns" 29 "StruckJury$Minds" "needed" "I" "StruckJury",
  Cond.methodLinkNest "StruckJury" 45 ({ cls := "StruckJury$Turns", name := "<init>", desc := "([J)V" } : Jvm.MethodName) "StruckJury",
  Cond.methodLinkNest "StruckJury" 57 ({ cls := "StruckJury$Paper", name := "<init>", desc := "(LStruckJury$Turns;[J)V" } : Jvm.MethodName) "StruckJury",
  Cond.methodLinkNest "StruckJury" 66 ({ cls := "StruckJury$Coming", name := "<init>", desc := "(LStruckJury$Turns;[J)V" } : Jvm.MethodName) "StruckJury",
  Cond.methodLinkNest "StruckJury" 71 ({ cls := "StruckJury$Minds", name := "take", desc := "(LStruckJury$Bench;)V" } : Jvm.MethodName) "StruckJury",
  Cond.methodLinkNest "StruckJury$Minds" 38 ({ cls := "StruckJury$Bench", name := "needed", desc := "()I" } : Jvm.MethodName) "StruckJury",
  Cond.methodLinkNest "StruckJury" 100 ({ cls := "StruckJury$Bench", name := "add", desc := "(I)V" } : Jvm.MethodName) "StruckJury",
  Cond.methodLinkNest "StruckJury" 116 ({ cls := "StruckJury$Text", name := "append", desc := "(IJ)V" } : Jvm.MethodName) "StruckJury",
  Cond.methodLinkNest "StruckJury" 120 ({ cls := "StruckJury$Text", name := "readInto", desc := "(LStruckJury$Bench;)I" } : Jvm.MethodName) "StruckJury",
  Cond.methodLinkNest "StruckJury$Text" 80 ({ cls := "StruckJury$Bench", name := "add", desc := "(I)V" } : Jvm.MethodName) "StruckJury",
  Cond.fieldLinkNest "StruckJury$Text" 84 "StruckJury" "LEAST" "[I" "StruckJury",
  Cond.fieldLinkNest "StruckJury$Text" 87 "StruckJury" "GREATEST" "[I" "StruckJury",
  Cond.methodLinkNest "StruckJury" 266 ({ cls := "StruckJury$Bench", name := "everyone", desc := "()I" } : Jvm.MethodName) "StruckJury",
  Cond.methodLinkNest "StruckJury$Bench" 44 ({ cls := "StruckJury", name := "setOfFirst", desc := "(I)I" } : Jvm.MethodName) "StruckJury",
  Cond.methodLinkNest "StruckJury" 209 ({ cls := "StruckJury$Bench", name := "needed", desc := "()I" } : Jvm.MethodName) "StruckJury",
  Cond.methodLinkNest "StruckJury" 131 ({ cls := "StruckJury$Minds", name := "chanceOf", desc := "(I)J" } : Jvm.MethodName) "StruckJury",
  Cond.methodLinkNest "StruckJury" 134 ({ cls := "StruckJury$Minds", name := "rightOf", desc := "(I)J" } : Jvm.MethodName) "StruckJury",
  Cond.methodLinkNest "StruckJury" 140 ({ cls := "StruckJury$Turns", name := "lookBack", desc := "(LStruckJury$Minds;IIII)V" } : Jvm.MethodName) "StruckJury",
  Cond.methodLinkNest "StruckJury$Turns" 53 ({ cls := "StruckJury$Minds", name := "areAlike", desc := "(II)Z" } : Jvm.MethodName) "StruckJury",
  Cond.methodLinkNest "StruckJury$Turns" 60 ({ cls := "StruckJury$Minds", name := "chanceOf", desc := "(I)J" } : Jvm.MethodName) "StruckJury",
  Cond.methodLinkNest "StruckJury" 144 ({ cls := "StruckJury$Turns", name := "valueOf", desc := "(I)J" } : Jvm.MethodName) "StruckJury",
  Cond.methodLinkNest "StruckJury" 147 ({ cls := "StruckJury$Turns", name := "strikeFrom", desc := "(I)I" } : Jvm.MethodName) "StruckJury",
  Cond.methodLinkNest "StruckJury" 150 ({ cls := "StruckJury$Bench", name := "called", desc := "()I" } : Jvm.MethodName) "StruckJury",
  Cond.methodLinkNest "StruckJury" 164 ({ cls := "StruckJury$Bench", name := "calledSet", desc := "()I" } : Jvm.MethodName) "StruckJury",
  Cond.methodLinkNest "StruckJury" 182 ({ cls := "StruckJury$Bench", name := "strikesOf", desc := "(I)I" } : Jvm.MethodName) "StruckJury",
  Cond.methodLinkNest "StruckJury" 158 ({ cls := "StruckJury$Bench", name := "strikes", desc := "()I" } : Jvm.MethodName) "StruckJury",
  Cond.methodLinkNest "StruckJury" 278 ({ cls := "StruckJury$Paper", name := "weigh", desc := "(LStruckJury$Bench;)V" } : Jvm.MethodName) "StruckJury",
  Cond.methodLinkNest "StruckJury$Paper" 32 ({ cls := "StruckJury$Bench", name := "calledSet", desc := "()I" } : Jvm.MethodName) "StruckJury",
  Cond.methodLinkNest "StruckJury$Paper" 38 ({ cls := "StruckJury$Bench", name := "needed", desc := "()I" } : Jvm.MethodName) "StruckJury",
  Cond.methodLinkNest "StruckJury$Paper" 83 ({ cls := "StruckJury$Turns", name := "valueOf", desc := "(I)J" } : Jvm.MethodName) "StruckJury",
  Cond.methodLinkNest "StruckJury$Paper" 45 ({ cls := "StruckJury$Bench", name := "strikesOf", desc := "(I)I" } : Jvm.MethodName) "StruckJury",
  Cond.methodLinkNest "StruckJury" 195 ({ cls := "StruckJury$Paper", name := "restCount", desc := "()I" } : Jvm.MethodName) "StruckJury",
  Cond.methodLinkNest "StruckJury" 198 ({ cls := "StruckJury$Paper", name := "restOfA", desc := "(I)I" } : Jvm.MethodName) "StruckJury",
  Cond.methodLinkNest "StruckJury" 201 ({ cls := "StruckJury$Paper", name := "restOfB", desc := "(I)I" } : Jvm.MethodName) "StruckJury",
  Cond.methodLinkNest "StruckJury" 281 ({ cls := "StruckJury$Coming", name := "goBack", desc := "(LStruckJury$Bench;)V" } : Jvm.MethodName) "StruckJury",
  Cond.methodLinkNest "StruckJury$Coming" 19 ({ cls := "StruckJury$Bench", name := "called", desc := "()I" } : Jvm.MethodName) "StruckJury",
  Cond.methodLinkNest "StruckJury$Coming" 28 ({ cls := "StruckJury$Bench", name := "needed", desc := "()I" } : Jvm.MethodName) "StruckJury",
  Cond.methodLinkNest "StruckJury$Coming" 33 ({ cls := "StruckJury$Bench", name := "strikesOf", desc := "(I)I" } : Jvm.MethodName) "StruckJury",
  Cond.methodLinkNest "StruckJury$Coming" 79 ({ cls := "StruckJury", name := "setOfFirst", desc := "(I)I" } : Jvm.MethodName) "StruckJury",
  Cond.methodLinkNest "StruckJury$Coming" 82 ({ cls := "StruckJury$Turns", name := "valueOf", desc := "(I)J" } : Jvm.MethodName) "StruckJury",
  Cond.methodLinkNest "StruckJury" 219 ({ cls := "StruckJury$Coming", name := "jury", desc := "()I" } : Jvm.MethodName) "StruckJury",
  Cond.methodLinkNest "StruckJury" 222 ({ cls := "StruckJury$Coming", name := "keptBack", desc := "(I)I" } : Jvm.MethodName) "StruckJury",
  Cond.methodLinkNest "StruckJury" 239 ({ cls := "StruckJury$Bench", name := "ofSort", desc := "(I)I" } : Jvm.MethodName) "StruckJury",
  Cond.methodLinkNest "StruckJury" 296 ({ cls := "StruckJury$Bench", name := "sideAt", desc := "(I)I" } : Jvm.MethodName) "StruckJury",
  Cond.methodLinkNest "StruckJury$Bench" 51 ({ cls := "StruckJury$Turns", name := "sideAt", desc := "(IIII)I" } : Jvm.MethodName) "StruckJury",
  Cond.methodLinkNest "StruckJury" 233 ({ cls := "StruckJury$Turns", name := "juryAtLast", desc := "()I" } : Jvm.MethodName) "StruckJury",
  Cond.methodLinkNest "StruckJury" 236 ({ cls := "StruckJury$Minds", name := "rightOfAll", desc := "(I)J" } : Jvm.MethodName) "StruckJury",
  Cond.methodLinkNest "StruckJury" 245 ({ cls := "StruckJury$Minds", name := "lean", desc := "(III)V" } : Jvm.MethodName) "StruckJury",
  Cond.methodLinkNest "StruckJury" 257 ({ cls := "StruckJury$Bench", name := "copy", desc := "(LStruckJury$Bench;)V" } : Jvm.MethodName) "StruckJury"]
theorem nestW_ok : nestW.all nestK = true := by decide +kernel
theorem wn_0 : (Cond.methodLinkNest "StruckJury" 11 ({ cls := "StruckJury$Bench", name := "<init>", desc := "()V" } : Jvm.MethodName) "StruckJury") ∈ nestW := List.mem_of_getElem? (i := 0) rfl
theorem wn_1 : (Cond.fieldLinkNest "StruckJury$Minds" 36 "StruckJury$Bench" "leans0" "[I" "StruckJury") ∈ nestW := List.mem_of_getElem? (i := 1) rfl
theorem wn_2 : (Cond.fieldLinkNest "StruckJury" 83 "StruckJury$Bench" "leans0" "[I" "StruckJury") ∈ nestW := List.mem_of_getElem? (i := 2) rfl
theorem wn_3 : (Cond.fieldLinkNest "StruckJury$Text" 65 "StruckJury$Bench" "leans0" "[I" "StruckJury") ∈ nestW := List.mem_of_getElem? (i := 3) rfl
theorem wn_4 : (Cond.fieldLinkNest "StruckJury" 86 "StruckJury$Bench" "leans1" "[I" "StruckJury") ∈ nestW := List.mem_of_getElem? (i := 4) rfl
theorem wn_5 : (Cond.fieldLinkNest "StruckJury$Minds" 37 "StruckJury$Bench" "leans1" "[I" "StruckJury") ∈ nestW := List.mem_of_getElem? (i := 5) rfl
theorem wn_6 : (Cond.fieldLinkNest "StruckJury$Text" 70 "StruckJury$Bench" "leans1" "[I" "StruckJury") ∈ nestW := List.mem_of_getElem? (i := 6) rfl
theorem wn_7 : (Cond.fieldLinkNest "StruckJury$Minds" 33 "StruckJury$Bench" "sortOf" "[I" "StruckJury") ∈ nestW := List.mem_of_getElem? (i := 7) rfl
theorem wn_8 : (Cond.fieldLinkNest "StruckJury" 242 "StruckJury$Bench" "sortOf" "[I" "StruckJury") ∈ nestW := List.mem_of_getElem? (i := 8) rfl
theorem wn_9 : (Cond.fieldLinkNest "StruckJury$Minds" 44 "StruckJury$Bench" "terms" "[I" "StruckJury") ∈ nestW := List.mem_of_getElem? (i := 9) rfl
theorem wn_10 : (Cond.fieldLinkNest "StruckJury" 110 "StruckJury$Bench" "terms" "[I" "StruckJury") ∈ nestW := List.mem_of_getElem? (i := 10) rfl
theorem wn_11 : (Cond.fieldLinkNest "StruckJury$Text" 90 "StruckJury$Bench" "terms" "[I" "StruckJury") ∈ nestW := List.mem_of_getElem? (i := 11) rfl
theorem wn_12 : (Cond.fieldLinkNest "StruckJury$Minds" 27 "StruckJury$Bench" "people" "I" "StruckJury") ∈ nestW := List.mem_of_getElem? (i := 12) rfl
theorem wn_13 : (Cond.fieldLinkNest "StruckJury" 96 "StruckJury$Bench" "people" "I" "StruckJury") ∈ nestW := List.mem_of_getElem? (i := 13) rfl
theorem wn_14 : (Cond.fieldLinkNest "StruckJury$Text" 73 "StruckJury$Bench" "people" "I" "StruckJury") ∈ nestW := List.mem_of_getElem? (i := 14) rfl
theorem wn_15 : (Cond.methodLinkNest "StruckJury" 21 ({ cls := "StruckJury$Text", name := "<init>", desc := "()V" } : Jvm.MethodName) "StruckJury") ∈ nestW := List.mem_of_getElem? (i := 15) rfl
theorem wn_16 : (Cond.fieldLinkNest "StruckJury" 113 "StruckJury$Text" "length" "I" "StruckJury") ∈ nestW := List.mem_of_getElem? (i := 16) rfl
theorem wn_17 : (Cond.methodLinkNest "StruckJury" 35 ({ cls := "StruckJury$Minds", name := "<init>", desc := "()V" } : Jvm.MethodName) "StruckJury") ∈ nestW := List.mem_of_getElem? (i := 17) rfl
theorem wn_18 : (Cond.fieldLinkNest "StruckJury$Turns" 29 "StruckJury$Minds" "needed" "I" "StruckJury") ∈ nestW := List.mem_of_getElem? (i := 18) rfl
theorem wn_19 : (Cond.methodLinkNest "StruckJury" 45 ({ cls := "StruckJury$Turns", name := "<init>", desc := "([J)V" } : Jvm.MethodName) "StruckJury") ∈ nestW := List.mem_of_getElem? (i := 19) rfl
theorem wn_20 : (Cond.methodLinkNest "StruckJury" 57 ({ cls := "StruckJury$Paper", name := "<init>", desc := "(LStruckJury$Turns;[J)V" } : Jvm.MethodName) "StruckJury") ∈ nestW := List.mem_of_getElem? (i := 20) rfl
theorem wn_21 : (Cond.methodLinkNest "StruckJury" 66 ({ cls := "StruckJury$Coming", name := "<init>", desc := "(LStruckJury$Turns;[J)V" } : Jvm.MethodName) "StruckJury") ∈ nestW := List.mem_of_getElem? (i := 21) rfl
theorem wn_22 : (Cond.methodLinkNest "StruckJury" 71 ({ cls := "StruckJury$Minds", name := "take", desc := "(LStruckJury$Bench;)V" } : Jvm.MethodName) "StruckJury") ∈ nestW := List.mem_of_getElem? (i := 22) rfl
theorem wn_23 : (Cond.methodLinkNest "StruckJury$Minds" 38 ({ cls := "StruckJury$Bench", name := "needed", desc := "()I" } : Jvm.MethodName) "StruckJury") ∈ nestW := List.mem_of_getElem? (i := 23) rfl
theorem wn_24 : (Cond.methodLinkNest "StruckJury" 100 ({ cls := "StruckJury$Bench", name := "add", desc := "(I)V" } : Jvm.MethodName) "StruckJury") ∈ nestW := List.mem_of_getElem? (i := 24) rfl
theorem wn_25 : (Cond.methodLinkNest "StruckJury" 116 ({ cls := "StruckJury$Text", name := "append", desc := "(IJ)V" } : Jvm.MethodName) "StruckJury") ∈ nestW := List.mem_of_getElem? (i := 25) rfl
theorem wn_26 : (Cond.methodLinkNest "StruckJury" 120 ({ cls := "StruckJury$Text", name := "readInto", desc := "(LStruckJury$Bench;)I" } : Jvm.MethodName) "StruckJury") ∈ nestW := List.mem_of_getElem? (i := 26) rfl
theorem wn_27 : (Cond.methodLinkNest "StruckJury$Text" 80 ({ cls := "StruckJury$Bench", name := "add", desc := "(I)V" } : Jvm.MethodName) "StruckJury") ∈ nestW := List.mem_of_getElem? (i := 27) rfl
theorem wn_28 : (Cond.fieldLinkNest "StruckJury$Text" 84 "StruckJury" "LEAST" "[I" "StruckJury") ∈ nestW := List.mem_of_getElem? (i := 28) rfl
theorem wn_29 : (Cond.fieldLinkNest "StruckJury$Text" 87 "StruckJury" "GREATEST" "[I" "StruckJury") ∈ nestW := List.mem_of_getElem? (i := 29) rfl
theorem wn_30 : (Cond.methodLinkNest "StruckJury" 266 ({ cls := "StruckJury$Bench", name := "everyone", desc := "()I" } : Jvm.MethodName) "StruckJury") ∈ nestW := List.mem_of_getElem? (i := 30) rfl
theorem wn_31 : (Cond.methodLinkNest "StruckJury$Bench" 44 ({ cls := "StruckJury", name := "setOfFirst", desc := "(I)I" } : Jvm.MethodName) "StruckJury") ∈ nestW := List.mem_of_getElem? (i := 31) rfl
theorem wn_32 : (Cond.methodLinkNest "StruckJury" 209 ({ cls := "StruckJury$Bench", name := "needed", desc := "()I" } : Jvm.MethodName) "StruckJury") ∈ nestW := List.mem_of_getElem? (i := 32) rfl
theorem wn_33 : (Cond.methodLinkNest "StruckJury" 131 ({ cls := "StruckJury$Minds", name := "chanceOf", desc := "(I)J" } : Jvm.MethodName) "StruckJury") ∈ nestW := List.mem_of_getElem? (i := 33) rfl
theorem wn_34 : (Cond.methodLinkNest "StruckJury" 134 ({ cls := "StruckJury$Minds", name := "rightOf", desc := "(I)J" } : Jvm.MethodName) "StruckJury") ∈ nestW := List.mem_of_getElem? (i := 34) rfl
theorem wn_35 : (Cond.methodLinkNest "StruckJury" 140 ({ cls := "StruckJury$Turns", name := "lookBack", desc := "(LStruckJury$Minds;IIII)V" } : Jvm.MethodName) "StruckJury") ∈ nestW := List.mem_of_getElem? (i := 35) rfl
theorem wn_36 : (Cond.methodLinkNest "StruckJury$Turns" 53 ({ cls := "StruckJury$Minds", name := "areAlike", desc := "(II)Z" } : Jvm.MethodName) "StruckJury") ∈ nestW := List.mem_of_getElem? (i := 36) rfl
theorem wn_37 : (Cond.methodLinkNest "StruckJury$Turns" 60 ({ cls := "StruckJury$Minds", name := "chanceOf", desc := "(I)J" } : Jvm.MethodName) "StruckJury") ∈ nestW := List.mem_of_getElem? (i := 37) rfl
theorem wn_38 : (Cond.methodLinkNest "StruckJury" 144 ({ cls := "StruckJury$Turns", name := "valueOf", desc := "(I)J" } : Jvm.MethodName) "StruckJury") ∈ nestW := List.mem_of_getElem? (i := 38) rfl
theorem wn_39 : (Cond.methodLinkNest "StruckJury" 147 ({ cls := "StruckJury$Turns", name := "strikeFrom", desc := "(I)I" } : Jvm.MethodName) "StruckJury") ∈ nestW := List.mem_of_getElem? (i := 39) rfl
theorem wn_40 : (Cond.methodLinkNest "StruckJury" 150 ({ cls := "StruckJury$Bench", name := "called", desc := "()I" } : Jvm.MethodName) "StruckJury") ∈ nestW := List.mem_of_getElem? (i := 40) rfl
theorem wn_41 : (Cond.methodLinkNest "StruckJury" 164 ({ cls := "StruckJury$Bench", name := "calledSet", desc := "()I" } : Jvm.MethodName) "StruckJury") ∈ nestW := List.mem_of_getElem? (i := 41) rfl
theorem wn_42 : (Cond.methodLinkNest "StruckJury" 182 ({ cls := "StruckJury$Bench", name := "strikesOf", desc := "(I)I" } : Jvm.MethodName) "StruckJury") ∈ nestW := List.mem_of_getElem? (i := 42) rfl
theorem wn_43 : (Cond.methodLinkNest "StruckJury" 158 ({ cls := "StruckJury$Bench", name := "strikes", desc := "()I" } : Jvm.MethodName) "StruckJury") ∈ nestW := List.mem_of_getElem? (i := 43) rfl
theorem wn_44 : (Cond.methodLinkNest "StruckJury" 278 ({ cls := "StruckJury$Paper", name := "weigh", desc := "(LStruckJury$Bench;)V" } : Jvm.MethodName) "StruckJury") ∈ nestW := List.mem_of_getElem? (i := 44) rfl
theorem wn_45 : (Cond.methodLinkNest "StruckJury$Paper" 32 ({ cls := "StruckJury$Bench", name := "calledSet", desc := "()I" } : Jvm.MethodName) "StruckJury") ∈ nestW := List.mem_of_getElem? (i := 45) rfl
theorem wn_46 : (Cond.methodLinkNest "StruckJury$Paper" 38 ({ cls := "StruckJury$Bench", name := "needed", desc := "()I" } : Jvm.MethodName) "StruckJury") ∈ nestW := List.mem_of_getElem? (i := 46) rfl
theorem wn_47 : (Cond.methodLinkNest "StruckJury$Paper" 83 ({ cls := "StruckJury$Turns", name := "valueOf", desc := "(I)J" } : Jvm.MethodName) "StruckJury") ∈ nestW := List.mem_of_getElem? (i := 47) rfl
theorem wn_48 : (Cond.methodLinkNest "StruckJury$Paper" 45 ({ cls := "StruckJury$Bench", name := "strikesOf", desc := "(I)I" } : Jvm.MethodName) "StruckJury") ∈ nestW := List.mem_of_getElem? (i := 48) rfl
theorem wn_49 : (Cond.methodLinkNest "StruckJury" 195 ({ cls := "StruckJury$Paper", name := "restCount", desc := "()I" } : Jvm.MethodName) "StruckJury") ∈ nestW := List.mem_of_getElem? (i := 49) rfl
theorem wn_50 : (Cond.methodLinkNest "StruckJury" 198 ({ cls := "StruckJury$Paper", name := "restOfA", desc := "(I)I" } : Jvm.MethodName) "StruckJury") ∈ nestW := List.mem_of_getElem? (i := 50) rfl
theorem wn_51 : (Cond.methodLinkNest "StruckJury" 201 ({ cls := "StruckJury$Paper", name := "restOfB", desc := "(I)I" } : Jvm.MethodName) "StruckJury") ∈ nestW := List.mem_of_getElem? (i := 51) rfl
theorem wn_52 : (Cond.methodLinkNest "StruckJury" 281 ({ cls := "StruckJury$Coming", name := "goBack", desc := "(LStruckJury$Bench;)V" } : Jvm.MethodName) "StruckJury") ∈ nestW := List.mem_of_getElem? (i := 52) rfl
theorem wn_53 : (Cond.methodLinkNest "StruckJury$Coming" 19 ({ cls := "StruckJury$Bench", name := "called", desc := "()I" } : Jvm.MethodName) "StruckJury") ∈ nestW := List.mem_of_getElem? (i := 53) rfl
theorem wn_54 : (Cond.methodLinkNest "StruckJury$Coming" 28 ({ cls := "StruckJury$Bench", name := "needed", desc := "()I" } : Jvm.MethodName) "StruckJury") ∈ nestW := List.mem_of_getElem? (i := 54) rfl
theorem wn_55 : (Cond.methodLinkNest "StruckJury$Coming" 33 ({ cls := "StruckJury$Bench", name := "strikesOf", desc := "(I)I" } : Jvm.MethodName) "StruckJury") ∈ nestW := List.mem_of_getElem? (i := 55) rfl
theorem wn_56 : (Cond.methodLinkNest "StruckJury$Coming" 79 ({ cls := "StruckJury", name := "setOfFirst", desc := "(I)I" } : Jvm.MethodName) "StruckJury") ∈ nestW := List.mem_of_getElem? (i := 56) rfl
theorem wn_57 : (Cond.methodLinkNest "StruckJury$Coming" 82 ({ cls := "StruckJury$Turns", name := "valueOf", desc := "(I)J" } : Jvm.MethodName) "StruckJury") ∈ nestW := List.mem_of_getElem? (i := 57) rfl
theorem wn_58 : (Cond.methodLinkNest "StruckJury" 219 ({ cls := "StruckJury$Coming", name := "jury", desc := "()I" } : Jvm.MethodName) "StruckJury") ∈ nestW := List.mem_of_getElem? (i := 58) rfl
theorem wn_59 : (Cond.methodLinkNest "StruckJury" 222 ({ cls := "StruckJury$Coming", name := "keptBack", desc := "(I)I" } : Jvm.MethodName) "StruckJury") ∈ nestW := List.mem_of_getElem? (i := 59) rfl
theorem wn_60 : (Cond.methodLinkNest "StruckJury" 239 ({ cls := "StruckJury$Bench", name := "ofSort", desc := "(I)I" } : Jvm.MethodName) "StruckJury") ∈ nestW := List.mem_of_getElem? (i := 60) rfl
theorem wn_61 : (Cond.methodLinkNest "StruckJury" 296 ({ cls := "StruckJury$Bench", name := "sideAt", desc := "(I)I" } : Jvm.MethodName) "StruckJury") ∈ nestW := List.mem_of_getElem? (i := 61) rfl
theorem wn_62 : (Cond.methodLinkNest "StruckJury$Bench" 51 ({ cls := "StruckJury$Turns", name := "sideAt", desc := "(IIII)I" } : Jvm.MethodName) "StruckJury") ∈ nestW := List.mem_of_getElem? (i := 62) rfl
theorem wn_63 : (Cond.methodLinkNest "StruckJury" 233 ({ cls := "StruckJury$Turns", name := "juryAtLast", desc := "()I" } : Jvm.MethodName) "StruckJury") ∈ nestW := List.mem_of_getElem? (i := 63) rfl
theorem wn_64 : (Cond.methodLinkNest "StruckJury" 236 ({ cls := "StruckJury$Minds", name := "rightOfAll", desc := "(I)J" } : Jvm.MethodName) "StruckJury") ∈ nestW := List.mem_of_getElem? (i := 64) rfl
theorem wn_65 : (Cond.methodLinkNest "StruckJury" 245 ({ cls := "StruckJury$Minds", name := "lean", desc := "(III)V" } : Jvm.MethodName) "StruckJury") ∈ nestW := List.mem_of_getElem? (i := 65) rfl
theorem wn_66 : (Cond.methodLinkNest "StruckJury" 257 ({ cls := "StruckJury$Bench", name := "copy", desc := "(LStruckJury$Bench;)V" } : Jvm.MethodName) "StruckJury") ∈ nestW := List.mem_of_getElem? (i := 66) rfl
end
section
/-! the memory of a system: regions of ints and longs; a region is an object or an array; references never change -/
abbrev MM : Type := (Nat → Nat → Int32) × (Nat → Nat → Int64)
abbrev Shp : Type := (Nat × List Nat) ⊕ (Nat × Nat × Nat)
abbrev Gx : Type := Launch × va_G × (Nat → Nat) × (Nat → ClassId) × (Nat → Prop) × Nat × Nat
def gLa (G : Gx) : Launch := G.1
def gD (G : Gx) : va_G := G.2.1
def gad (G : Gx) : Nat → Nat := G.2.2.1
def gct (G : Gx) : Nat → ClassId := G.2.2.2.1
def gA (G : Gx) : Nat → Prop := G.2.2.2.2.1
def gtL (G : Gx) : Nat := G.2.2.2.2.2.1
def gtG (G : Gx) : Nat := G.2.2.2.2.2.2
def gfv (G : Gx) (σ : MM) (k p kd : Nat) : Value := match kd with
  | 0 => .int (σ.1 k p)
  | 1 => .long (σ.2 k p)
  | r + 2 => .ref (gad G r)
def gcell (G : Gx) (σ : MM) (k : Nat) (s : Shp) : va_E := match s with
  | .inl (ci, fl) => .inr (ci, fl.mapIdx (gfv G σ k))
  | .inr (0, N, _) => .inl (gct G 0, N, .inl (σ.1 k))
  | .inr (1, N, _) => .inl (gct G 1, N, .inr (.inl (σ.2 k)))
  | .inr (2, N, _) => .inl (gct G 2, N, .inl (σ.1 k))
  | .inr (_, N, r) => .inl (gct G 3, N, .inr (.inr (.inr (.inr (fun i => if i < N then some (gad G (r + i)) else none)))))
def wl (sh : Nat → Shp) (n : Nat) (G : Gx) (σ : MM) : va_W := (List.range n).map (fun k => (gad G k, gcell G σ k (sh k)))
def gtys (G : Gx) : List (ClassId × FieldType) := [(gct G 0, .int), (gct G 1, .long), (gct G 2, .byte), (gct G 3, .array .long)]
def stI (σ : MM) (k i : Nat) (x : Int32) : MM := (fun k' => if k' = k then upd (σ.1 k) i x else σ.1 k', σ.2)
def stL (σ : MM) (k i : Nat) (x : Int64) : MM := (σ.1, fun k' => if k' = k then vp_updL (σ.2 k) i x else σ.2 k')
def stC (σ : MM) (k : Nat) (f : Nat → Int32) : MM := (fun k' => if k' = k then f else σ.1 k', σ.2)
def inb (i : Int32) (N : Nat) : Bool := !(decide (i < 0)) && decide (i.toNatClampNeg < N)
def chk {α : Type} (b : Bool) (x : Option α) : Option α := if b = true then x else none
def lm {α β : Type} (s : α) (F : α → β) : β := F s
def isB (r : Int32) : Bool := decide (r = 0) || decide (r = 1)
theorem chk_some {α : Type} {b : Bool} {x : Option α} {o : α} (h : chk b x = some o) : b = true ∧ x = some o := by
  unfold chk at h
  by_cases hb : b = true
  · rw [if_pos hb] at h; exact ⟨hb, h⟩
  · rw [if_neg hb] at h; cases h
theorem inb_in {i : Int32} {N : Nat} (h : inb i N = true) : vp_in i N := by
  unfold inb at h
  simp only [Bool.and_eq_true, Bool.not_eq_true', decide_eq_false_iff_not, decide_eq_true_eq] at h
  intro q
  rcases q with q | q
  · exact h.1 q
  · exact absurd h.2 (Nat.not_lt.mpr q)
theorem inb_lt {i : Int32} {N : Nat} (h : inb i N = true) : i.toNatClampNeg < N := by
  unfold inb at h
  simp only [Bool.and_eq_true, decide_eq_true_eq] at h
  exact h.2
theorem isB_nar {r : Int32} (h : isB r = true) : narrow .boolean (.int r) = .int r := by
  unfold isB at h
  simp only [Bool.or_eq_true, decide_eq_true_eq] at h
  rcases h with h | h <;> (subst h; rfl)
theorem isB_fit {r : Int32} (h : isB r = true) : fits .boolean (.int r) = true := by
  unfold isB at h
  simp only [Bool.or_eq_true, decide_eq_true_eq] at h
  rcases h with h | h <;> (subst h; rfl)
def uc {α β γ : Type} (F : α → β → γ) (p : α × β) : γ := F p.1 p.2
theorem bind_some {α β : Type} {x : Option α} {F : α → Option β} {o : β} (h : x.bind F = some o) : ∃ a, x = some a ∧ F a = some o := by
  cases x with
  | none => cases h
  | some a => exact ⟨a, rfl, h⟩
theorem wl_get {sh : Nat → Shp} {n : Nat} {G : Gx} {σ : MM} {k : Nat} (h : k < n) : (wl sh n G σ)[k]? = some (gad G k, gcell G σ k (sh k)) := by
  unfold wl
  rw [List.getElem?_map, List.getElem?_range h]
  rfl
theorem gcell_other {G : Gx} {σ σ' : MM} {j : Nat} {s : Shp} (h1 : σ'.1 j = σ.1 j) (h2 : σ'.2 j = σ.2 j) : gcell G σ' j s = gcell G σ j s := by
  have hf : gfv G σ' j = gfv G σ j := by
    funext p kd
    match kd with
    | 0 => show Value.int _ = Value.int _; rw [h1]
    | 1 => show Value.long _ = Value.long _; rw [h2]
    | r + 2 => rfl
  match s with
  | .inl (ci, fl) => show Sum.inr (ci, fl.mapIdx (gfv G σ' j)) = Sum.inr (ci, fl.mapIdx (gfv G σ j)); rw [hf]
  | .inr (0, N, _) => show Sum.inl _ = Sum.inl _; rw [h1]
  | .inr (1, N, _) => show Sum.inl _ = Sum.inl _; rw [h2]
  | .inr (2, N, _) => show Sum.inl _ = Sum.inl _; rw [h1]
  | .inr (_ + 3, N, r) => rfl
theorem wl_set {sh : Nat → Shp} {n : Nat} {G : Gx} {σ σ' : MM} {k : Nat} {e : va_E} (he : gcell G σ' k (sh k) = e) (h1 : ∀ j, j ≠ k → σ'.1 j = σ.1 j) (h2 : ∀ j, j ≠ k → σ'.2 j = σ.2 j) : (wl sh n G σ).set k (gad G k, e) = wl sh n G σ' := by
  apply List.ext_getElem?
  intro j
  unfold wl
  rw [List.getElem?_set, List.getElem?_map, List.getElem?_map]
  by_cases hj : k = j
  · subst hj
    by_cases hn : k < n
    · rw [List.getElem?_range hn, if_pos rfl, if_pos (by simpa using hn), ← he]
      rfl
    · rw [List.getElem?_eq_none (by simpa using Nat.not_lt.mp hn), if_pos rfl, if_neg (by simpa using hn)]
      rfl
  · rw [if_neg hj]
    by_cases hn : j < n
    · rw [List.getElem?_range hn]
      show some (gad G j, gcell G σ j (sh j)) = some (gad G j, gcell G σ' j (sh j))
      rw [gcell_other (h1 j (Ne.symm hj)) (h2 j (Ne.symm hj))]
    · rw [List.getElem?_eq_none (by simpa using Nat.not_lt.mp hn)]
      rfl
theorem stI_ne {σ : MM} {k i : Nat} {x : Int32} : ∀ j, j ≠ k → (stI σ k i x).1 j = σ.1 j := fun j h => if_neg h
theorem stI_eq {σ : MM} {k i : Nat} {x : Int32} : (stI σ k i x).1 k = upd (σ.1 k) i x := if_pos rfl
theorem stL_ne {σ : MM} {k i : Nat} {x : Int64} : ∀ j, j ≠ k → (stL σ k i x).2 j = σ.2 j := fun j h => if_neg h
theorem stL_eq {σ : MM} {k i : Nat} {x : Int64} : (stL σ k i x).2 k = vp_updL (σ.2 k) i x := if_pos rfl
theorem fld_get {G : Gx} {σ : MM} {k p kd : Nat} {fl : List Nat} (h : fl[p]? = some kd) : (fl.mapIdx (gfv G σ k))[p]? = some (gfv G σ k p kd) := by
  rw [List.getElem?_mapIdx, h]
  rfl
theorem fld_setI {G : Gx} {σ : MM} {k p : Nat} {x : Int32} {fl : List Nat} (h : fl[p]? = some 0) : fl.mapIdx (gfv G (stI σ k p x) k) = (fl.mapIdx (gfv G σ k)).set p (.int x) := by
  apply List.ext_getElem?
  intro j
  rw [List.getElem?_mapIdx, List.getElem?_set, List.getElem?_mapIdx, List.length_mapIdx]
  by_cases hj : p = j
  · subst hj
    have hl : p < fl.length := (List.getElem?_eq_some_iff.mp h).1
    rw [if_pos rfl, if_pos hl, h]
    show some (Value.int ((stI σ k p x).1 k p)) = _
    rw [stI_eq]
    show some (Value.int (if p = p then x else _)) = _
    rw [if_pos rfl]
  · rw [if_neg hj]
    cases hq : fl[j]? with
    | none => rfl
    | some kd =>
      show some (gfv G (stI σ k p x) k j kd) = some (gfv G σ k j kd)
      match kd with
      | 0 =>
        show some (Value.int ((stI σ k p x).1 k j)) = some (Value.int (σ.1 k j))
        rw [stI_eq]
        show some (Value.int (if j = p then x else σ.1 k j)) = _
        rw [if_neg (Ne.symm hj)]
      | 1 => rfl
      | r + 2 => rfl
theorem fld_setL {G : Gx} {σ : MM} {k p : Nat} {x : Int64} {fl : List Nat} (h : fl[p]? = some 1) : fl.mapIdx (gfv G (stL σ k p x) k) = (fl.mapIdx (gfv G σ k)).set p (.long x) := by
  apply List.ext_getElem?
  intro j
  rw [List.getElem?_mapIdx, List.getElem?_set, List.getElem?_mapIdx, List.length_mapIdx]
  by_cases hj : p = j
  · subst hj
    have hl : p < fl.length := (List.getElem?_eq_some_iff.mp h).1
    rw [if_pos rfl, if_pos hl, h]
    show some (Value.long ((stL σ k p x).2 k p)) = _
    rw [stL_eq]
    show some (Value.long (if p = p then x else _)) = _
    rw [if_pos rfl]
  · rw [if_neg hj]
    cases hq : fl[j]? with
    | none => rfl
    | some kd =>
      show some (gfv G (stL σ k p x) k j kd) = some (gfv G σ k j kd)
      match kd with
      | 0 => rfl
      | 1 =>
        show some (Value.long ((stL σ k p x).2 k j)) = some (Value.long (σ.2 k j))
        rw [stL_eq]
        show some (Value.long (if j = p then x else σ.2 k j)) = _
        rw [if_neg (Ne.symm hj)]
      | r + 2 => rfl
/-! the world around a method -/
def tLeast (j : Nat) : Int32 := if j = 0 then 1 else 0
def tMost (j : Nat) : Int32 := if j = 0 then 7 else if j = 1 then 3 else if j = 2 then 3 else if j = 3 then 1 else 100
def stat_ok (G : Gx) (U : State) (H : Heap) : Prop := (va_Z "StruckJury" "LEAST" "[I" (.ref (gtL G)) (gA G) U H ∧ va_T .int (gtL G) 5 (fun j => .int (tLeast j)) (gA G) U H) ∧ (va_Z "StruckJury" "GREATEST" "[I" (.ref (gtG G)) (gA G) U H ∧ va_T .int (gtG G) 5 (fun j => .int (tMost j)) (gA G) U H)
def GOK (n : Nat) (G : Gx) : Prop := (∀ i j, i < n → j < n → gad G i = gad G j → i = j) ∧ ∀ k, k < n → gA G (gad G k)
def nw_ok (U : State) : Prop := ∀ w ∈ nestW, va_Nw w U
theorem nw_warm {s U : State} (hW : s.WarmedH U.vm) (h : nw_ok s) : nw_ok U := by
  intro w hw
  have h2 := h w hw
  have hk : nestK w = true := List.all_eq_true.mp nestW_ok w hw
  cases w <;> first | exact va_Nw.warmF hW h2 | exact va_Nw.warmM hW h2 | (simp [nestK] at hk)
theorem nw_same {s U : State} (hW : s.vm = U.vm) (h : nw_ok s) : nw_ok U := by
  intro w hw
  have h2 := h w hw
  have hk : nestK w = true := List.all_eq_true.mp nestW_ok w hw
  cases w <;> first | exact va_Nw.same rfl hW h2 | (simp [nestK] at hk)
def InvX (sh : Nat → Shp) (n : Nat) (G : Gx) (σ : MM) (U : State) : Prop := va_P (gD G) vwCl (wl sh n G σ) U.heap ∧ va_K (gD G) vwCl (gtys G) U ∧ GOK n G ∧ nw_ok U ∧ stat_ok G U U.heap
theorem wl_D {sh : Nat → Shp} {n : Nat} {G : Gx} {σ : MM} (h : GOK n G) : va_D (gA G) (wl sh n G σ) := by
  have hlt : ∀ (i : Nat) (p : Nat × va_E), (wl sh n G σ)[i]? = some p → i < n ∧ p.1 = gad G i := by
    intro i p hp
    by_cases hi : i < n
    · rw [wl_get hi] at hp
      cases hp
      exact ⟨hi, rfl⟩
    · unfold wl at hp
      rw [List.getElem?_map, List.getElem?_eq_none (by simpa using Nat.not_lt.mp hi)] at hp
      cases hp
  refine ⟨fun i j p q hp hq he => ?_, fun k q hq => ?_⟩
  · obtain ⟨a1, a2⟩ := hlt i p hp
    obtain ⟨b1, b2⟩ := hlt j q hq
    exact h.1 i j a1 b1 (by rw [← a2, ← b2, he])
  · obtain ⟨a1, a2⟩ := hlt k q hq
    rw [a2]
    exact h.2 k a1
def QcX (sh : Nat → Shp) (n : Nat) (G : Gx) (res : Option Value) (σ' : MM) : Array Value → State → Outcome → State → Prop := fun _ st oc t => (oc = .returned res ∧ va_P (gD G) vwCl (wl sh n G σ') t.heap) ∧ va_F (gA G) st t
def Ct (sh : Nat → Shp) (n : Nat) (y : MethodName) (bytes : ByteArray) (maxL : Nat) (ret : Option FieldType) (rm : Room) (G : Gx) (As : List Value) (σ : MM) (res : Option Value) (σ' : MM) : Prop :=
  Met (gLa G) y (.code y bytes maxL ret :: wsL_law) rm (va_Pc As (InvX sh n G σ)) (QcX sh n G res σ') 0 0 (gA G)
abbrev Kx : Type := Program × Env × State × MethodId × Array Value × List Frame × Method × Code × (State → Prop)
def XJ (sh : Nat → Shp) (n : Nat) (nL : Nat) (R : Room) (G : Gx) (K : Kx) (σ : MM) (lv : List (Nat × Value)) (pc : Nat) (st : List Value) : Prop :=
  ∀ (H : Heap) (locs : List Loc) (ls : Array Slot), va_P (gD G) vwCl (wl sh n G σ) H → va_S (gA G) K.2.2.1.heap H locs → lv_has ls nL lv →
    W K.1 (gLa G) K.2.1 R K.2.2.1 K.2.2.2.1 K.2.2.2.2.1 K.2.2.2.2.2.1 K.2.2.2.2.2.2.1 K.2.2.2.2.2.2.2.1 H locs 0 0 K.2.2.2.2.2.2.2.2 (F0 K.2.2.2.1 pc ls st)
/-- what a method's body may use -/
def OKc (n : Nat) (cc : ByteArray) (nL : Nat) (own : String) (G : Gx) (K : Kx) : Prop :=
  K.1.tables.exec = Jvm.exec ∧ K.2.2.2.2.2.2.2.1.code = cc ∧ K.2.2.2.2.2.2.2.1.maxLocals = nL ∧ K.2.2.1.vm.findClass own = some K.2.2.2.1.cls ∧ (∀ w ∈ wsL_law, w.before K.2.2.2.2.1 K.2.2.1 = true) ∧ va_K (gD G) vwCl (gtys G) K.2.2.1 ∧ GOK n G ∧ nw_ok K.2.2.1 ∧ stat_ok G K.2.2.1 K.2.2.1.heap ∧ K.2.2.2.2.2.2.1.locks = false
/-- what its end is -/
def RetX (sh : Nat → Shp) (n : Nat) (ret : Option FieldType) (G : Gx) (K : Kx) (res : Option Value) (σ' : MM) : Prop :=
  K.2.2.2.2.2.2.1.sig.returnType = ret ∧ K.2.2.2.2.2.2.2.2 = MQ K.2.2.2.2.2.1 (QcX sh n G res σ') K.2.2.2.2.1 K.2.2.1 0 0 (gA G)
theorem ct_of {sh : Nat → Shp} {n : Nat} {y : MethodName} {bytes : ByteArray} {maxL : Nat} {ret : Option FieldType} {rm : Room} {G : Gx} {As : List Value} {σ : MM} {res : Option Value} {σ' : MM}
    (hy : plainName y.cls = true) (hl : (lg_sl As).length ≤ maxL)
    (body : ∀ K : Kx, OKc n bytes maxL y.cls G K → RetX sh n ret G K res σ' → XJ sh n maxL rm G K σ (lv_args 0 As) 0 []) : Ct sh n y bytes maxL ret rm G As σ res σ' := by
  refine Met.ofW (cc := bytes) (maxL := maxL) (ret := ret) hy rfl ?_
  intro p e s m args below meth c s₁ B hml hv
  obtain ⟨rfl, hP, hK, hG, hN, hZ⟩ := hv
  have hts := atoms_spec (ws := .code y bytes maxL ret :: wsL_law) B.pre
  have hl0 := lv_entry As (n := maxL) hl
  rw [lg_entry_eq]
  exact body (p, e, s, m, As.toArray, below, meth, c, MQ below (QcX sh n G res σ') As.toArray s 0 0 (gA G)) ⟨B.exec, B.bytes, hml, findClass_of_methodNamed B.named, fun w hw => hts w (List.mem_cons_of_mem _ hw), hK, hG, hN, hZ, B.notSynchronized⟩ ⟨B.returns, rfl⟩ s.heap [] _ hP va_S.rf hl0
section XR
variable {sh : Nat → Shp} {n nL : Nat} {R : Room} {G : Gx} {K : Kx} {σ : MM} {lv lv' : List (Nat × Value)} {pc : Nat} {st : List Value} {cc : ByteArray} {own : String} {α : Type} {o : α}

theorem x_iconst {z : Int} {v : Int32} (E : OKc n cc nL own G K) (d : decode cc pc = .ok (.iconst z, 1)) (hv : Int32.ofInt z = v) (k : XJ sh n nL R G K σ lv (pc + 1) (.int v :: st)) : XJ sh n nL R G K σ lv pc (st) := fun H locs ls hP hS hl => lv_iconst E.1 E.2.1 d hv (k H locs ls hP hS hl)
theorem x_bipush {z : Int} {v : Int32} (E : OKc n cc nL own G K) (d : decode cc pc = .ok (.bipush z, 2)) (hv : (Int8.ofInt z).toInt32 = v) (k : XJ sh n nL R G K σ lv (pc + 2) (.int v :: st)) : XJ sh n nL R G K σ lv pc (st) := fun H locs ls hP hS hl => lv_bipush E.1 E.2.1 d hv (k H locs ls hP hS hl)
theorem x_sipush {z : Int} {v : Int32} (E : OKc n cc nL own G K) (d : decode cc pc = .ok (.sipush z, 3)) (hv : (Int16.ofInt z).toInt32 = v) (k : XJ sh n nL R G K σ lv (pc + 3) (.int v :: st)) : XJ sh n nL R G K σ lv pc (st) := fun H locs ls hP hS hl => lv_sipush E.1 E.2.1 d hv (k H locs ls hP hS hl)
theorem x_lconst {z : Fin 2} {v : Int64} (E : OKc n cc nL own G K) (d : decode cc pc = .ok (.lconst z, 1)) (hv : Int64.ofNat (z : Nat) = v) (k : XJ sh n nL R G K σ lv (pc + 1) (.long v :: st)) : XJ sh n nL R G K σ lv pc (st) := fun H locs ls hP hS hl => lv_lconst E.1 E.2.1 d hv (k H locs ls hP hS hl)
theorem x_iload_n {z : Fin 4} {i : Nat} {x : Int32} (j : Nat) (E : OKc n cc nL own G K) (d : decode cc pc = .ok (.iload_n z, 1)) (hi : (z : Nat) = i) (hj : lv[j]? = some (i, .int x)) (k : XJ sh n nL R G K σ lv (pc + 1) (.int x :: st)) : XJ sh n nL R G K σ lv pc (st) := fun H locs ls hP hS hl => lv_iload_n E.1 E.2.1 d hi (lv_at hl j hj) (k H locs ls hP hS hl)
theorem x_iload {i : Nat} {x : Int32} (j : Nat) (E : OKc n cc nL own G K) (d : decode cc pc = .ok (.iload i, 2)) (hj : lv[j]? = some (i, .int x)) (k : XJ sh n nL R G K σ lv (pc + 2) (.int x :: st)) : XJ sh n nL R G K σ lv pc (st) := fun H locs ls hP hS hl => lv_iload E.1 E.2.1 d (lv_at hl j hj) (k H locs ls hP hS hl)
theorem x_lload_n {z : Fin 4} {i : Nat} {x : Int64} (j : Nat) (E : OKc n cc nL own G K) (d : decode cc pc = .ok (.lload_n z, 1)) (hi : (z : Nat) = i) (hj : lv[j]? = some (i, .long x)) (k : XJ sh n nL R G K σ lv (pc + 1) (.long x :: st)) : XJ sh n nL R G K σ lv pc (st) := fun H locs ls hP hS hl => lv_lload_n E.1 E.2.1 d hi (lv_at hl j hj) (k H locs ls hP hS hl)
theorem x_lload {i : Nat} {x : Int64} (j : Nat) (E : OKc n cc nL own G K) (d : decode cc pc = .ok (.lload i, 2)) (hj : lv[j]? = some (i, .long x)) (k : XJ sh n nL R G K σ lv (pc + 2) (.long x :: st)) : XJ sh n nL R G K σ lv pc (st) := fun H locs ls hP hS hl => lv_lload E.1 E.2.1 d (lv_at hl j hj) (k H locs ls hP hS hl)
theorem x_aload_n {z : Fin 4} {i : Nat} {x : Nat} (j : Nat) (E : OKc n cc nL own G K) (d : decode cc pc = .ok (.aload_n z, 1)) (hi : (z : Nat) = i) (hj : lv[j]? = some (i, .ref x)) (k : XJ sh n nL R G K σ lv (pc + 1) (.ref x :: st)) : XJ sh n nL R G K σ lv pc (st) := fun H locs ls hP hS hl => lv_aload_n E.1 E.2.1 d hi (lv_at hl j hj) (k H locs ls hP hS hl)
theorem x_aload {i : Nat} {x : Nat} (j : Nat) (E : OKc n cc nL own G K) (d : decode cc pc = .ok (.aload i, 2)) (hj : lv[j]? = some (i, .ref x)) (k : XJ sh n nL R G K σ lv (pc + 2) (.ref x :: st)) : XJ sh n nL R G K σ lv pc (st) := fun H locs ls hP hS hl => lv_aload E.1 E.2.1 d (lv_at hl j hj) (k H locs ls hP hS hl)
theorem x_istore_n {z : Fin 4} {i : Nat} {x : Int32} (E : OKc n cc nL own G K) (d : decode cc pc = .ok (.istore_n z, 1)) (hi : (z : Nat) = i) (hn : i < nL) (hl : (i, Value.int x) :: lv.filter (fun q => !(q.1 == i) && !(q.1 + 1 == i && q.2.category == 2)) = lv') (k : XJ sh n nL R G K σ lv' (pc + 1) st) : XJ sh n nL R G K σ lv pc (.int x :: st) := fun H locs ls hP hS h => lv_istore_n E.1 E.2.1 d hi h hn hl (fun ls' h' => k H locs ls' hP hS h')
theorem x_istore {i : Nat} {x : Int32} (E : OKc n cc nL own G K) (d : decode cc pc = .ok (.istore i, 2)) (hn : i < nL) (hl : (i, Value.int x) :: lv.filter (fun q => !(q.1 == i) && !(q.1 + 1 == i && q.2.category == 2)) = lv') (k : XJ sh n nL R G K σ lv' (pc + 2) st) : XJ sh n nL R G K σ lv pc (.int x :: st) := fun H locs ls hP hS h => lv_istore E.1 E.2.1 d h hn hl (fun ls' h' => k H locs ls' hP hS h')
theorem x_lstore_n {z : Fin 4} {i : Nat} {x : Int64} (E : OKc n cc nL own G K) (d : decode cc pc = .ok (.lstore_n z, 1)) (hi : (z : Nat) = i) (hn : i + 1 < nL) (hl : (i, Value.long x) :: lv.filter (fun q => !(q.1 == i) && (!(q.1 == i + 1) && !(q.1 + 1 == i && q.2.category == 2))) = lv') (k : XJ sh n nL R G K σ lv' (pc + 1) st) : XJ sh n nL R G K σ lv pc (.long x :: st) := fun H locs ls hP hS h => lv_lstore_n E.1 E.2.1 d hi h hn hl (fun ls' h' => k H locs ls' hP hS h')
theorem x_lstore {i : Nat} {x : Int64} (E : OKc n cc nL own G K) (d : decode cc pc = .ok (.lstore i, 2)) (hn : i + 1 < nL) (hl : (i, Value.long x) :: lv.filter (fun q => !(q.1 == i) && (!(q.1 == i + 1) && !(q.1 + 1 == i && q.2.category == 2))) = lv') (k : XJ sh n nL R G K σ lv' (pc + 2) st) : XJ sh n nL R G K σ lv pc (.long x :: st) := fun H locs ls hP hS h => lv_lstore E.1 E.2.1 d h hn hl (fun ls' h' => k H locs ls' hP hS h')
theorem x_astore_n {z : Fin 4} {i : Nat} {x : Nat} (E : OKc n cc nL own G K) (d : decode cc pc = .ok (.astore_n z, 1)) (hi : (z : Nat) = i) (hn : i < nL) (hl : (i, Value.ref x) :: lv.filter (fun q => !(q.1 == i) && !(q.1 + 1 == i && q.2.category == 2)) = lv') (k : XJ sh n nL R G K σ lv' (pc + 1) st) : XJ sh n nL R G K σ lv pc (.ref x :: st) := fun H locs ls hP hS h => lv_astore_n E.1 E.2.1 d hi h hn hl (fun ls' h' => k H locs ls' hP hS h')
theorem x_astore {i : Nat} {x : Nat} (E : OKc n cc nL own G K) (d : decode cc pc = .ok (.astore i, 2)) (hn : i < nL) (hl : (i, Value.ref x) :: lv.filter (fun q => !(q.1 == i) && !(q.1 + 1 == i && q.2.category == 2)) = lv') (k : XJ sh n nL R G K σ lv' (pc + 2) st) : XJ sh n nL R G K σ lv pc (.ref x :: st) := fun H locs ls hP hS h => lv_astore E.1 E.2.1 d h hn hl (fun ls' h' => k H locs ls' hP hS h')
theorem x_iinc {i : Nat} {z : Int} {x v : Int32} (j : Nat) (E : OKc n cc nL own G K) (d : decode cc pc = .ok (.iinc i z, 3)) (hj : lv[j]? = some (i, .int x)) (hv : x + Int32.ofInt z = v) (hn : i < nL) (hl : (i, Value.int v) :: lv.filter (fun q => !(q.1 == i) && !(q.1 + 1 == i && q.2.category == 2)) = lv') (k : XJ sh n nL R G K σ lv' (pc + 3) st) : XJ sh n nL R G K σ lv pc st := fun H locs ls hP hS h => lv_iinc E.1 E.2.1 d h hj hv hn hl (fun ls' h' => k H locs ls' hP hS h')
theorem x_iadd {x y : Int32} (E : OKc n cc nL own G K) (d : decode cc pc = .ok (.iadd, 1))  (k : XJ sh n nL R G K σ lv (pc + 1) (.int (x + y) :: st)) : XJ sh n nL R G K σ lv pc (.int y :: .int x :: st) := fun H locs ls hP hS hl => lv_iadd E.1 E.2.1 d  (k H locs ls hP hS hl)
theorem x_isub {x y : Int32} (E : OKc n cc nL own G K) (d : decode cc pc = .ok (.isub, 1))  (k : XJ sh n nL R G K σ lv (pc + 1) (.int (x - y) :: st)) : XJ sh n nL R G K σ lv pc (.int y :: .int x :: st) := fun H locs ls hP hS hl => lv_isub E.1 E.2.1 d  (k H locs ls hP hS hl)
theorem x_imul {x y : Int32} (E : OKc n cc nL own G K) (d : decode cc pc = .ok (.imul, 1))  (k : XJ sh n nL R G K σ lv (pc + 1) (.int (x * y) :: st)) : XJ sh n nL R G K σ lv pc (.int y :: .int x :: st) := fun H locs ls hP hS hl => lv_imul E.1 E.2.1 d  (k H locs ls hP hS hl)
theorem x_iand {x y : Int32} (E : OKc n cc nL own G K) (d : decode cc pc = .ok (.iand, 1))  (k : XJ sh n nL R G K σ lv (pc + 1) (.int (x &&& y) :: st)) : XJ sh n nL R G K σ lv pc (.int y :: .int x :: st) := fun H locs ls hP hS hl => lv_iand E.1 E.2.1 d  (k H locs ls hP hS hl)
theorem x_ior {x y : Int32} (E : OKc n cc nL own G K) (d : decode cc pc = .ok (.ior, 1))  (k : XJ sh n nL R G K σ lv (pc + 1) (.int (x ||| y) :: st)) : XJ sh n nL R G K σ lv pc (.int y :: .int x :: st) := fun H locs ls hP hS hl => lv_ior E.1 E.2.1 d  (k H locs ls hP hS hl)
theorem x_ixor {x y : Int32} (E : OKc n cc nL own G K) (d : decode cc pc = .ok (.ixor, 1))  (k : XJ sh n nL R G K σ lv (pc + 1) (.int (x ^^^ y) :: st)) : XJ sh n nL R G K σ lv pc (.int y :: .int x :: st) := fun H locs ls hP hS hl => lv_ixor E.1 E.2.1 d  (k H locs ls hP hS hl)
theorem x_ishl {x y : Int32} (E : OKc n cc nL own G K) (d : decode cc pc = .ok (.ishl, 1))  (k : XJ sh n nL R G K σ lv (pc + 1) (.int (x <<< (y &&& 31)) :: st)) : XJ sh n nL R G K σ lv pc (.int y :: .int x :: st) := fun H locs ls hP hS hl => lv_ishl E.1 E.2.1 d  (k H locs ls hP hS hl)
theorem x_ishr {x y : Int32} (E : OKc n cc nL own G K) (d : decode cc pc = .ok (.ishr, 1))  (k : XJ sh n nL R G K σ lv (pc + 1) (.int (x >>> (y &&& 31)) :: st)) : XJ sh n nL R G K σ lv pc (.int y :: .int x :: st) := fun H locs ls hP hS hl => lv_ishr E.1 E.2.1 d  (k H locs ls hP hS hl)
theorem x_iushr {x y : Int32} (E : OKc n cc nL own G K) (d : decode cc pc = .ok (.iushr, 1))  (k : XJ sh n nL R G K σ lv (pc + 1) (.int ((x.toUInt32 >>> (y.toUInt32 &&& Int32.toUInt32 31)).toInt32) :: st)) : XJ sh n nL R G K σ lv pc (.int y :: .int x :: st) := fun H locs ls hP hS hl => lv_iushr E.1 E.2.1 d rfl (k H locs ls hP hS hl)
theorem x_ineg {x : Int32} (E : OKc n cc nL own G K) (d : decode cc pc = .ok (.ineg, 1))  (k : XJ sh n nL R G K σ lv (pc + 1) (.int (-x) :: st)) : XJ sh n nL R G K σ lv pc (.int x :: st) := fun H locs ls hP hS hl => lv_ineg E.1 E.2.1 d  (k H locs ls hP hS hl)
theorem x_ladd {x y : Int64} (E : OKc n cc nL own G K) (d : decode cc pc = .ok (.ladd, 1))  (k : XJ sh n nL R G K σ lv (pc + 1) (.long (x + y) :: st)) : XJ sh n nL R G K σ lv pc (.long y :: .long x :: st) := fun H locs ls hP hS hl => lv_ladd E.1 E.2.1 d  (k H locs ls hP hS hl)
theorem x_lsub {x y : Int64} (E : OKc n cc nL own G K) (d : decode cc pc = .ok (.lsub, 1))  (k : XJ sh n nL R G K σ lv (pc + 1) (.long (x - y) :: st)) : XJ sh n nL R G K σ lv pc (.long y :: .long x :: st) := fun H locs ls hP hS hl => lv_lsub E.1 E.2.1 d  (k H locs ls hP hS hl)
theorem x_lmul {x y : Int64} (E : OKc n cc nL own G K) (d : decode cc pc = .ok (.lmul, 1))  (k : XJ sh n nL R G K σ lv (pc + 1) (.long (x * y) :: st)) : XJ sh n nL R G K σ lv pc (.long y :: .long x :: st) := fun H locs ls hP hS hl => lv_lmul E.1 E.2.1 d  (k H locs ls hP hS hl)
theorem x_land {x y : Int64} (E : OKc n cc nL own G K) (d : decode cc pc = .ok (.land, 1))  (k : XJ sh n nL R G K σ lv (pc + 1) (.long (x &&& y) :: st)) : XJ sh n nL R G K σ lv pc (.long y :: .long x :: st) := fun H locs ls hP hS hl => lv_land E.1 E.2.1 d  (k H locs ls hP hS hl)
theorem x_lor {x y : Int64} (E : OKc n cc nL own G K) (d : decode cc pc = .ok (.lor, 1))  (k : XJ sh n nL R G K σ lv (pc + 1) (.long (x ||| y) :: st)) : XJ sh n nL R G K σ lv pc (.long y :: .long x :: st) := fun H locs ls hP hS hl => lv_lor E.1 E.2.1 d  (k H locs ls hP hS hl)
theorem x_lxor {x y : Int64} (E : OKc n cc nL own G K) (d : decode cc pc = .ok (.lxor, 1))  (k : XJ sh n nL R G K σ lv (pc + 1) (.long (x ^^^ y) :: st)) : XJ sh n nL R G K σ lv pc (.long y :: .long x :: st) := fun H locs ls hP hS hl => lv_lxor E.1 E.2.1 d  (k H locs ls hP hS hl)
theorem x_lushr {x : Int64} {y : Int32} (E : OKc n cc nL own G K) (d : decode cc pc = .ok (.lushr, 1))  (k : XJ sh n nL R G K σ lv (pc + 1) (.long ((x.toUInt64 >>> (y.toInt64.toUInt64 &&& Int64.toUInt64 63)).toInt64) :: st)) : XJ sh n nL R G K σ lv pc (.int y :: .long x :: st) := fun H locs ls hP hS hl => lv_lushr E.1 E.2.1 d rfl (k H locs ls hP hS hl)
theorem x_lshl {x : Int64} {y : Int32} (E : OKc n cc nL own G K) (d : decode cc pc = .ok (.lshl, 1))  (k : XJ sh n nL R G K σ lv (pc + 1) (.long (x <<< (y.toInt64 &&& 63)) :: st)) : XJ sh n nL R G K σ lv pc (.int y :: .long x :: st) := fun H locs ls hP hS hl => lv_lshl E.1 E.2.1 d rfl (k H locs ls hP hS hl)
theorem x_lshr {x : Int64} {y : Int32} (E : OKc n cc nL own G K) (d : decode cc pc = .ok (.lshr, 1))  (k : XJ sh n nL R G K σ lv (pc + 1) (.long (x >>> (y.toInt64 &&& 63)) :: st)) : XJ sh n nL R G K σ lv pc (.int y :: .long x :: st) := fun H locs ls hP hS hl => lv_lshr E.1 E.2.1 d rfl (k H locs ls hP hS hl)
theorem x_i2l {x : Int32} (E : OKc n cc nL own G K) (d : decode cc pc = .ok (.i2l, 1))  (k : XJ sh n nL R G K σ lv (pc + 1) (.long (x.toInt64) :: st)) : XJ sh n nL R G K σ lv pc (.int x :: st) := fun H locs ls hP hS hl => lv_i2l E.1 E.2.1 d rfl (k H locs ls hP hS hl)
theorem x_l2i {x : Int64} (E : OKc n cc nL own G K) (d : decode cc pc = .ok (.l2i, 1))  (k : XJ sh n nL R G K σ lv (pc + 1) (.int (x.toInt32) :: st)) : XJ sh n nL R G K σ lv pc (.long x :: st) := fun H locs ls hP hS hl => lv_l2i E.1 E.2.1 d rfl (k H locs ls hP hS hl)
theorem x_i2b {x : Int32} (E : OKc n cc nL own G K) (d : decode cc pc = .ok (.i2b, 1))  (k : XJ sh n nL R G K σ lv (pc + 1) (.int (x.toInt8.toInt32) :: st)) : XJ sh n nL R G K σ lv pc (.int x :: st) := fun H locs ls hP hS hl => lv_i2b E.1 E.2.1 d rfl (k H locs ls hP hS hl)
theorem x_dup {va : Value} (E : OKc n cc nL own G K) (d : decode cc pc = .ok (.dup, 1)) (h1 : va.category = 1) (k : XJ sh n nL R G K σ lv (pc + 1) (va :: va :: st)) : XJ sh n nL R G K σ lv pc (va :: st) := fun H locs ls hP hS hl => lv_dup E.1 E.2.1 d h1 (k H locs ls hP hS hl)
theorem x_pop {va : Value} (E : OKc n cc nL own G K) (d : decode cc pc = .ok (.pop, 1)) (h1 : va.category = 1) (k : XJ sh n nL R G K σ lv (pc + 1) (st)) : XJ sh n nL R G K σ lv pc (va :: st) := fun H locs ls hP hS hl => lv_pop E.1 E.2.1 d h1 (k H locs ls hP hS hl)
theorem x_pop2 {va : Value} (E : OKc n cc nL own G K) (d : decode cc pc = .ok (.pop2, 1)) (h1 : va.category = 2) (k : XJ sh n nL R G K σ lv (pc + 1) (st)) : XJ sh n nL R G K σ lv pc (va :: st) := fun H locs ls hP hS hl => lv_pop2_2 E.1 E.2.1 d h1 (k H locs ls hP hS hl)
theorem x_dup2 {va vb : Value} (E : OKc n cc nL own G K) (d : decode cc pc = .ok (.dup2, 1)) (h1 : va.category = 1) (h2 : vb.category = 1) (k : XJ sh n nL R G K σ lv (pc + 1) (va :: vb :: va :: vb :: st)) : XJ sh n nL R G K σ lv pc (va :: vb :: st) := fun H locs ls hP hS hl => lv_dup2_11 E.1 E.2.1 d h1 h2 (k H locs ls hP hS hl)
theorem x_idiv {x y : Int32} {a : Option α} (E : OKc n cc nL own G K) (d : decode cc pc = .ok (.idiv, 1)) (hf : chk (!(decide (y = 0))) a = some o) (k : a = some o → XJ sh n nL R G K σ lv (pc + 1) (.int (x / y) :: st)) : XJ sh n nL R G K σ lv pc (.int y :: .int x :: st) := fun H locs ls hP hS hl => lv_idiv E.1 E.2.1 d (by have h := (chk_some hf).1; simpa using h) (k (chk_some hf).2 H locs ls hP hS hl)
theorem x_irem {x y : Int32} {a : Option α} (E : OKc n cc nL own G K) (d : decode cc pc = .ok (.irem, 1)) (hf : chk (!(decide (y = 0))) a = some o) (k : a = some o → XJ sh n nL R G K σ lv (pc + 1) (.int (x - x / y * y) :: st)) : XJ sh n nL R G K σ lv pc (.int y :: .int x :: st) := fun H locs ls hP hS hl => lv_irem E.1 E.2.1 d (by have h := (chk_some hf).1; simpa using h) (k (chk_some hf).2 H locs ls hP hS hl)
theorem x_ldiv {x y : Int64} {a : Option α} (E : OKc n cc nL own G K) (d : decode cc pc = .ok (.ldiv, 1)) (hf : chk (!(decide (y = 0))) a = some o) (k : a = some o → XJ sh n nL R G K σ lv (pc + 1) (.long (x / y) :: st)) : XJ sh n nL R G K σ lv pc (.long y :: .long x :: st) := fun H locs ls hP hS hl => lv_ldiv E.1 E.2.1 d (by have h := (chk_some hf).1; simpa using h) (k (chk_some hf).2 H locs ls hP hS hl)
theorem x_icmp_eq {x y : Int32} {a b o : Option α} {off : Int} {tgt : Nat} (E : OKc n cc nL own G K) (d : decode cc pc = .ok (.if_icmp .eq off, 3)) (ht : (pc : Int) + off = (tgt : Int)) (hf : (if x = y then a else b) = o) (kt : a = o → XJ sh n nL R G K σ lv tgt st) (kf : b = o → XJ sh n nL R G K σ lv (pc + 3) st) : XJ sh n nL R G K σ lv pc (.int y :: .int x :: st) := fun H locs ls hP hS hl => lv_icmp_eq E.1 E.2.1 d ht (fun c => kt ((if_pos c).symm.trans hf) H locs ls hP hS hl) (fun c => kf ((if_neg c).symm.trans hf) H locs ls hP hS hl)
theorem x_icmp_lt {x y : Int32} {a b o : Option α} {off : Int} {tgt : Nat} (E : OKc n cc nL own G K) (d : decode cc pc = .ok (.if_icmp .lt off, 3)) (ht : (pc : Int) + off = (tgt : Int)) (hf : (if x < y then a else b) = o) (kt : a = o → XJ sh n nL R G K σ lv tgt st) (kf : b = o → XJ sh n nL R G K σ lv (pc + 3) st) : XJ sh n nL R G K σ lv pc (.int y :: .int x :: st) := fun H locs ls hP hS hl => lv_icmp_lt E.1 E.2.1 d ht (fun c => kt ((if_pos c).symm.trans hf) H locs ls hP hS hl) (fun c => kf ((if_neg c).symm.trans hf) H locs ls hP hS hl)
theorem x_icmp_ge {x y : Int32} {a b o : Option α} {off : Int} {tgt : Nat} (E : OKc n cc nL own G K) (d : decode cc pc = .ok (.if_icmp .ge off, 3)) (ht : (pc : Int) + off = (tgt : Int)) (hf : (if y ≤ x then a else b) = o) (kt : a = o → XJ sh n nL R G K σ lv tgt st) (kf : b = o → XJ sh n nL R G K σ lv (pc + 3) st) : XJ sh n nL R G K σ lv pc (.int y :: .int x :: st) := fun H locs ls hP hS hl => lv_icmp_ge E.1 E.2.1 d ht (fun c => kt ((if_pos c).symm.trans hf) H locs ls hP hS hl) (fun c => kf ((if_neg c).symm.trans hf) H locs ls hP hS hl)
theorem x_icmp_gt {x y : Int32} {a b o : Option α} {off : Int} {tgt : Nat} (E : OKc n cc nL own G K) (d : decode cc pc = .ok (.if_icmp .gt off, 3)) (ht : (pc : Int) + off = (tgt : Int)) (hf : (if y < x then a else b) = o) (kt : a = o → XJ sh n nL R G K σ lv tgt st) (kf : b = o → XJ sh n nL R G K σ lv (pc + 3) st) : XJ sh n nL R G K σ lv pc (.int y :: .int x :: st) := fun H locs ls hP hS hl => lv_icmp_gt E.1 E.2.1 d ht (fun c => kt ((if_pos c).symm.trans hf) H locs ls hP hS hl) (fun c => kf ((if_neg c).symm.trans hf) H locs ls hP hS hl)
theorem x_icmp_le {x y : Int32} {a b o : Option α} {off : Int} {tgt : Nat} (E : OKc n cc nL own G K) (d : decode cc pc = .ok (.if_icmp .le off, 3)) (ht : (pc : Int) + off = (tgt : Int)) (hf : (if x ≤ y then a else b) = o) (kt : a = o → XJ sh n nL R G K σ lv tgt st) (kf : b = o → XJ sh n nL R G K σ lv (pc + 3) st) : XJ sh n nL R G K σ lv pc (.int y :: .int x :: st) := fun H locs ls hP hS hl => lv_icmp_le E.1 E.2.1 d ht (fun c => kt ((if_pos c).symm.trans hf) H locs ls hP hS hl) (fun c => kf ((if_neg c).symm.trans hf) H locs ls hP hS hl)
theorem x_icmp_ne {x y : Int32} {a b o : Option α} {off : Int} {tgt : Nat} (E : OKc n cc nL own G K) (d : decode cc pc = .ok (.if_icmp .ne off, 3)) (ht : (pc : Int) + off = (tgt : Int)) (hf : (if x = y then a else b) = o) (kt : b = o → XJ sh n nL R G K σ lv tgt st) (kf : a = o → XJ sh n nL R G K σ lv (pc + 3) st) : XJ sh n nL R G K σ lv pc (.int y :: .int x :: st) := fun H locs ls hP hS hl => lv_icmp_ne E.1 E.2.1 d ht (fun c => kt ((if_neg c).symm.trans hf) H locs ls hP hS hl) (fun c => kf ((if_pos c).symm.trans hf) H locs ls hP hS hl)
theorem x_if_eq {x y : Int32} {a b o : Option α} {off : Int} {tgt : Nat} (E : OKc n cc nL own G K) (d : decode cc pc = .ok (.ifCond .eq off, 3)) (ht : (pc : Int) + off = (tgt : Int)) (hf : (if x = 0 then a else b) = o) (kt : a = o → XJ sh n nL R G K σ lv tgt st) (kf : b = o → XJ sh n nL R G K σ lv (pc + 3) st) : XJ sh n nL R G K σ lv pc (.int x :: st) := fun H locs ls hP hS hl => lv_if_eq E.1 E.2.1 d ht (fun c => kt ((if_pos c).symm.trans hf) H locs ls hP hS hl) (fun c => kf ((if_neg c).symm.trans hf) H locs ls hP hS hl)
theorem x_if_lt {x y : Int32} {a b o : Option α} {off : Int} {tgt : Nat} (E : OKc n cc nL own G K) (d : decode cc pc = .ok (.ifCond .lt off, 3)) (ht : (pc : Int) + off = (tgt : Int)) (hf : (if x < 0 then a else b) = o) (kt : a = o → XJ sh n nL R G K σ lv tgt st) (kf : b = o → XJ sh n nL R G K σ lv (pc + 3) st) : XJ sh n nL R G K σ lv pc (.int x :: st) := fun H locs ls hP hS hl => lv_if_lt E.1 E.2.1 d ht (fun c => kt ((if_pos c).symm.trans hf) H locs ls hP hS hl) (fun c => kf ((if_neg c).symm.trans hf) H locs ls hP hS hl)
theorem x_if_ge {x y : Int32} {a b o : Option α} {off : Int} {tgt : Nat} (E : OKc n cc nL own G K) (d : decode cc pc = .ok (.ifCond .ge off, 3)) (ht : (pc : Int) + off = (tgt : Int)) (hf : (if 0 ≤ x then a else b) = o) (kt : a = o → XJ sh n nL R G K σ lv tgt st) (kf : b = o → XJ sh n nL R G K σ lv (pc + 3) st) : XJ sh n nL R G K σ lv pc (.int x :: st) := fun H locs ls hP hS hl => lv_if_ge E.1 E.2.1 d ht (fun c => kt ((if_pos c).symm.trans hf) H locs ls hP hS hl) (fun c => kf ((if_neg c).symm.trans hf) H locs ls hP hS hl)
theorem x_if_gt {x y : Int32} {a b o : Option α} {off : Int} {tgt : Nat} (E : OKc n cc nL own G K) (d : decode cc pc = .ok (.ifCond .gt off, 3)) (ht : (pc : Int) + off = (tgt : Int)) (hf : (if 0 < x then a else b) = o) (kt : a = o → XJ sh n nL R G K σ lv tgt st) (kf : b = o → XJ sh n nL R G K σ lv (pc + 3) st) : XJ sh n nL R G K σ lv pc (.int x :: st) := fun H locs ls hP hS hl => lv_if_gt E.1 E.2.1 d ht (fun c => kt ((if_pos c).symm.trans hf) H locs ls hP hS hl) (fun c => kf ((if_neg c).symm.trans hf) H locs ls hP hS hl)
theorem x_if_le {x y : Int32} {a b o : Option α} {off : Int} {tgt : Nat} (E : OKc n cc nL own G K) (d : decode cc pc = .ok (.ifCond .le off, 3)) (ht : (pc : Int) + off = (tgt : Int)) (hf : (if x ≤ 0 then a else b) = o) (kt : a = o → XJ sh n nL R G K σ lv tgt st) (kf : b = o → XJ sh n nL R G K σ lv (pc + 3) st) : XJ sh n nL R G K σ lv pc (.int x :: st) := fun H locs ls hP hS hl => lv_if_le E.1 E.2.1 d ht (fun c => kt ((if_pos c).symm.trans hf) H locs ls hP hS hl) (fun c => kf ((if_neg c).symm.trans hf) H locs ls hP hS hl)
theorem x_if_ne {x y : Int32} {a b o : Option α} {off : Int} {tgt : Nat} (E : OKc n cc nL own G K) (d : decode cc pc = .ok (.ifCond .ne off, 3)) (ht : (pc : Int) + off = (tgt : Int)) (hf : (if x = 0 then a else b) = o) (kt : b = o → XJ sh n nL R G K σ lv tgt st) (kf : a = o → XJ sh n nL R G K σ lv (pc + 3) st) : XJ sh n nL R G K σ lv pc (.int x :: st) := fun H locs ls hP hS hl => lv_if_ne E.1 E.2.1 d ht (fun c => kt ((if_neg c).symm.trans hf) H locs ls hP hS hl) (fun c => kf ((if_pos c).symm.trans hf) H locs ls hP hS hl)
theorem x_lcmp_eq {x y : Int64} {a b o : Option α} {off : Int} {tgt : Nat} (E : OKc n cc nL own G K) (d : decode cc pc = .ok (.lcmp, 1)) (d2 : decode cc (pc + 1) = .ok (.ifCond .eq off, 3)) (ht : ((pc + 1 : Nat) : Int) + off = (tgt : Int)) (hf : (if x = y then a else b) = o) (kt : a = o → XJ sh n nL R G K σ lv tgt st) (kf : b = o → XJ sh n nL R G K σ lv (pc + 4) st) : XJ sh n nL R G K σ lv pc (.long y :: .long x :: st) := fun H locs ls hP hS hl => W.lcmp E.1 E.2.1 d (lv_if_eq E.1 E.2.1 d2 ht (fun c => kt ((if_pos ((lg_cmp_eq x y).mp c)).symm.trans hf) H locs ls hP hS hl) (fun c => kf ((if_neg (fun q => c ((lg_cmp_eq x y).mpr q))).symm.trans hf) H locs ls hP hS hl))
theorem x_lcmp_lt {x y : Int64} {a b o : Option α} {off : Int} {tgt : Nat} (E : OKc n cc nL own G K) (d : decode cc pc = .ok (.lcmp, 1)) (d2 : decode cc (pc + 1) = .ok (.ifCond .lt off, 3)) (ht : ((pc + 1 : Nat) : Int) + off = (tgt : Int)) (hf : (if x < y then a else b) = o) (kt : a = o → XJ sh n nL R G K σ lv tgt st) (kf : b = o → XJ sh n nL R G K σ lv (pc + 4) st) : XJ sh n nL R G K σ lv pc (.long y :: .long x :: st) := fun H locs ls hP hS hl => W.lcmp E.1 E.2.1 d (lv_if_lt E.1 E.2.1 d2 ht (fun c => kt ((if_pos ((lg_cmp_lt x y).mp c)).symm.trans hf) H locs ls hP hS hl) (fun c => kf ((if_neg (fun q => c ((lg_cmp_lt x y).mpr q))).symm.trans hf) H locs ls hP hS hl))
theorem x_lcmp_ge {x y : Int64} {a b o : Option α} {off : Int} {tgt : Nat} (E : OKc n cc nL own G K) (d : decode cc pc = .ok (.lcmp, 1)) (d2 : decode cc (pc + 1) = .ok (.ifCond .ge off, 3)) (ht : ((pc + 1 : Nat) : Int) + off = (tgt : Int)) (hf : (if y ≤ x then a else b) = o) (kt : a = o → XJ sh n nL R G K σ lv tgt st) (kf : b = o → XJ sh n nL R G K σ lv (pc + 4) st) : XJ sh n nL R G K σ lv pc (.long y :: .long x :: st) := fun H locs ls hP hS hl => W.lcmp E.1 E.2.1 d (lv_if_ge E.1 E.2.1 d2 ht (fun c => kt ((if_pos ((lg_cmp_ge x y).mp c)).symm.trans hf) H locs ls hP hS hl) (fun c => kf ((if_neg (fun q => c ((lg_cmp_ge x y).mpr q))).symm.trans hf) H locs ls hP hS hl))
theorem x_lcmp_gt {x y : Int64} {a b o : Option α} {off : Int} {tgt : Nat} (E : OKc n cc nL own G K) (d : decode cc pc = .ok (.lcmp, 1)) (d2 : decode cc (pc + 1) = .ok (.ifCond .gt off, 3)) (ht : ((pc + 1 : Nat) : Int) + off = (tgt : Int)) (hf : (if y < x then a else b) = o) (kt : a = o → XJ sh n nL R G K σ lv tgt st) (kf : b = o → XJ sh n nL R G K σ lv (pc + 4) st) : XJ sh n nL R G K σ lv pc (.long y :: .long x :: st) := fun H locs ls hP hS hl => W.lcmp E.1 E.2.1 d (lv_if_gt E.1 E.2.1 d2 ht (fun c => kt ((if_pos ((lg_cmp_gt x y).mp c)).symm.trans hf) H locs ls hP hS hl) (fun c => kf ((if_neg (fun q => c ((lg_cmp_gt x y).mpr q))).symm.trans hf) H locs ls hP hS hl))
theorem x_lcmp_le {x y : Int64} {a b o : Option α} {off : Int} {tgt : Nat} (E : OKc n cc nL own G K) (d : decode cc pc = .ok (.lcmp, 1)) (d2 : decode cc (pc + 1) = .ok (.ifCond .le off, 3)) (ht : ((pc + 1 : Nat) : Int) + off = (tgt : Int)) (hf : (if x ≤ y then a else b) = o) (kt : a = o → XJ sh n nL R G K σ lv tgt st) (kf : b = o → XJ sh n nL R G K σ lv (pc + 4) st) : XJ sh n nL R G K σ lv pc (.long y :: .long x :: st) := fun H locs ls hP hS hl => W.lcmp E.1 E.2.1 d (lv_if_le E.1 E.2.1 d2 ht (fun c => kt ((if_pos ((lg_cmp_le x y).mp c)).symm.trans hf) H locs ls hP hS hl) (fun c => kf ((if_neg (fun q => c ((lg_cmp_le x y).mpr q))).symm.trans hf) H locs ls hP hS hl))
theorem x_lcmp_ne {x y : Int64} {a b o : Option α} {off : Int} {tgt : Nat} (E : OKc n cc nL own G K) (d : decode cc pc = .ok (.lcmp, 1)) (d2 : decode cc (pc + 1) = .ok (.ifCond .ne off, 3)) (ht : ((pc + 1 : Nat) : Int) + off = (tgt : Int)) (hf : (if x = y then a else b) = o) (kt : b = o → XJ sh n nL R G K σ lv tgt st) (kf : a = o → XJ sh n nL R G K σ lv (pc + 4) st) : XJ sh n nL R G K σ lv pc (.long y :: .long x :: st) := fun H locs ls hP hS hl => W.lcmp E.1 E.2.1 d (lv_if_ne E.1 E.2.1 d2 ht (fun c => kt ((if_neg (fun q => c ((lg_cmp_eq x y).mpr q))).symm.trans hf) H locs ls hP hS hl) (fun c => kf ((if_pos ((lg_cmp_eq x y).mp c)).symm.trans hf) H locs ls hP hS hl))
theorem x_goto {off : Int} {tgt : Nat} (E : OKc n cc nL own G K) (d : decode cc pc = .ok (.goto off, 3)) (ht : (pc : Int) + off = (tgt : Int)) (k : XJ sh n nL R G K σ lv tgt st) : XJ sh n nL R G K σ lv pc st := fun H locs ls hP hS hl => lv_goto E.1 E.2.1 d ht (k H locs ls hP hS hl)
theorem x_sub (ks : List Nat) (h : lv_pick lv ks = lv') (k : XJ sh n nL R G K σ lv' pc st) : XJ sh n nL R G K σ lv pc st := fun H locs ls hP hS hl => k H locs ls hP hS (lv_sub hl ks h)
theorem x_ldc {index : Nat} {v : Int32} (E : OKc n cc nL own G K) (hw : Cond.constant own index v ∈ wsL_law) (d : decode cc pc = .ok (.ldc index, 2)) (k : XJ sh n nL R G K σ lv (pc + 2) (.int v :: st)) : XJ sh n nL R G K σ lv pc st := fun H locs ls hP hS hl => lv_ldc E.1 E.2.1 E.2.2.2.1 (E.2.2.2.2.1 _ hw) d (k H locs ls hP hS hl)
theorem x_ldcw {index : Nat} {v : Int32} (E : OKc n cc nL own G K) (hw : Cond.constant own index v ∈ wsL_law) (d : decode cc pc = .ok (.ldc_w index, 3)) (k : XJ sh n nL R G K σ lv (pc + 3) (.int v :: st)) : XJ sh n nL R G K σ lv pc st := fun H locs ls hP hS hl => lv_ldcw E.1 E.2.1 E.2.2.2.1 (E.2.2.2.2.1 _ hw) d (k H locs ls hP hS hl)
theorem x_ldc2 {index : Nat} {v : Int64} (E : OKc n cc nL own G K) (hw : Cond.constantLong own index v ∈ wsL_law) (d : decode cc pc = .ok (.ldc2_w index, 3)) (k : XJ sh n nL R G K σ lv (pc + 3) (.long v :: st)) : XJ sh n nL R G K σ lv pc st := fun H locs ls hP hS hl => lv_ldc2 E.1 E.2.1 E.2.2.2.1 (E.2.2.2.2.1 _ hw) d (k H locs ls hP hS hl)
theorem x_get {index k ci N p kd : Nat} {fl : List Nat} {C : String} {T : u_T} (E : OKc n cc nL own G K) (hs : sh k = .inl (ci, fl)) (hk : k < n) (hc : vwCl[ci]? = some (C, T, N)) (hin : ∀ w ∈ u_ws C T N, w ∈ wsL_law) (hp : p < N) (hfl : fl[p]? = some kd) (hw : Cond.fieldLink own index (T p).1 (T p).2.1 (T p).2.2.1 ∈ wsL_law) (d : decode cc pc = .ok (.getfield index, 3)) (kk : XJ sh n nL R G K σ lv (pc + 3) (gfv G σ k p kd :: st)) : XJ sh n nL R G K σ lv pc (.ref (gad G k) :: st) := fun H locs ls hP hS hl => va_get E.1 E.2.1 E.2.2.2.2.1 hin E.2.2.2.1 E.2.2.2.2.2.1 hP k (fs := fl.mapIdx (gfv G σ k)) (by rw [wl_get hk, hs]; rfl) hc p hp (E.2.2.2.2.1 _ hw) (fun _ h9 => h9) (fld_get hfl) d (kk H locs ls hP hS hl)
theorem x_getI {index k ci N p r : Nat} {fl : List Nat} {C : String} {T : u_T} (E : OKc n cc nL own G K) (hs : sh k = .inl (ci, fl)) (hk : k < n) (hc : vwCl[ci]? = some (C, T, N)) (hin : ∀ w ∈ u_ws C T N, w ∈ wsL_law) (hp : p < N) (hfl : fl[p]? = some 0) (hw : Cond.fieldLink own index (T p).1 (T p).2.1 (T p).2.2.1 ∈ wsL_law) (d : decode cc pc = .ok (.getfield index, 3)) (kk : XJ sh n nL R G K σ lv (pc + 3) (.int (σ.1 k p) :: st)) : XJ sh n nL R G K σ lv pc (.ref (gad G k) :: st) := x_get E hs hk hc hin hp hfl hw d kk
theorem x_getJ {index k ci N p r : Nat} {fl : List Nat} {C : String} {T : u_T} (E : OKc n cc nL own G K) (hs : sh k = .inl (ci, fl)) (hk : k < n) (hc : vwCl[ci]? = some (C, T, N)) (hin : ∀ w ∈ u_ws C T N, w ∈ wsL_law) (hp : p < N) (hfl : fl[p]? = some 1) (hw : Cond.fieldLink own index (T p).1 (T p).2.1 (T p).2.2.1 ∈ wsL_law) (d : decode cc pc = .ok (.getfield index, 3)) (kk : XJ sh n nL R G K σ lv (pc + 3) (.long (σ.2 k p) :: st)) : XJ sh n nL R G K σ lv pc (.ref (gad G k) :: st) := x_get E hs hk hc hin hp hfl hw d kk
theorem x_getR {index k ci N p r : Nat} {fl : List Nat} {C : String} {T : u_T} (E : OKc n cc nL own G K) (hs : sh k = .inl (ci, fl)) (hk : k < n) (hc : vwCl[ci]? = some (C, T, N)) (hin : ∀ w ∈ u_ws C T N, w ∈ wsL_law) (hp : p < N) (hfl : fl[p]? = some (r + 2)) (hw : Cond.fieldLink own index (T p).1 (T p).2.1 (T p).2.2.1 ∈ wsL_law) (d : decode cc pc = .ok (.getfield index, 3)) (kk : XJ sh n nL R G K σ lv (pc + 3) (.ref (gad G r) :: st)) : XJ sh n nL R G K σ lv pc (.ref (gad G k) :: st) := x_get E hs hk hc hin hp hfl hw d kk
theorem x_put {index k ci N p : Nat} {fl : List Nat} {C : String} {T : u_T} {ty0 : Nat → FieldType} {x : Int32} {F : MM → Option α} (E : OKc n cc nL own G K) (hs : sh k = .inl (ci, fl)) (hk : k < n) (hc : vwCl[ci]? = some (C, T, N)) (hin : ∀ w ∈ u_ws C T N, w ∈ wsL_law) (hty : ∀ k, k < N → parseFieldDescriptor (T k).2.2.1 = some (ty0 k)) (hnm : ∀ a, a < N → ∀ b, b < N → a ≠ b → (T a).2.1 ≠ (T b).2.1) (hp : p < N) (hfl : fl[p]? = some 0) (hfin : (T p).2.2.2 = false) (hn : narrow (ty0 p) (.int x) = .int x) (hfit : fits (ty0 p) (.int x) = true) (hw : Cond.fieldLink own index (T p).1 (T p).2.1 (T p).2.2.1 ∈ wsL_law) (d : decode cc pc = .ok (.putfield index, 3)) (hf : lm (stI σ k p x) F = some o) (kk : ∀ σ1, F σ1 = some o → XJ sh n nL R G K σ1 lv (pc + 3) st) : XJ sh n nL R G K σ lv pc (.int x :: .ref (gad G k) :: st) := fun H locs ls hP hS hl => va_put E.1 E.2.1 E.2.2.2.2.1 hin ty0 hty hnm E.2.2.2.1 E.2.2.2.2.2.1 hP (wl_D E.2.2.2.2.2.2.1) hS k (fs := fl.mapIdx (gfv G σ k)) (by rw [wl_get hk, hs]; rfl) hc p hp (E.2.2.2.2.1 _ hw) (fun _ h9 => h9) hfin (hty p hp) hn hfit (by rw [List.length_mapIdx]; exact (List.getElem?_eq_some_iff.mp hfl).1) d (fun H1 locs1 hP1 _ hS1 => kk (stI σ k p x) hf H1 locs1 ls (by rw [wl_set (σ' := stI σ k p x) (by rw [hs]; show Sum.inr (ci, fl.mapIdx (gfv G (stI σ k p x) k)) = _; rw [fld_setI hfl]) stI_ne (fun _ _ => rfl)] at hP1; exact hP1) hS1 hl)
theorem x_putZ {index k ci N p : Nat} {fl : List Nat} {C : String} {T : u_T} {ty0 : Nat → FieldType} {x : Int32} {F : MM → Option α} (E : OKc n cc nL own G K) (hs : sh k = .inl (ci, fl)) (hk : k < n) (hc : vwCl[ci]? = some (C, T, N)) (hin : ∀ w ∈ u_ws C T N, w ∈ wsL_law) (hty : ∀ k, k < N → parseFieldDescriptor (T k).2.2.1 = some (ty0 k)) (hnm : ∀ a, a < N → ∀ b, b < N → a ≠ b → (T a).2.1 ≠ (T b).2.1) (hp : p < N) (hfl : fl[p]? = some 0) (hfin : (T p).2.2.2 = false) (hb : ty0 p = .boolean) (hw : Cond.fieldLink own index (T p).1 (T p).2.1 (T p).2.2.1 ∈ wsL_law) (d : decode cc pc = .ok (.putfield index, 3)) (hf : chk (isB x) (lm (stI σ k p x) F) = some o) (kk : ∀ σ1, F σ1 = some o → XJ sh n nL R G K σ1 lv (pc + 3) st) : XJ sh n nL R G K σ lv pc (.int x :: .ref (gad G k) :: st) := x_put E hs hk hc hin hty hnm hp hfl hfin (by rw [hb]; exact isB_nar (chk_some hf).1) (by rw [hb]; exact isB_fit (chk_some hf).1) hw d (chk_some hf).2 kk
theorem x_putL {index k ci N p : Nat} {fl : List Nat} {C : String} {T : u_T} {ty0 : Nat → FieldType} {x : Int64} {F : MM → Option α} (E : OKc n cc nL own G K) (hs : sh k = .inl (ci, fl)) (hk : k < n) (hc : vwCl[ci]? = some (C, T, N)) (hin : ∀ w ∈ u_ws C T N, w ∈ wsL_law) (hty : ∀ k, k < N → parseFieldDescriptor (T k).2.2.1 = some (ty0 k)) (hnm : ∀ a, a < N → ∀ b, b < N → a ≠ b → (T a).2.1 ≠ (T b).2.1) (hp : p < N) (hfl : fl[p]? = some 1) (hfin : (T p).2.2.2 = false) (hn : narrow (ty0 p) (.long x) = .long x) (hfit : fits (ty0 p) (.long x) = true) (hw : Cond.fieldLink own index (T p).1 (T p).2.1 (T p).2.2.1 ∈ wsL_law) (d : decode cc pc = .ok (.putfield index, 3)) (hf : lm (stL σ k p x) F = some o) (kk : ∀ σ1, F σ1 = some o → XJ sh n nL R G K σ1 lv (pc + 3) st) : XJ sh n nL R G K σ lv pc (.long x :: .ref (gad G k) :: st) := fun H locs ls hP hS hl => va_put E.1 E.2.1 E.2.2.2.2.1 hin ty0 hty hnm E.2.2.2.1 E.2.2.2.2.2.1 hP (wl_D E.2.2.2.2.2.2.1) hS k (fs := fl.mapIdx (gfv G σ k)) (by rw [wl_get hk, hs]; rfl) hc p hp (E.2.2.2.2.1 _ hw) (fun _ h9 => h9) hfin (hty p hp) hn hfit (by rw [List.length_mapIdx]; exact (List.getElem?_eq_some_iff.mp hfl).1) d (fun H1 locs1 hP1 _ hS1 => kk (stL σ k p x) hf H1 locs1 ls (by rw [wl_set (σ := σ) (σ' := stL σ k p x) (by rw [hs]; show Sum.inr (ci, fl.mapIdx (gfv G (stL σ k p x) k)) = _; rw [fld_setL hfl]) (fun _ _ => rfl) stL_ne] at hP1; exact hP1) hS1 hl)
theorem x_getN {host : String} {index k ci N p kd : Nat} {fl : List Nat} {C : String} {T : u_T} (E : OKc n cc nL own G K) (hs : sh k = .inl (ci, fl)) (hk : k < n) (hc : vwCl[ci]? = some (C, T, N)) (hin : ∀ w ∈ u_ws C T N, w ∈ wsL_law) (hp : p < N) (hfl : fl[p]? = some kd) (hw : Cond.fieldLinkNest own index (T p).1 (T p).2.1 (T p).2.2.1 host ∈ nestW) (d : decode cc pc = .ok (.getfield index, 3)) (kk : XJ sh n nL R G K σ lv (pc + 3) (gfv G σ k p kd :: st)) : XJ sh n nL R G K σ lv pc (.ref (gad G k) :: st) := fun H locs ls hP hS hl => va_getN E.1 E.2.1 E.2.2.2.2.1 hin E.2.2.2.1 E.2.2.2.2.2.1 hP k (fs := fl.mapIdx (gfv G σ k)) (by rw [wl_get hk, hs]; rfl) hc p hp (va_Nw.use rfl (E.2.2.2.2.2.2.2.1 _ hw)) (fun _ h9 => h9) (fld_get hfl) d (kk H locs ls hP hS hl)
theorem x_getIN {host : String} {index k ci N p r : Nat} {fl : List Nat} {C : String} {T : u_T} (E : OKc n cc nL own G K) (hs : sh k = .inl (ci, fl)) (hk : k < n) (hc : vwCl[ci]? = some (C, T, N)) (hin : ∀ w ∈ u_ws C T N, w ∈ wsL_law) (hp : p < N) (hfl : fl[p]? = some 0) (hw : Cond.fieldLinkNest own index (T p).1 (T p).2.1 (T p).2.2.1 host ∈ nestW) (d : decode cc pc = .ok (.getfield index, 3)) (kk : XJ sh n nL R G K σ lv (pc + 3) (.int (σ.1 k p) :: st)) : XJ sh n nL R G K σ lv pc (.ref (gad G k) :: st) := x_getN E hs hk hc hin hp hfl hw d kk
theorem x_getJN {host : String} {index k ci N p r : Nat} {fl : List Nat} {C : String} {T : u_T} (E : OKc n cc nL own G K) (hs : sh k = .inl (ci, fl)) (hk : k < n) (hc : vwCl[ci]? = some (C, T, N)) (hin : ∀ w ∈ u_ws C T N, w ∈ wsL_law) (hp : p < N) (hfl : fl[p]? = some 1) (hw : Cond.fieldLinkNest own index (T p).1 (T p).2.1 (T p).2.2.1 host ∈ nestW) (d : decode cc pc = .ok (.getfield index, 3)) (kk : XJ sh n nL R G K σ lv (pc + 3) (.long (σ.2 k p) :: st)) : XJ sh n nL R G K σ lv pc (.ref (gad G k) :: st) := x_getN E hs hk hc hin hp hfl hw d kk
theorem x_getRN {host : String} {index k ci N p r : Nat} {fl : List Nat} {C : String} {T : u_T} (E : OKc n cc nL own G K) (hs : sh k = .inl (ci, fl)) (hk : k < n) (hc : vwCl[ci]? = some (C, T, N)) (hin : ∀ w ∈ u_ws C T N, w ∈ wsL_law) (hp : p < N) (hfl : fl[p]? = some (r + 2)) (hw : Cond.fieldLinkNest own index (T p).1 (T p).2.1 (T p).2.2.1 host ∈ nestW) (d : decode cc pc = .ok (.getfield index, 3)) (kk : XJ sh n nL R G K σ lv (pc + 3) (.ref (gad G r) :: st)) : XJ sh n nL R G K σ lv pc (.ref (gad G k) :: st) := x_getN E hs hk hc hin hp hfl hw d kk
theorem x_putN {host : String} {index k ci N p : Nat} {fl : List Nat} {C : String} {T : u_T} {ty0 : Nat → FieldType} {x : Int32} {F : MM → Option α} (E : OKc n cc nL own G K) (hs : sh k = .inl (ci, fl)) (hk : k < n) (hc : vwCl[ci]? = some (C, T, N)) (hin : ∀ w ∈ u_ws C T N, w ∈ wsL_law) (hty : ∀ k, k < N → parseFieldDescriptor (T k).2.2.1 = some (ty0 k)) (hnm : ∀ a, a < N → ∀ b, b < N → a ≠ b → (T a).2.1 ≠ (T b).2.1) (hp : p < N) (hfl : fl[p]? = some 0) (hfin : (T p).2.2.2 = false) (hn : narrow (ty0 p) (.int x) = .int x) (hfit : fits (ty0 p) (.int x) = true) (hw : Cond.fieldLinkNest own index (T p).1 (T p).2.1 (T p).2.2.1 host ∈ nestW) (d : decode cc pc = .ok (.putfield index, 3)) (hf : lm (stI σ k p x) F = some o) (kk : ∀ σ1, F σ1 = some o → XJ sh n nL R G K σ1 lv (pc + 3) st) : XJ sh n nL R G K σ lv pc (.int x :: .ref (gad G k) :: st) := fun H locs ls hP hS hl => va_putN E.1 E.2.1 E.2.2.2.2.1 hin ty0 hty hnm E.2.2.2.1 E.2.2.2.2.2.1 hP (wl_D E.2.2.2.2.2.2.1) hS k (fs := fl.mapIdx (gfv G σ k)) (by rw [wl_get hk, hs]; rfl) hc p hp (va_Nw.use rfl (E.2.2.2.2.2.2.2.1 _ hw)) (fun _ h9 => h9) hfin (hty p hp) hn hfit (by rw [List.length_mapIdx]; exact (List.getElem?_eq_some_iff.mp hfl).1) d (fun H1 locs1 hP1 _ hS1 => kk (stI σ k p x) hf H1 locs1 ls (by rw [wl_set (σ' := stI σ k p x) (by rw [hs]; show Sum.inr (ci, fl.mapIdx (gfv G (stI σ k p x) k)) = _; rw [fld_setI hfl]) stI_ne (fun _ _ => rfl)] at hP1; exact hP1) hS1 hl)
theorem x_putZN {host : String} {index k ci N p : Nat} {fl : List Nat} {C : String} {T : u_T} {ty0 : Nat → FieldType} {x : Int32} {F : MM → Option α} (E : OKc n cc nL own G K) (hs : sh k = .inl (ci, fl)) (hk : k < n) (hc : vwCl[ci]? = some (C, T, N)) (hin : ∀ w ∈ u_ws C T N, w ∈ wsL_law) (hty : ∀ k, k < N → parseFieldDescriptor (T k).2.2.1 = some (ty0 k)) (hnm : ∀ a, a < N → ∀ b, b < N → a ≠ b → (T a).2.1 ≠ (T b).2.1) (hp : p < N) (hfl : fl[p]? = some 0) (hfin : (T p).2.2.2 = false) (hb : ty0 p = .boolean) (hw : Cond.fieldLinkNest own index (T p).1 (T p).2.1 (T p).2.2.1 host ∈ nestW) (d : decode cc pc = .ok (.putfield index, 3)) (hf : chk (isB x) (lm (stI σ k p x) F) = some o) (kk : ∀ σ1, F σ1 = some o → XJ sh n nL R G K σ1 lv (pc + 3) st) : XJ sh n nL R G K σ lv pc (.int x :: .ref (gad G k) :: st) := x_putN E hs hk hc hin hty hnm hp hfl hfin (by rw [hb]; exact isB_nar (chk_some hf).1) (by rw [hb]; exact isB_fit (chk_some hf).1) hw d (chk_some hf).2 kk
theorem x_iaload {k N z : Nat} {i : Int32} {a : Option α} (E : OKc n cc nL own G K) (hs : sh k = .inr (0, N, z)) (hk : k < n) (d : decode cc pc = .ok (.iaload, 1)) (hf : chk (inb i N) a = some o) (kk : a = some o → XJ sh n nL R G K σ lv (pc + 1) (.int (σ.1 k i.toNatClampNeg) :: st)) : XJ sh n nL R G K σ lv pc (.int i :: .ref (gad G k) :: st) := fun H locs ls hP hS hl => va_iald E.1 E.2.1 E.2.2.2.2.2.1 hP k 0 (by rw [wl_get hk, hs]; rfl) rfl (inb_in (chk_some hf).1) d (kk (chk_some hf).2 H locs ls hP hS hl)
theorem x_laload {k N z : Nat} {i : Int32} {a : Option α} (E : OKc n cc nL own G K) (hs : sh k = .inr (1, N, z)) (hk : k < n) (d : decode cc pc = .ok (.laload, 1)) (hf : chk (inb i N) a = some o) (kk : a = some o → XJ sh n nL R G K σ lv (pc + 1) (.long (σ.2 k i.toNatClampNeg) :: st)) : XJ sh n nL R G K σ lv pc (.int i :: .ref (gad G k) :: st) := fun H locs ls hP hS hl => va_lald E.1 E.2.1 E.2.2.2.2.2.1 hP k 1 (by rw [wl_get hk, hs]; rfl) rfl (inb_in (chk_some hf).1) d (kk (chk_some hf).2 H locs ls hP hS hl)
theorem x_baload {k N z : Nat} {i : Int32} {a : Option α} (E : OKc n cc nL own G K) (hs : sh k = .inr (2, N, z)) (hk : k < n) (d : decode cc pc = .ok (.baload, 1)) (hf : chk (inb i N) a = some o) (kk : a = some o → XJ sh n nL R G K σ lv (pc + 1) (.int (σ.1 k i.toNatClampNeg) :: st)) : XJ sh n nL R G K σ lv pc (.int i :: .ref (gad G k) :: st) := fun H locs ls hP hS hl => va_bald E.1 E.2.1 E.2.2.2.2.2.1 hP k 2 (by rw [wl_get hk, hs]; rfl) rfl (inb_in (chk_some hf).1) d (kk (chk_some hf).2 H locs ls hP hS hl)
theorem x_aaload {k N r z : Nat} {i : Int32} {a : Option α} (E : OKc n cc nL own G K) (hs : sh k = .inr (z + 3, N, r)) (hk : k < n) (d : decode cc pc = .ok (.aaload, 1)) (hf : chk (inb i N) a = some o) (kk : inb i N = true → a = some o → XJ sh n nL R G K σ lv (pc + 1) (.ref (gad G (r + i.toNatClampNeg)) :: st)) : XJ sh n nL R G K σ lv pc (.int i :: .ref (gad G k) :: st) := by
  intro H locs ls hP hS hl
  have hi := (chk_some hf).1
  have hlt : i.toNatClampNeg < N := inb_lt hi
  have hcell := hP k _ (wl_get (sh := sh) (G := G) (σ := σ) hk)
  rw [hs] at hcell
  refine W.aald (v := .ref (gad G (r + i.toNatClampNeg))) (ty := .array .long) E.1 E.2.1 hcell ((E.2.2.2.2.2.1.2 3 _ rfl).1 N (fun j => va_rf (if j < N then some (gad G (r + j)) else none))) rfl (fun q => by cases q) (by show ¬ (i < 0 ∨ (arrV _ _ _).slots.size ≤ _); rw [arrV_size]; exact inb_in hi) (by show (arrV _ _ _).slots[_]? = _; rw [arrV_read _ _ hlt]; show some (va_rf (if i.toNatClampNeg < N then some (gad G (r + i.toNatClampNeg)) else none)) = _; rw [if_pos hlt]; rfl) rfl rfl d (kk hi (chk_some hf).2 H locs ls hP hS hl)
theorem x_iastore {k N z : Nat} {i x : Int32} {F : MM → Option α} (E : OKc n cc nL own G K) (hs : sh k = .inr (0, N, z)) (hk : k < n) (d : decode cc pc = .ok (.iastore, 1)) (hf : chk (inb i N) (lm (stI σ k i.toNatClampNeg x) F) = some o) (kk : ∀ σ1, F σ1 = some o → XJ sh n nL R G K σ1 lv (pc + 1) st) : XJ sh n nL R G K σ lv pc (.int x :: .int i :: .ref (gad G k) :: st) := fun H locs ls hP hS hl => va_iast E.1 E.2.1 E.2.2.2.2.2.1 hP (wl_D E.2.2.2.2.2.2.1) hS k 0 (by rw [wl_get hk, hs]; rfl) rfl (inb_in (chk_some hf).1) d (fun H1 locs1 hP1 _ hS1 => kk _ (chk_some hf).2 H1 locs1 ls (by rw [wl_set (σ' := stI σ k i.toNatClampNeg x) (by rw [hs]; show Sum.inl (_, _, Sum.inl ((stI σ k i.toNatClampNeg x).1 k)) = _; rw [stI_eq]) stI_ne (fun _ _ => rfl)] at hP1; exact hP1) hS1 hl)
theorem x_bastore {k N z : Nat} {i x : Int32} {F : MM → Option α} (E : OKc n cc nL own G K) (hs : sh k = .inr (2, N, z)) (hk : k < n) (d : decode cc pc = .ok (.bastore, 1)) (hf : chk (inb i N) (lm (stI σ k i.toNatClampNeg (vp_nar .byte x)) F) = some o) (kk : ∀ σ1, F σ1 = some o → XJ sh n nL R G K σ1 lv (pc + 1) st) : XJ sh n nL R G K σ lv pc (.int x :: .int i :: .ref (gad G k) :: st) := fun H locs ls hP hS hl => va_bast E.1 E.2.1 E.2.2.2.2.2.1 hP (wl_D E.2.2.2.2.2.2.1) hS k 2 (by rw [wl_get hk, hs]; rfl) rfl (inb_in (chk_some hf).1) d (fun H1 locs1 hP1 _ hS1 => kk _ (chk_some hf).2 H1 locs1 ls (by rw [wl_set (σ' := stI σ k i.toNatClampNeg (vp_nar .byte x)) (by rw [hs]; show Sum.inl (_, _, Sum.inl ((stI σ k i.toNatClampNeg (vp_nar .byte x)).1 k)) = _; rw [stI_eq]) stI_ne (fun _ _ => rfl)] at hP1; exact hP1) hS1 hl)
theorem x_lastore {k N z : Nat} {i : Int32} {x : Int64} {F : MM → Option α} (E : OKc n cc nL own G K) (hs : sh k = .inr (1, N, z)) (hk : k < n) (d : decode cc pc = .ok (.lastore, 1)) (hf : chk (inb i N) (lm (stL σ k i.toNatClampNeg x) F) = some o) (kk : ∀ σ1, F σ1 = some o → XJ sh n nL R G K σ1 lv (pc + 1) st) : XJ sh n nL R G K σ lv pc (.long x :: .int i :: .ref (gad G k) :: st) := fun H locs ls hP hS hl => va_last E.1 E.2.1 E.2.2.2.2.2.1 hP (wl_D E.2.2.2.2.2.2.1) hS k 1 (by rw [wl_get hk, hs]; rfl) rfl (inb_in (chk_some hf).1) d (fun H1 locs1 hP1 _ hS1 => kk _ (chk_some hf).2 H1 locs1 ls (by rw [wl_set (σ := σ) (σ' := stL σ k i.toNatClampNeg x) (by rw [hs]; show Sum.inl (_, _, Sum.inr (Sum.inl ((stL σ k i.toNatClampNeg x).2 k))) = _; rw [stL_eq]) (fun _ _ => rfl) stL_ne] at hP1; exact hP1) hS1 hl)
theorem x_getsL {index : Nat} (E : OKc n cc nL own G K) (hw : Cond.fieldLink own index "StruckJury" "LEAST" "[I" ∈ wsL_law) (d : decode cc pc = .ok (.getstatic index, 3)) (kk : XJ sh n nL R G K σ lv (pc + 3) (.ref (gtL G) :: st)) : XJ sh n nL R G K σ lv pc st := fun H locs ls hP hS hl => va_gets E.1 E.2.1 E.2.2.2.2.2.2.2.2.1.1.1 hS E.2.2.2.1 (E.2.2.2.2.1 _ hw) (fun _ h9 => h9) d (kk H locs ls hP hS hl)
theorem x_getsG {index : Nat} (E : OKc n cc nL own G K) (hw : Cond.fieldLink own index "StruckJury" "GREATEST" "[I" ∈ wsL_law) (d : decode cc pc = .ok (.getstatic index, 3)) (kk : XJ sh n nL R G K σ lv (pc + 3) (.ref (gtG G) :: st)) : XJ sh n nL R G K σ lv pc st := fun H locs ls hP hS hl => va_gets E.1 E.2.1 E.2.2.2.2.2.2.2.2.1.2.1 hS E.2.2.2.1 (E.2.2.2.2.1 _ hw) (fun _ h9 => h9) d (kk H locs ls hP hS hl)
theorem x_getsLN {index : Nat} {host : String} (E : OKc n cc nL own G K) (hw : Cond.fieldLinkNest own index "StruckJury" "LEAST" "[I" host ∈ nestW) (d : decode cc pc = .ok (.getstatic index, 3)) (kk : XJ sh n nL R G K σ lv (pc + 3) (.ref (gtL G) :: st)) : XJ sh n nL R G K σ lv pc st := fun H locs ls hP hS hl => va_getsN E.1 E.2.1 E.2.2.2.2.2.2.2.2.1.1.1 hS E.2.2.2.1 (va_Nw.use rfl (E.2.2.2.2.2.2.2.1 _ hw)) (fun _ h9 => h9) d (kk H locs ls hP hS hl)
theorem x_getsGN {index : Nat} {host : String} (E : OKc n cc nL own G K) (hw : Cond.fieldLinkNest own index "StruckJury" "GREATEST" "[I" host ∈ nestW) (d : decode cc pc = .ok (.getstatic index, 3)) (kk : XJ sh n nL R G K σ lv (pc + 3) (.ref (gtG G) :: st)) : XJ sh n nL R G K σ lv pc st := fun H locs ls hP hS hl => va_getsN E.1 E.2.1 E.2.2.2.2.2.2.2.2.1.2.1 hS E.2.2.2.1 (va_Nw.use rfl (E.2.2.2.2.2.2.2.1 _ hw)) (fun _ h9 => h9) d (kk H locs ls hP hS hl)
theorem x_tLoad {i : Int32} {a : Option α} (E : OKc n cc nL own G K) (d : decode cc pc = .ok (.iaload, 1)) (hf : chk (inb i 5) a = some o) (kk : a = some o → XJ sh n nL R G K σ lv (pc + 1) (.int (tLeast i.toNatClampNeg) :: st)) : XJ sh n nL R G K σ lv pc (.int i :: .ref (gtL G) :: st) := fun H locs ls hP hS hl => va_ti E.1 E.2.1 E.2.2.2.2.2.2.2.2.1.1.2 hS (inb_in (chk_some hf).1) rfl d (kk (chk_some hf).2 H locs ls hP hS hl)
theorem x_tMost {i : Int32} {a : Option α} (E : OKc n cc nL own G K) (d : decode cc pc = .ok (.iaload, 1)) (hf : chk (inb i 5) a = some o) (kk : a = some o → XJ sh n nL R G K σ lv (pc + 1) (.int (tMost i.toNatClampNeg) :: st)) : XJ sh n nL R G K σ lv pc (.int i :: .ref (gtG G) :: st) := fun H locs ls hP hS hl => va_ti E.1 E.2.1 E.2.2.2.2.2.2.2.2.1.2.2 hS (inb_in (chk_some hf).1) rfl d (kk (chk_some hf).2 H locs ls hP hS hl)
theorem x_mmax {index : Nat} {x y : Int32} (E : OKc n cc nL own G K) (hw : Cond.methodLink own index Lib.Math.max.name ∈ wsL_law) (hw2 : Cond.static Lib.Math.max.name ∈ wsL_law) (hw3 : Cond.initialized "java/lang/Math" ∈ wsL_law) (hw4 : Cond.code Lib.Math.max.name Lib.Math.max.code 2 (some .int) ∈ wsL_law) (hfr : 1 ≤ R.frames) (hlo : (st.map fun v => v.category).sum + 13 ≤ R.locals) (d : decode cc pc = .ok (.invokestatic index, 3)) (kk : XJ sh n nL R G K σ lv (pc + 3) (.int (if x < y then y else x) :: st)) : XJ sh n nL R G K σ lv pc (.int y :: .int x :: st) := fun H locs ls hP hS hl => va_mmax E.1 E.2.1 (E.2.2.1.trans hl.1.symm) E.2.2.2.1 (E.2.2.2.2.1 _ hw) (E.2.2.2.2.1 _ hw2) (E.2.2.2.2.1 _ hw3) (E.2.2.2.2.1 _ hw4) hfr hlo (Nat.zero_le _) (Nat.zero_le _) d (kk H locs ls hP hS hl)
theorem x_mmin {index : Nat} {x y : Int32} (E : OKc n cc nL own G K) (hw : Cond.methodLink own index Lib.Math.min.name ∈ wsL_law) (hw2 : Cond.static Lib.Math.min.name ∈ wsL_law) (hw3 : Cond.initialized "java/lang/Math" ∈ wsL_law) (hw4 : Cond.code Lib.Math.min.name Lib.Math.min.code 2 (some .int) ∈ wsL_law) (hfr : 1 ≤ R.frames) (hlo : (st.map fun v => v.category).sum + 13 ≤ R.locals) (d : decode cc pc = .ok (.invokestatic index, 3)) (kk : XJ sh n nL R G K σ lv (pc + 3) (.int (if y < x then y else x) :: st)) : XJ sh n nL R G K σ lv pc (.int y :: .int x :: st) := fun H locs ls hP hS hl => va_mmin E.1 E.2.1 (E.2.2.1.trans hl.1.symm) E.2.2.2.1 (E.2.2.2.2.1 _ hw) (E.2.2.2.2.1 _ hw2) (E.2.2.2.2.1 _ hw3) (E.2.2.2.2.1 _ hw4) hfr hlo (Nat.zero_le _) (Nat.zero_le _) d (kk H locs ls hP hS hl)
theorem x_mmaxL {index : Nat} {x y : Int64} (E : OKc n cc nL own G K) (hw : Cond.methodLink own index Lib.MathLoose.max_long.x ∈ wsL_law) (hw2 : Cond.static Lib.MathLoose.max_long.x ∈ wsL_law) (hw3 : Cond.initialized "java/lang/Math" ∈ wsL_law) (hw4 : Cond.code Lib.MathLoose.max_long.x Lib.MathLoose.max_long.code 4 (some .long) ∈ wsL_law) (hfr : 1 ≤ R.frames) (hlo : (st.map fun v => v.category).sum + 15 ≤ R.locals) (d : decode cc pc = .ok (.invokestatic index, 3)) (kk : XJ sh n nL R G K σ lv (pc + 3) (.long (if y < x then x else y) :: st)) : XJ sh n nL R G K σ lv pc (.long y :: .long x :: st) := fun H locs ls hP hS hl => va_mmax_long E.1 E.2.1 (E.2.2.1.trans hl.1.symm) E.2.2.2.1 (E.2.2.2.2.1 _ hw) (E.2.2.2.2.1 _ hw2) (E.2.2.2.2.1 _ hw3) (E.2.2.2.2.1 _ hw4) hfr hlo (Nat.zero_le _) (Nat.zero_le _) d (kk H locs ls hP hS hl)
theorem x_mminL {index : Nat} {x y : Int64} (E : OKc n cc nL own G K) (hw : Cond.methodLink own index Lib.MathLoose.min_long.x ∈ wsL_law) (hw2 : Cond.static Lib.MathLoose.min_long.x ∈ wsL_law) (hw3 : Cond.initialized "java/lang/Math" ∈ wsL_law) (hw4 : Cond.code Lib.MathLoose.min_long.x Lib.MathLoose.min_long.code 4 (some .long) ∈ wsL_law) (hfr : 1 ≤ R.frames) (hlo : (st.map fun v => v.category).sum + 15 ≤ R.locals) (d : decode cc pc = .ok (.invokestatic index, 3)) (kk : XJ sh n nL R G K σ lv (pc + 3) (.long (if y < x then y else x) :: st)) : XJ sh n nL R G K σ lv pc (.long y :: .long x :: st) := fun H locs ls hP hS hl => va_mmin_long E.1 E.2.1 (E.2.2.1.trans hl.1.symm) E.2.2.2.1 (E.2.2.2.2.1 _ hw) (E.2.2.2.2.1 _ hw2) (E.2.2.2.2.1 _ hw3) (E.2.2.2.2.1 _ hw4) hfr hlo (Nat.zero_le _) (Nat.zero_le _) d (kk H locs ls hP hS hl)
theorem x_mabsL {index : Nat} {x : Int64} (E : OKc n cc nL own G K) (hw : Cond.methodLink own index Lib.MathLoose.abs_long.x ∈ wsL_law) (hw2 : Cond.static Lib.MathLoose.abs_long.x ∈ wsL_law) (hw3 : Cond.initialized "java/lang/Math" ∈ wsL_law) (hw4 : Cond.code Lib.MathLoose.abs_long.x Lib.MathLoose.abs_long.code 2 (some .long) ∈ wsL_law) (hfr : 1 ≤ R.frames) (hlo : (st.map fun v => v.category).sum + 13 ≤ R.locals) (d : decode cc pc = .ok (.invokestatic index, 3)) (kk : XJ sh n nL R G K σ lv (pc + 3) (.long (if 0 < x then x else -x) :: st)) : XJ sh n nL R G K σ lv pc (.long x :: st) := fun H locs ls hP hS hl => va_mabs_long E.1 E.2.1 (E.2.2.1.trans hl.1.symm) E.2.2.2.1 (E.2.2.2.2.1 _ hw) (E.2.2.2.2.1 _ hw2) (E.2.2.2.2.1 _ hw3) (E.2.2.2.2.1 _ hw4) hfr hlo (Nat.zero_le _) (Nat.zero_le _) d (kk H locs ls hP hS hl)
theorem x_copyi {index k0 k1 N0 N1 z0 z1 : Nat} {sp dp len : Int32} {F : MM → Option α} (E : OKc n cc nL own G K) (hw : Cond.methodLink own index arraycopyName ∈ wsL_law) (hw2 : Cond.native arraycopyName ∈ wsL_law) (hw3 : Cond.static arraycopyName ∈ wsL_law) (hw4 : Cond.initialized "java/lang/System" ∈ wsL_law) (hs0 : sh k0 = .inr (0, N0, z0)) (hk0 : k0 < n) (hs1 : sh k1 = .inr (0, N1, z1)) (hk1 : k1 < n) (h1 : ¬ sp < 0) (h2 : ¬ dp < 0) (h3 : ¬ len < 0) (h4 : sp.toNatClampNeg + len.toNatClampNeg ≤ N0) (h5 : dp.toNatClampNeg + len.toNatClampNeg ≤ N1) (hfr : 1 ≤ R.frames) (hlo : (st.map fun v => v.category).sum + (nativeFrameWords "java/lang/System" "arraycopy" 5 + 11) ≤ R.locals) (d : decode cc pc = .ok (.invokestatic index, 3)) (hf : lm (stC σ k1 (va_cpy (σ.1 k0) (σ.1 k1) sp.toNatClampNeg dp.toNatClampNeg len.toNatClampNeg)) F = some o) (kk : ∀ σ1, F σ1 = some o → XJ sh n nL R G K σ1 lv (pc + 3) st) : XJ sh n nL R G K σ lv pc (.int len :: .int dp :: .ref (gad G k1) :: .int sp :: .ref (gad G k0) :: st) := fun H locs ls hP hS hl => va_copyi E.1 E.2.1 (E.2.2.1.trans hl.1.symm) E.2.2.2.1 (E.2.2.2.2.1 _ hw) (E.2.2.2.2.1 _ hw2) (E.2.2.2.2.1 _ hw3) (E.2.2.2.2.1 _ hw4) E.2.2.2.2.2.1 hP (wl_D E.2.2.2.2.2.2.1) hS k0 k1 0 0 (by rw [wl_get hk0, hs0]; rfl) (by rw [wl_get hk1, hs1]; rfl) rfl rfl rfl h1 h2 h3 h4 h5 (fun _ _ => rfl) hfr hlo d (fun H1 locs1 hP1 _ hS1 => kk _ hf H1 locs1 ls (by rw [wl_set (σ' := stC σ k1 (va_cpy (σ.1 k0) (σ.1 k1) sp.toNatClampNeg dp.toNatClampNeg len.toNatClampNeg)) (by rw [hs1]; show Sum.inl (_, _, Sum.inl ((stC σ k1 _).1 k1)) = _; rw [show (stC σ k1 (va_cpy (σ.1 k0) (σ.1 k1) sp.toNatClampNeg dp.toNatClampNeg len.toNatClampNeg)).1 k1 = _ from if_pos rfl]) (fun j h => if_neg h) (fun _ _ => rfl)] at hP1; exact hP1) hS1 hl)
theorem ret_Q {ret : Option FieldType} {res : Option Value} {H : Heap} {locs : List Loc} (hP : va_P (gD G) vwCl (wl sh n G σ) H) (hS : va_S (gA G) K.2.2.1.heap H locs) : ∀ t : State, t.heap = H → K.2.2.1.WarmedH t.vm → QcX sh n G res σ K.2.2.2.2.1 K.2.2.1 (.returned res) t := fun t ht _ => ⟨⟨rfl, by rw [ht]; exact hP⟩, hS.F ht⟩
theorem x_iret {r : Int32} (E : OKc n cc nL own G K) (hR : RetX sh n (some .int) G K (some (.int r)) σ)  (d : decode cc pc = .ok (.ireturn, 1)) : XJ sh n nL R G K σ lv pc [.int r] := by
  intro H locs ls hP hS hl
  have hq := ret_Q (ret := some .int) (res := some (.int r)) hP hS
  rw [hR.2]
  exact W.iret E.1 E.2.1 hR.1  hq hS.2.2 d E.2.2.2.2.2.2.2.2.2
theorem x_zret {r : Int32} (E : OKc n cc nL own G K) (hR : RetX sh n (some .boolean) G K (some (.int r)) σ) (hn : narrow .boolean (.int r) = .int r) (d : decode cc pc = .ok (.ireturn, 1)) : XJ sh n nL R G K σ lv pc [.int r] := by
  intro H locs ls hP hS hl
  have hq := ret_Q (ret := some .boolean) (res := some (.int r)) hP hS
  rw [hR.2]
  exact W.zret E.1 E.2.1 hR.1 hn hq hS.2.2 d E.2.2.2.2.2.2.2.2.2
theorem x_lret {r : Int64} (E : OKc n cc nL own G K) (hR : RetX sh n (some .long) G K (some (.long r)) σ)  (d : decode cc pc = .ok (.lreturn, 1)) : XJ sh n nL R G K σ lv pc [.long r] := by
  intro H locs ls hP hS hl
  have hq := ret_Q (ret := some .long) (res := some (.long r)) hP hS
  rw [hR.2]
  exact W.lret E.1 E.2.1 hR.1  hq hS.2.2 d E.2.2.2.2.2.2.2.2.2
theorem x_vret  (E : OKc n cc nL own G K) (hR : RetX sh n (none) G K (none) σ)  (d : decode cc pc = .ok (.return_, 1)) : XJ sh n nL R G K σ lv pc [] := by
  intro H locs ls hP hS hl
  have hq := ret_Q (ret := none) (res := none) hP hS
  rw [hR.2]
  exact W.vret E.1 E.2.1 hR.1  hq hS.2.2 d E.2.2.2.2.2.2.2.2.2
theorem fb_inv {As : List Value} : FrameBlind (va_Pc As (InvX sh n G σ)) := fun a U g mk q => ⟨q.1, q.2.1, va_K.moved (u := U) (U := U.calling g mk a) (Vm.Alike.refl U.vm) q.2.2.1, q.2.2.2.1, nw_same (s := U) (U := U.calling g mk a) rfl q.2.2.2.2.1, ⟨va_Z.moved (u := U) (U := U.calling g mk a) (Vm.Alike.refl U.vm) q.2.2.2.2.2.1.1, va_T.moved (u := U) (U := U.calling g mk a) (Vm.Alike.refl U.vm) q.2.2.2.2.2.1.2⟩, ⟨va_Z.moved (u := U) (U := U.calling g mk a) (Vm.Alike.refl U.vm) q.2.2.2.2.2.2.1, va_T.moved (u := U) (U := U.calling g mk a) (Vm.Alike.refl U.vm) q.2.2.2.2.2.2.2⟩⟩
theorem inv_in {As : List Value} {H : Heap} {locs : List Loc} (E : OKc n cc nL own G K) (hP : va_P (gD G) vwCl (wl sh n G σ) H) (hS : va_S (gA G) K.2.2.1.heap H locs) : ∀ U : State, U.heap = H → K.2.2.1.WarmedH U.vm → va_Pc As (InvX sh n G σ) As.toArray U := by
  intro U hU hW
  have hq : ∀ a : Nat, a < K.2.2.1.heap.size → ¬ gA G a → U.heap[a]? = K.2.2.1.heap[a]? := by rw [hU]; exact hS.2.1
  exact ⟨rfl, by rw [hU]; exact hP, va_K.moved hW.alike E.2.2.2.2.2.1, E.2.2.2.2.2.2.1, nw_warm hW E.2.2.2.2.2.2.2.1, ⟨va_Z.kept (va_Z.moved hW.alike E.2.2.2.2.2.2.2.2.1.1.1) hq, va_T.kept (va_T.moved hW.alike E.2.2.2.2.2.2.2.2.1.1.2) hq⟩, ⟨va_Z.kept (va_Z.moved hW.alike E.2.2.2.2.2.2.2.2.1.2.1) hq, va_T.kept (va_T.moved hW.alike E.2.2.2.2.2.2.2.2.1.2.2) hq⟩⟩
theorem run_on {res : Option Value} {σ1 : MM} {H : Heap} {locs : List Loc} {ls : Array Slot} {stk rest : List Value} {a : Array Value} (hS : va_S (gA G) K.2.2.1.heap H locs) (hl : lv_has ls nL lv)
    (hr : va_Run K.1 (gLa G) K.2.1 R K.2.2.1 K.2.2.2.1 K.2.2.2.2.1 K.2.2.2.2.2.1 K.2.2.2.2.2.2.1 K.2.2.2.2.2.2.2.1 H locs 0 0 0 0 (F0 K.2.2.2.1 pc ls stk) rest (QcX sh n G res σ1 a) (gA G)) (kk : XJ sh n nL R G K σ1 lv (pc + 3) (res.toList ++ rest)) :
    W K.1 (gLa G) K.2.1 R K.2.2.1 K.2.2.2.1 K.2.2.2.2.1 K.2.2.2.2.2.1 K.2.2.2.2.2.2.1 K.2.2.2.2.2.2.2.1 H locs 0 0 K.2.2.2.2.2.2.2.2 (F0 K.2.2.2.1 pc ls stk) := by
  intro T hT X
  obtain ⟨v, st₀, t, T', L, h0, X', hL, e1, e2, ⟨⟨hv, hp⟩, hz, hk⟩, st⟩ := hr T hT X
  cases hv
  rw [h0] at hz hk
  obtain ⟨t2, a1, b1⟩ := kk T'.heap (locs ++ L) ls (by rw [e1]; exact hp)
    ⟨Nat.le_trans hS.1 (by rw [e1]; exact hz), fun q h1 h2 => by rw [e1, hk q (Nat.lt_of_lt_of_le h1 hS.1) h2]; exact hS.2.1 q h1 h2, fun q hq => by
      rcases List.mem_append.mp hq with h | h
      · exact hS.2.2 q h
      · exact hL q h⟩ hl T' rfl X'
  exact ⟨t2, st t2 a1, b1⟩
theorem cb_of {y : MethodName} {bytes : ByteArray} {maxL : Nat} {ret : Option FieldType} {rm : Room} {index na : Nat} (E : OKc n cc nL own G K) (hwc : Cond.code y bytes maxL ret ∈ wsL_law) (hwi : Cond.initialized y.cls ∈ wsL_law) (hwl : Cond.methodLink own index y ∈ wsL_law) (hrc : rm.cells = 0) (hrs : rm.slots = 0)
    (hd : y.cls ≠ "java/lang/invoke/MethodHandle" ∧ y.cls ≠ "java/lang/invoke/VarHandle" ∧ (parseMethodDescriptor y.desc).map (fun d => d.parameters.length) = some na) (hR : rm.frames + 1 ≤ R.frames ∧ 8 + (maxL + 11) + rm.locals ≤ R.locals) :
    CallB R K.2.2.1 K.2.2.2.2.1 own index y bytes maxL ret (.code y bytes maxL ret :: wsL_law) rm 0 0 na :=
  callB_of na E.2.2.2.2.1 (fun w hw => (List.mem_cons.mp hw).elim (fun h => by rw [h]; exact law_good _ hwc) (law_good w)) rfl hrc hrs (E.2.2.2.2.1 _ hwi) (E.2.2.2.2.1 _ hwl) hd hR
theorem cbN_of {y : MethodName} {host : String} {bytes : ByteArray} {maxL : Nat} {ret : Option FieldType} {rm : Room} {index na : Nat} (E : OKc n cc nL own G K) (hwc : Cond.code y bytes maxL ret ∈ wsL_law) (hwi : Cond.initialized y.cls ∈ wsL_law) (hwl : Cond.methodLinkNest own index y host ∈ nestW) (hrc : rm.cells = 0) (hrs : rm.slots = 0)
    (hd : y.cls ≠ "java/lang/invoke/MethodHandle" ∧ y.cls ≠ "java/lang/invoke/VarHandle" ∧ (parseMethodDescriptor y.desc).map (fun d => d.parameters.length) = some na) (hR : rm.frames + 1 ≤ R.frames ∧ 8 + (maxL + 11) + rm.locals ≤ R.locals) :
    va_CN R K.2.2.1 K.2.2.2.2.1 own index y host bytes maxL ret (.code y bytes maxL ret :: wsL_law) rm 0 0 na :=
  va_cnB na E.2.2.2.2.1 (fun w hw => (List.mem_cons.mp hw).elim (fun h => by rw [h]; exact law_good _ hwc) (law_good w)) rfl hrc hrs (E.2.2.2.2.2.2.2.1 _ hwl) (E.2.2.2.2.1 _ hwi) hd hR

theorem x_callVwi {y : MethodName} {bytes : ByteArray} {maxL : Nat} {ret : Option FieldType} {rm : Room} {index na : Nat} {As stk : List Value} {b ci NN : Nat} {fl : List Nat} {C : String} {T : u_T} {f : Option (Int32 × MM)} {F : Int32 → MM → Option α} (E : OKc n cc nL own G K) (hM : ∀ r σ1, f = some (r, σ1) → Ct sh n y bytes maxL ret rm G (.ref (gad G b) :: As) σ (some (.int r)) σ1) (hs : sh b = .inl (ci, fl)) (hb : b < n) (hc : vwCl[ci]? = some (C, T, NN)) (hwc : Cond.code y bytes maxL ret ∈ wsL_law) (hwi : Cond.initialized y.cls ∈ wsL_law) (hwl : Cond.methodLink own index y ∈ wsL_law) (hwm : Cond.instanceMethod y ∈ wsL_law) (hws : Cond.selects C y y ∈ wsL_law) (hrc : rm.cells = 0) (hrs : rm.slots = 0) (hd : y.cls ≠ "java/lang/invoke/MethodHandle" ∧ y.cls ≠ "java/lang/invoke/VarHandle" ∧ (parseMethodDescriptor y.desc).map (fun d => d.parameters.length) = some na) (hR : rm.frames + 1 ≤ R.frames ∧ 8 + (maxL + 11) + rm.locals ≤ R.locals) (hn : As.length = na) (hst : stk = As.reverse ++ .ref (gad G b) :: st) (hW : (st.map fun v => v.category).sum ≤ 8) (d : decode cc pc = .ok (.invokevirtual index, 3)) (hf : f.bind (uc F) = some o) (kk : ∀ r σ1, F r σ1 = some o → XJ sh n nL R G K σ1 lv (pc + 3) (.int r :: st)) : XJ sh n nL R G K σ lv pc stk := by
  obtain ⟨⟨r, σ1⟩, h1, hf⟩ := bind_some hf
  intro H locs ls hP hS hl
  have hrv := va_recv E.2.2.2.2.2.1 hP hc (q0 := b) (a := gad G b) (fs := fl.mapIdx (gfv G σ b)) (by rw [wl_get hb, hs]; rfl)
  exact run_on hS hl (va_runV (As := As) (rest := st) ⟨E.1, E.2.1, E.2.2.1, E.2.2.2.1, E.2.2.2.2.1⟩ (hM r σ1 h1) ⟨cb_of E hwc hwi hwl hrc hrs hd hR, E.2.2.2.2.1 _ hwm, E.2.2.2.2.1 _ hws⟩ ⟨fb_inv, hrv, inv_in E hP hS⟩ rfl hn hl.1 hst (lv_room hW) d ⟨Nat.zero_le _, Nat.zero_le _⟩) (kk r σ1 hf)
theorem x_callSwi {y : MethodName} {bytes : ByteArray} {maxL : Nat} {ret : Option FieldType} {rm : Room} {index na : Nat} {As stk : List Value} {f : Option (Int32 × MM)} {F : Int32 → MM → Option α} (E : OKc n cc nL own G K) (hM : ∀ r σ1, f = some (r, σ1) → Ct sh n y bytes maxL ret rm G As σ (some (.int r)) σ1) (hwc : Cond.code y bytes maxL ret ∈ wsL_law) (hwi : Cond.initialized y.cls ∈ wsL_law) (hwl : Cond.methodLink own index y ∈ wsL_law) (hwm : Cond.static y ∈ wsL_law) (hrc : rm.cells = 0) (hrs : rm.slots = 0) (hd : y.cls ≠ "java/lang/invoke/MethodHandle" ∧ y.cls ≠ "java/lang/invoke/VarHandle" ∧ (parseMethodDescriptor y.desc).map (fun d => d.parameters.length) = some na) (hR : rm.frames + 1 ≤ R.frames ∧ 8 + (maxL + 11) + rm.locals ≤ R.locals) (hn : As.length = na) (hst : stk = As.reverse ++ st) (hW : (st.map fun v => v.category).sum ≤ 8) (d : decode cc pc = .ok (.invokestatic index, 3)) (hf : f.bind (uc F) = some o) (kk : ∀ r σ1, F r σ1 = some o → XJ sh n nL R G K σ1 lv (pc + 3) (.int r :: st)) : XJ sh n nL R G K σ lv pc stk := by
  obtain ⟨⟨r, σ1⟩, h1, hf⟩ := bind_some hf
  intro H locs ls hP hS hl
  exact run_on hS hl (va_runS (As := As) (rest := st) ⟨E.1, E.2.1, E.2.2.1, E.2.2.2.1, E.2.2.2.2.1⟩ (hM r σ1 h1) ⟨cb_of E hwc hwi hwl hrc hrs hd hR, E.2.2.2.2.1 _ hwm⟩ ⟨fb_inv, inv_in E hP hS⟩ rfl hn hl.1 hst (lv_room hW) d ⟨Nat.zero_le _, Nat.zero_le _⟩) (kk r σ1 hf)
theorem x_callVwl {y : MethodName} {bytes : ByteArray} {maxL : Nat} {ret : Option FieldType} {rm : Room} {index na : Nat} {As stk : List Value} {b ci NN : Nat} {fl : List Nat} {C : String} {T : u_T} {f : Option (Int64 × MM)} {F : Int64 → MM → Option α} (E : OKc n cc nL own G K) (hM : ∀ r σ1, f = some (r, σ1) → Ct sh n y bytes maxL ret rm G (.ref (gad G b) :: As) σ (some (.long r)) σ1) (hs : sh b = .inl (ci, fl)) (hb : b < n) (hc : vwCl[ci]? = some (C, T, NN)) (hwc : Cond.code y bytes maxL ret ∈ wsL_law) (hwi : Cond.initialized y.cls ∈ wsL_law) (hwl : Cond.methodLink own index y ∈ wsL_law) (hwm : Cond.instanceMethod y ∈ wsL_law) (hws : Cond.selects C y y ∈ wsL_law) (hrc : rm.cells = 0) (hrs : rm.slots = 0) (hd : y.cls ≠ "java/lang/invoke/MethodHandle" ∧ y.cls ≠ "java/lang/invoke/VarHandle" ∧ (parseMethodDescriptor y.desc).map (fun d => d.parameters.length) = some na) (hR : rm.frames + 1 ≤ R.frames ∧ 8 + (maxL + 11) + rm.locals ≤ R.locals) (hn : As.length = na) (hst : stk = As.reverse ++ .ref (gad G b) :: st) (hW : (st.map fun v => v.category).sum ≤ 8) (d : decode cc pc = .ok (.invokevirtual index, 3)) (hf : f.bind (uc F) = some o) (kk : ∀ r σ1, F r σ1 = some o → XJ sh n nL R G K σ1 lv (pc + 3) (.long r :: st)) : XJ sh n nL R G K σ lv pc stk := by
  obtain ⟨⟨r, σ1⟩, h1, hf⟩ := bind_some hf
  intro H locs ls hP hS hl
  have hrv := va_recv E.2.2.2.2.2.1 hP hc (q0 := b) (a := gad G b) (fs := fl.mapIdx (gfv G σ b)) (by rw [wl_get hb, hs]; rfl)
  exact run_on hS hl (va_runV (As := As) (rest := st) ⟨E.1, E.2.1, E.2.2.1, E.2.2.2.1, E.2.2.2.2.1⟩ (hM r σ1 h1) ⟨cb_of E hwc hwi hwl hrc hrs hd hR, E.2.2.2.2.1 _ hwm, E.2.2.2.2.1 _ hws⟩ ⟨fb_inv, hrv, inv_in E hP hS⟩ rfl hn hl.1 hst (lv_room hW) d ⟨Nat.zero_le _, Nat.zero_le _⟩) (kk r σ1 hf)
theorem x_callSwl {y : MethodName} {bytes : ByteArray} {maxL : Nat} {ret : Option FieldType} {rm : Room} {index na : Nat} {As stk : List Value} {f : Option (Int64 × MM)} {F : Int64 → MM → Option α} (E : OKc n cc nL own G K) (hM : ∀ r σ1, f = some (r, σ1) → Ct sh n y bytes maxL ret rm G As σ (some (.long r)) σ1) (hwc : Cond.code y bytes maxL ret ∈ wsL_law) (hwi : Cond.initialized y.cls ∈ wsL_law) (hwl : Cond.methodLink own index y ∈ wsL_law) (hwm : Cond.static y ∈ wsL_law) (hrc : rm.cells = 0) (hrs : rm.slots = 0) (hd : y.cls ≠ "java/lang/invoke/MethodHandle" ∧ y.cls ≠ "java/lang/invoke/VarHandle" ∧ (parseMethodDescriptor y.desc).map (fun d => d.parameters.length) = some na) (hR : rm.frames + 1 ≤ R.frames ∧ 8 + (maxL + 11) + rm.locals ≤ R.locals) (hn : As.length = na) (hst : stk = As.reverse ++ st) (hW : (st.map fun v => v.category).sum ≤ 8) (d : decode cc pc = .ok (.invokestatic index, 3)) (hf : f.bind (uc F) = some o) (kk : ∀ r σ1, F r σ1 = some o → XJ sh n nL R G K σ1 lv (pc + 3) (.long r :: st)) : XJ sh n nL R G K σ lv pc stk := by
  obtain ⟨⟨r, σ1⟩, h1, hf⟩ := bind_some hf
  intro H locs ls hP hS hl
  exact run_on hS hl (va_runS (As := As) (rest := st) ⟨E.1, E.2.1, E.2.2.1, E.2.2.2.1, E.2.2.2.2.1⟩ (hM r σ1 h1) ⟨cb_of E hwc hwi hwl hrc hrs hd hR, E.2.2.2.2.1 _ hwm⟩ ⟨fb_inv, inv_in E hP hS⟩ rfl hn hl.1 hst (lv_room hW) d ⟨Nat.zero_le _, Nat.zero_le _⟩) (kk r σ1 hf)
theorem x_callVwv {y : MethodName} {bytes : ByteArray} {maxL : Nat} {ret : Option FieldType} {rm : Room} {index na : Nat} {As stk : List Value} {b ci NN : Nat} {fl : List Nat} {C : String} {T : u_T} {f : Option (MM)} {F : MM → Option α} (E : OKc n cc nL own G K) (hM : ∀ σ1, f = some σ1 → Ct sh n y bytes maxL ret rm G (.ref (gad G b) :: As) σ none σ1) (hs : sh b = .inl (ci, fl)) (hb : b < n) (hc : vwCl[ci]? = some (C, T, NN)) (hwc : Cond.code y bytes maxL ret ∈ wsL_law) (hwi : Cond.initialized y.cls ∈ wsL_law) (hwl : Cond.methodLink own index y ∈ wsL_law) (hwm : Cond.instanceMethod y ∈ wsL_law) (hws : Cond.selects C y y ∈ wsL_law) (hrc : rm.cells = 0) (hrs : rm.slots = 0) (hd : y.cls ≠ "java/lang/invoke/MethodHandle" ∧ y.cls ≠ "java/lang/invoke/VarHandle" ∧ (parseMethodDescriptor y.desc).map (fun d => d.parameters.length) = some na) (hR : rm.frames + 1 ≤ R.frames ∧ 8 + (maxL + 11) + rm.locals ≤ R.locals) (hn : As.length = na) (hst : stk = As.reverse ++ .ref (gad G b) :: st) (hW : (st.map fun v => v.category).sum ≤ 8) (d : decode cc pc = .ok (.invokevirtual index, 3)) (hf : f.bind F = some o) (kk : ∀ σ1, F σ1 = some o → XJ sh n nL R G K σ1 lv (pc + 3) (st)) : XJ sh n nL R G K σ lv pc stk := by
  obtain ⟨σ1, h1, hf⟩ := bind_some hf
  intro H locs ls hP hS hl
  have hrv := va_recv E.2.2.2.2.2.1 hP hc (q0 := b) (a := gad G b) (fs := fl.mapIdx (gfv G σ b)) (by rw [wl_get hb, hs]; rfl)
  exact run_on hS hl (va_runV (As := As) (rest := st) ⟨E.1, E.2.1, E.2.2.1, E.2.2.2.1, E.2.2.2.2.1⟩ (hM σ1 h1) ⟨cb_of E hwc hwi hwl hrc hrs hd hR, E.2.2.2.2.1 _ hwm, E.2.2.2.2.1 _ hws⟩ ⟨fb_inv, hrv, inv_in E hP hS⟩ rfl hn hl.1 hst (lv_room hW) d ⟨Nat.zero_le _, Nat.zero_le _⟩) (kk σ1 hf)
theorem x_callSwv {y : MethodName} {bytes : ByteArray} {maxL : Nat} {ret : Option FieldType} {rm : Room} {index na : Nat} {As stk : List Value} {f : Option (MM)} {F : MM → Option α} (E : OKc n cc nL own G K) (hM : ∀ σ1, f = some σ1 → Ct sh n y bytes maxL ret rm G As σ none σ1) (hwc : Cond.code y bytes maxL ret ∈ wsL_law) (hwi : Cond.initialized y.cls ∈ wsL_law) (hwl : Cond.methodLink own index y ∈ wsL_law) (hwm : Cond.static y ∈ wsL_law) (hrc : rm.cells = 0) (hrs : rm.slots = 0) (hd : y.cls ≠ "java/lang/invoke/MethodHandle" ∧ y.cls ≠ "java/lang/invoke/VarHandle" ∧ (parseMethodDescriptor y.desc).map (fun d => d.parameters.length) = some na) (hR : rm.frames + 1 ≤ R.frames ∧ 8 + (maxL + 11) + rm.locals ≤ R.locals) (hn : As.length = na) (hst : stk = As.reverse ++ st) (hW : (st.map fun v => v.category).sum ≤ 8) (d : decode cc pc = .ok (.invokestatic index, 3)) (hf : f.bind F = some o) (kk : ∀ σ1, F σ1 = some o → XJ sh n nL R G K σ1 lv (pc + 3) (st)) : XJ sh n nL R G K σ lv pc stk := by
  obtain ⟨σ1, h1, hf⟩ := bind_some hf
  intro H locs ls hP hS hl
  exact run_on hS hl (va_runS (As := As) (rest := st) ⟨E.1, E.2.1, E.2.2.1, E.2.2.2.1, E.2.2.2.2.1⟩ (hM σ1 h1) ⟨cb_of E hwc hwi hwl hrc hrs hd hR, E.2.2.2.2.1 _ hwm⟩ ⟨fb_inv, inv_in E hP hS⟩ rfl hn hl.1 hst (lv_room hW) d ⟨Nat.zero_le _, Nat.zero_le _⟩) (kk σ1 hf)
theorem x_callVri {y : MethodName} {bytes : ByteArray} {maxL : Nat} {ret : Option FieldType} {rm : Room} {index na : Nat} {As stk : List Value} {b ci NN : Nat} {fl : List Nat} {C : String} {T : u_T} {f : Option (Int32)} {F : Int32 → Option α} (E : OKc n cc nL own G K) (hM : ∀ r, f = some r → Ct sh n y bytes maxL ret rm G (.ref (gad G b) :: As) σ (some (.int r)) σ) (hs : sh b = .inl (ci, fl)) (hb : b < n) (hc : vwCl[ci]? = some (C, T, NN)) (hwc : Cond.code y bytes maxL ret ∈ wsL_law) (hwi : Cond.initialized y.cls ∈ wsL_law) (hwl : Cond.methodLink own index y ∈ wsL_law) (hwm : Cond.instanceMethod y ∈ wsL_law) (hws : Cond.selects C y y ∈ wsL_law) (hrc : rm.cells = 0) (hrs : rm.slots = 0) (hd : y.cls ≠ "java/lang/invoke/MethodHandle" ∧ y.cls ≠ "java/lang/invoke/VarHandle" ∧ (parseMethodDescriptor y.desc).map (fun d => d.parameters.length) = some na) (hR : rm.frames + 1 ≤ R.frames ∧ 8 + (maxL + 11) + rm.locals ≤ R.locals) (hn : As.length = na) (hst : stk = As.reverse ++ .ref (gad G b) :: st) (hW : (st.map fun v => v.category).sum ≤ 8) (d : decode cc pc = .ok (.invokevirtual index, 3)) (hf : f.bind F = some o) (kk : ∀ r, F r = some o → XJ sh n nL R G K σ lv (pc + 3) (.int r :: st)) : XJ sh n nL R G K σ lv pc stk := by
  obtain ⟨r, h1, hf⟩ := bind_some hf
  intro H locs ls hP hS hl
  have hrv := va_recv E.2.2.2.2.2.1 hP hc (q0 := b) (a := gad G b) (fs := fl.mapIdx (gfv G σ b)) (by rw [wl_get hb, hs]; rfl)
  exact run_on hS hl (va_runV (As := As) (rest := st) ⟨E.1, E.2.1, E.2.2.1, E.2.2.2.1, E.2.2.2.2.1⟩ (hM r h1) ⟨cb_of E hwc hwi hwl hrc hrs hd hR, E.2.2.2.2.1 _ hwm, E.2.2.2.2.1 _ hws⟩ ⟨fb_inv, hrv, inv_in E hP hS⟩ rfl hn hl.1 hst (lv_room hW) d ⟨Nat.zero_le _, Nat.zero_le _⟩) (kk r hf)
theorem x_callSri {y : MethodName} {bytes : ByteArray} {maxL : Nat} {ret : Option FieldType} {rm : Room} {index na : Nat} {As stk : List Value} {f : Option (Int32)} {F : Int32 → Option α} (E : OKc n cc nL own G K) (hM : ∀ r, f = some r → Ct sh n y bytes maxL ret rm G As σ (some (.int r)) σ) (hwc : Cond.code y bytes maxL ret ∈ wsL_law) (hwi : Cond.initialized y.cls ∈ wsL_law) (hwl : Cond.methodLink own index y ∈ wsL_law) (hwm : Cond.static y ∈ wsL_law) (hrc : rm.cells = 0) (hrs : rm.slots = 0) (hd : y.cls ≠ "java/lang/invoke/MethodHandle" ∧ y.cls ≠ "java/lang/invoke/VarHandle" ∧ (parseMethodDescriptor y.desc).map (fun d => d.parameters.length) = some na) (hR : rm.frames + 1 ≤ R.frames ∧ 8 + (maxL + 11) + rm.locals ≤ R.locals) (hn : As.length = na) (hst : stk = As.reverse ++ st) (hW : (st.map fun v => v.category).sum ≤ 8) (d : decode cc pc = .ok (.invokestatic index, 3)) (hf : f.bind F = some o) (kk : ∀ r, F r = some o → XJ sh n nL R G K σ lv (pc + 3) (.int r :: st)) : XJ sh n nL R G K σ lv pc stk := by
  obtain ⟨r, h1, hf⟩ := bind_some hf
  intro H locs ls hP hS hl
  exact run_on hS hl (va_runS (As := As) (rest := st) ⟨E.1, E.2.1, E.2.2.1, E.2.2.2.1, E.2.2.2.2.1⟩ (hM r h1) ⟨cb_of E hwc hwi hwl hrc hrs hd hR, E.2.2.2.2.1 _ hwm⟩ ⟨fb_inv, inv_in E hP hS⟩ rfl hn hl.1 hst (lv_room hW) d ⟨Nat.zero_le _, Nat.zero_le _⟩) (kk r hf)
theorem x_callVrl {y : MethodName} {bytes : ByteArray} {maxL : Nat} {ret : Option FieldType} {rm : Room} {index na : Nat} {As stk : List Value} {b ci NN : Nat} {fl : List Nat} {C : String} {T : u_T} {f : Option (Int64)} {F : Int64 → Option α} (E : OKc n cc nL own G K) (hM : ∀ r, f = some r → Ct sh n y bytes maxL ret rm G (.ref (gad G b) :: As) σ (some (.long r)) σ) (hs : sh b = .inl (ci, fl)) (hb : b < n) (hc : vwCl[ci]? = some (C, T, NN)) (hwc : Cond.code y bytes maxL ret ∈ wsL_law) (hwi : Cond.initialized y.cls ∈ wsL_law) (hwl : Cond.methodLink own index y ∈ wsL_law) (hwm : Cond.instanceMethod y ∈ wsL_law) (hws : Cond.selects C y y ∈ wsL_law) (hrc : rm.cells = 0) (hrs : rm.slots = 0) (hd : y.cls ≠ "java/lang/invoke/MethodHandle" ∧ y.cls ≠ "java/lang/invoke/VarHandle" ∧ (parseMethodDescriptor y.desc).map (fun d => d.parameters.length) = some na) (hR : rm.frames + 1 ≤ R.frames ∧ 8 + (maxL + 11) + rm.locals ≤ R.locals) (hn : As.length = na) (hst : stk = As.reverse ++ .ref (gad G b) :: st) (hW : (st.map fun v => v.category).sum ≤ 8) (d : decode cc pc = .ok (.invokevirtual index, 3)) (hf : f.bind F = some o) (kk : ∀ r, F r = some o → XJ sh n nL R G K σ lv (pc + 3) (.long r :: st)) : XJ sh n nL R G K σ lv pc stk := by
  obtain ⟨r, h1, hf⟩ := bind_some hf
  intro H locs ls hP hS hl
  have hrv := va_recv E.2.2.2.2.2.1 hP hc (q0 := b) (a := gad G b) (fs := fl.mapIdx (gfv G σ b)) (by rw [wl_get hb, hs]; rfl)
  exact run_on hS hl (va_runV (As := As) (rest := st) ⟨E.1, E.2.1, E.2.2.1, E.2.2.2.1, E.2.2.2.2.1⟩ (hM r h1) ⟨cb_of E hwc hwi hwl hrc hrs hd hR, E.2.2.2.2.1 _ hwm, E.2.2.2.2.1 _ hws⟩ ⟨fb_inv, hrv, inv_in E hP hS⟩ rfl hn hl.1 hst (lv_room hW) d ⟨Nat.zero_le _, Nat.zero_le _⟩) (kk r hf)
theorem x_callSrl {y : MethodName} {bytes : ByteArray} {maxL : Nat} {ret : Option FieldType} {rm : Room} {index na : Nat} {As stk : List Value} {f : Option (Int64)} {F : Int64 → Option α} (E : OKc n cc nL own G K) (hM : ∀ r, f = some r → Ct sh n y bytes maxL ret rm G As σ (some (.long r)) σ) (hwc : Cond.code y bytes maxL ret ∈ wsL_law) (hwi : Cond.initialized y.cls ∈ wsL_law) (hwl : Cond.methodLink own index y ∈ wsL_law) (hwm : Cond.static y ∈ wsL_law) (hrc : rm.cells = 0) (hrs : rm.slots = 0) (hd : y.cls ≠ "java/lang/invoke/MethodHandle" ∧ y.cls ≠ "java/lang/invoke/VarHandle" ∧ (parseMethodDescriptor y.desc).map (fun d => d.parameters.length) = some na) (hR : rm.frames + 1 ≤ R.frames ∧ 8 + (maxL + 11) + rm.locals ≤ R.locals) (hn : As.length = na) (hst : stk = As.reverse ++ st) (hW : (st.map fun v => v.category).sum ≤ 8) (d : decode cc pc = .ok (.invokestatic index, 3)) (hf : f.bind F = some o) (kk : ∀ r, F r = some o → XJ sh n nL R G K σ lv (pc + 3) (.long r :: st)) : XJ sh n nL R G K σ lv pc stk := by
  obtain ⟨r, h1, hf⟩ := bind_some hf
  intro H locs ls hP hS hl
  exact run_on hS hl (va_runS (As := As) (rest := st) ⟨E.1, E.2.1, E.2.2.1, E.2.2.2.1, E.2.2.2.2.1⟩ (hM r h1) ⟨cb_of E hwc hwi hwl hrc hrs hd hR, E.2.2.2.2.1 _ hwm⟩ ⟨fb_inv, inv_in E hP hS⟩ rfl hn hl.1 hst (lv_room hW) d ⟨Nat.zero_le _, Nat.zero_le _⟩) (kk r hf)
theorem x_callVNwi {host : String} {y : MethodName} {bytes : ByteArray} {maxL : Nat} {ret : Option FieldType} {rm : Room} {index na : Nat} {As stk : List Value} {b ci NN : Nat} {fl : List Nat} {C : String} {T : u_T} {f : Option (Int32 × MM)} {F : Int32 → MM → Option α} (E : OKc n cc nL own G K) (hM : ∀ r σ1, f = some (r, σ1) → Ct sh n y bytes maxL ret rm G (.ref (gad G b) :: As) σ (some (.int r)) σ1) (hs : sh b = .inl (ci, fl)) (hb : b < n) (hc : vwCl[ci]? = some (C, T, NN)) (hwc : Cond.code y bytes maxL ret ∈ wsL_law) (hwi : Cond.initialized y.cls ∈ wsL_law) (hwl : Cond.methodLinkNest own index y host ∈ nestW) (hwm : Cond.instanceMethod y ∈ wsL_law) (hws : Cond.selects C y y ∈ wsL_law) (hrc : rm.cells = 0) (hrs : rm.slots = 0) (hd : y.cls ≠ "java/lang/invoke/MethodHandle" ∧ y.cls ≠ "java/lang/invoke/VarHandle" ∧ (parseMethodDescriptor y.desc).map (fun d => d.parameters.length) = some na) (hR : rm.frames + 1 ≤ R.frames ∧ 8 + (maxL + 11) + rm.locals ≤ R.locals) (hn : As.length = na) (hst : stk = As.reverse ++ .ref (gad G b) :: st) (hW : (st.map fun v => v.category).sum ≤ 8) (d : decode cc pc = .ok (.invokevirtual index, 3)) (hf : f.bind (uc F) = some o) (kk : ∀ r σ1, F r σ1 = some o → XJ sh n nL R G K σ1 lv (pc + 3) (.int r :: st)) : XJ sh n nL R G K σ lv pc stk := by
  obtain ⟨⟨r, σ1⟩, h1, hf⟩ := bind_some hf
  intro H locs ls hP hS hl
  have hrv := va_recv E.2.2.2.2.2.1 hP hc (q0 := b) (a := gad G b) (fs := fl.mapIdx (gfv G σ b)) (by rw [wl_get hb, hs]; rfl)
  exact run_on hS hl (va_runVN (As := As) (rest := st) ⟨E.1, E.2.1, E.2.2.1, E.2.2.2.1, E.2.2.2.2.1⟩ (hM r σ1 h1) ⟨cbN_of E hwc hwi hwl hrc hrs hd hR, E.2.2.2.2.1 _ hwm, E.2.2.2.2.1 _ hws⟩ ⟨fb_inv, hrv, inv_in E hP hS⟩ rfl hn hl.1 hst (lv_room hW) d ⟨Nat.zero_le _, Nat.zero_le _⟩) (kk r σ1 hf)
theorem x_callSNwi {host : String} {y : MethodName} {bytes : ByteArray} {maxL : Nat} {ret : Option FieldType} {rm : Room} {index na : Nat} {As stk : List Value} {f : Option (Int32 × MM)} {F : Int32 → MM → Option α} (E : OKc n cc nL own G K) (hM : ∀ r σ1, f = some (r, σ1) → Ct sh n y bytes maxL ret rm G As σ (some (.int r)) σ1) (hwc : Cond.code y bytes maxL ret ∈ wsL_law) (hwi : Cond.initialized y.cls ∈ wsL_law) (hwl : Cond.methodLinkNest own index y host ∈ nestW) (hwm : Cond.static y ∈ wsL_law) (hrc : rm.cells = 0) (hrs : rm.slots = 0) (hd : y.cls ≠ "java/lang/invoke/MethodHandle" ∧ y.cls ≠ "java/lang/invoke/VarHandle" ∧ (parseMethodDescriptor y.desc).map (fun d => d.parameters.length) = some na) (hR : rm.frames + 1 ≤ R.frames ∧ 8 + (maxL + 11) + rm.locals ≤ R.locals) (hn : As.length = na) (hst : stk = As.reverse ++ st) (hW : (st.map fun v => v.category).sum ≤ 8) (d : decode cc pc = .ok (.invokestatic index, 3)) (hf : f.bind (uc F) = some o) (kk : ∀ r σ1, F r σ1 = some o → XJ sh n nL R G K σ1 lv (pc + 3) (.int r :: st)) : XJ sh n nL R G K σ lv pc stk := by
  obtain ⟨⟨r, σ1⟩, h1, hf⟩ := bind_some hf
  intro H locs ls hP hS hl
  exact run_on hS hl (va_runSN (As := As) (rest := st) ⟨E.1, E.2.1, E.2.2.1, E.2.2.2.1, E.2.2.2.2.1⟩ (hM r σ1 h1) ⟨cbN_of E hwc hwi hwl hrc hrs hd hR, E.2.2.2.2.1 _ hwm, trivial⟩ ⟨fb_inv, inv_in E hP hS⟩ rfl hn hl.1 hst (lv_room hW) d ⟨Nat.zero_le _, Nat.zero_le _⟩) (kk r σ1 hf)
theorem x_callVNwl {host : String} {y : MethodName} {bytes : ByteArray} {maxL : Nat} {ret : Option FieldType} {rm : Room} {index na : Nat} {As stk : List Value} {b ci NN : Nat} {fl : List Nat} {C : String} {T : u_T} {f : Option (Int64 × MM)} {F : Int64 → MM → Option α} (E : OKc n cc nL own G K) (hM : ∀ r σ1, f = some (r, σ1) → Ct sh n y bytes maxL ret rm G (.ref (gad G b) :: As) σ (some (.long r)) σ1) (hs : sh b = .inl (ci, fl)) (hb : b < n) (hc : vwCl[ci]? = some (C, T, NN)) (hwc : Cond.code y bytes maxL ret ∈ wsL_law) (hwi : Cond.initialized y.cls ∈ wsL_law) (hwl : Cond.methodLinkNest own index y host ∈ nestW) (hwm : Cond.instanceMethod y ∈ wsL_law) (hws : Cond.selects C y y ∈ wsL_law) (hrc : rm.cells = 0) (hrs : rm.slots = 0) (hd : y.cls ≠ "java/lang/invoke/MethodHandle" ∧ y.cls ≠ "java/lang/invoke/VarHandle" ∧ (parseMethodDescriptor y.desc).map (fun d => d.parameters.length) = some na) (hR : rm.frames + 1 ≤ R.frames ∧ 8 + (maxL + 11) + rm.locals ≤ R.locals) (hn : As.length = na) (hst : stk = As.reverse ++ .ref (gad G b) :: st) (hW : (st.map fun v => v.category).sum ≤ 8) (d : decode cc pc = .ok (.invokevirtual index, 3)) (hf : f.bind (uc F) = some o) (kk : ∀ r σ1, F r σ1 = some o → XJ sh n nL R G K σ1 lv (pc + 3) (.long r :: st)) : XJ sh n nL R G K σ lv pc stk := by
  obtain ⟨⟨r, σ1⟩, h1, hf⟩ := bind_some hf
  intro H locs ls hP hS hl
  have hrv := va_recv E.2.2.2.2.2.1 hP hc (q0 := b) (a := gad G b) (fs := fl.mapIdx (gfv G σ b)) (by rw [wl_get hb, hs]; rfl)
  exact run_on hS hl (va_runVN (As := As) (rest := st) ⟨E.1, E.2.1, E.2.2.1, E.2.2.2.1, E.2.2.2.2.1⟩ (hM r σ1 h1) ⟨cbN_of E hwc hwi hwl hrc hrs hd hR, E.2.2.2.2.1 _ hwm, E.2.2.2.2.1 _ hws⟩ ⟨fb_inv, hrv, inv_in E hP hS⟩ rfl hn hl.1 hst (lv_room hW) d ⟨Nat.zero_le _, Nat.zero_le _⟩) (kk r σ1 hf)
theorem x_callSNwl {host : String} {y : MethodName} {bytes : ByteArray} {maxL : Nat} {ret : Option FieldType} {rm : Room} {index na : Nat} {As stk : List Value} {f : Option (Int64 × MM)} {F : Int64 → MM → Option α} (E : OKc n cc nL own G K) (hM : ∀ r σ1, f = some (r, σ1) → Ct sh n y bytes maxL ret rm G As σ (some (.long r)) σ1) (hwc : Cond.code y bytes maxL ret ∈ wsL_law) (hwi : Cond.initialized y.cls ∈ wsL_law) (hwl : Cond.methodLinkNest own index y host ∈ nestW) (hwm : Cond.static y ∈ wsL_law) (hrc : rm.cells = 0) (hrs : rm.slots = 0) (hd : y.cls ≠ "java/lang/invoke/MethodHandle" ∧ y.cls ≠ "java/lang/invoke/VarHandle" ∧ (parseMethodDescriptor y.desc).map (fun d => d.parameters.length) = some na) (hR : rm.frames + 1 ≤ R.frames ∧ 8 + (maxL + 11) + rm.locals ≤ R.locals) (hn : As.length = na) (hst : stk = As.reverse ++ st) (hW : (st.map fun v => v.category).sum ≤ 8) (d : decode cc pc = .ok (.invokestatic index, 3)) (hf : f.bind (uc F) = some o) (kk : ∀ r σ1, F r σ1 = some o → XJ sh n nL R G K σ1 lv (pc + 3) (.long r :: st)) : XJ sh n nL R G K σ lv pc stk := by
  obtain ⟨⟨r, σ1⟩, h1, hf⟩ := bind_some hf
  intro H locs ls hP hS hl
  exact run_on hS hl (va_runSN (As := As) (rest := st) ⟨E.1, E.2.1, E.2.2.1, E.2.2.2.1, E.2.2.2.2.1⟩ (hM r σ1 h1) ⟨cbN_of E hwc hwi hwl hrc hrs hd hR, E.2.2.2.2.1 _ hwm, trivial⟩ ⟨fb_inv, inv_in E hP hS⟩ rfl hn hl.1 hst (lv_room hW) d ⟨Nat.zero_le _, Nat.zero_le _⟩) (kk r σ1 hf)
theorem x_callVNwv {host : String} {y : MethodName} {bytes : ByteArray} {maxL : Nat} {ret : Option FieldType} {rm : Room} {index na : Nat} {As stk : List Value} {b ci NN : Nat} {fl : List Nat} {C : String} {T : u_T} {f : Option (MM)} {F : MM → Option α} (E : OKc n cc nL own G K) (hM : ∀ σ1, f = some σ1 → Ct sh n y bytes maxL ret rm G (.ref (gad G b) :: As) σ none σ1) (hs : sh b = .inl (ci, fl)) (hb : b < n) (hc : vwCl[ci]? = some (C, T, NN)) (hwc : Cond.code y bytes maxL ret ∈ wsL_law) (hwi : Cond.initialized y.cls ∈ wsL_law) (hwl : Cond.methodLinkNest own index y host ∈ nestW) (hwm : Cond.instanceMethod y ∈ wsL_law) (hws : Cond.selects C y y ∈ wsL_law) (hrc : rm.cells = 0) (hrs : rm.slots = 0) (hd : y.cls ≠ "java/lang/invoke/MethodHandle" ∧ y.cls ≠ "java/lang/invoke/VarHandle" ∧ (parseMethodDescriptor y.desc).map (fun d => d.parameters.length) = some na) (hR : rm.frames + 1 ≤ R.frames ∧ 8 + (maxL + 11) + rm.locals ≤ R.locals) (hn : As.length = na) (hst : stk = As.reverse ++ .ref (gad G b) :: st) (hW : (st.map fun v => v.category).sum ≤ 8) (d : decode cc pc = .ok (.invokevirtual index, 3)) (hf : f.bind F = some o) (kk : ∀ σ1, F σ1 = some o → XJ sh n nL R G K σ1 lv (pc + 3) (st)) : XJ sh n nL R G K σ lv pc stk := by
  obtain ⟨σ1, h1, hf⟩ := bind_some hf
  intro H locs ls hP hS hl
  have hrv := va_recv E.2.2.2.2.2.1 hP hc (q0 := b) (a := gad G b) (fs := fl.mapIdx (gfv G σ b)) (by rw [wl_get hb, hs]; rfl)
  exact run_on hS hl (va_runVN (As := As) (rest := st) ⟨E.1, E.2.1, E.2.2.1, E.2.2.2.1, E.2.2.2.2.1⟩ (hM σ1 h1) ⟨cbN_of E hwc hwi hwl hrc hrs hd hR, E.2.2.2.2.1 _ hwm, E.2.2.2.2.1 _ hws⟩ ⟨fb_inv, hrv, inv_in E hP hS⟩ rfl hn hl.1 hst (lv_room hW) d ⟨Nat.zero_le _, Nat.zero_le _⟩) (kk σ1 hf)
theorem x_callSNwv {host : String} {y : MethodName} {bytes : ByteArray} {maxL : Nat} {ret : Option FieldType} {rm : Room} {index na : Nat} {As stk : List Value} {f : Option (MM)} {F : MM → Option α} (E : OKc n cc nL own G K) (hM : ∀ σ1, f = some σ1 → Ct sh n y bytes maxL ret rm G As σ none σ1) (hwc : Cond.code y bytes maxL ret ∈ wsL_law) (hwi : Cond.initialized y.cls ∈ wsL_law) (hwl : Cond.methodLinkNest own index y host ∈ nestW) (hwm : Cond.static y ∈ wsL_law) (hrc : rm.cells = 0) (hrs : rm.slots = 0) (hd : y.cls ≠ "java/lang/invoke/MethodHandle" ∧ y.cls ≠ "java/lang/invoke/VarHandle" ∧ (parseMethodDescriptor y.desc).map (fun d => d.parameters.length) = some na) (hR : rm.frames + 1 ≤ R.frames ∧ 8 + (maxL + 11) + rm.locals ≤ R.locals) (hn : As.length = na) (hst : stk = As.reverse ++ st) (hW : (st.map fun v => v.category).sum ≤ 8) (d : decode cc pc = .ok (.invokestatic index, 3)) (hf : f.bind F = some o) (kk : ∀ σ1, F σ1 = some o → XJ sh n nL R G K σ1 lv (pc + 3) (st)) : XJ sh n nL R G K σ lv pc stk := by
  obtain ⟨σ1, h1, hf⟩ := bind_some hf
  intro H locs ls hP hS hl
  exact run_on hS hl (va_runSN (As := As) (rest := st) ⟨E.1, E.2.1, E.2.2.1, E.2.2.2.1, E.2.2.2.2.1⟩ (hM σ1 h1) ⟨cbN_of E hwc hwi hwl hrc hrs hd hR, E.2.2.2.2.1 _ hwm, trivial⟩ ⟨fb_inv, inv_in E hP hS⟩ rfl hn hl.1 hst (lv_room hW) d ⟨Nat.zero_le _, Nat.zero_le _⟩) (kk σ1 hf)
theorem x_callVNri {host : String} {y : MethodName} {bytes : ByteArray} {maxL : Nat} {ret : Option FieldType} {rm : Room} {index na : Nat} {As stk : List Value} {b ci NN : Nat} {fl : List Nat} {C : String} {T : u_T} {f : Option (Int32)} {F : Int32 → Option α} (E : OKc n cc nL own G K) (hM : ∀ r, f = some r → Ct sh n y bytes maxL ret rm G (.ref (gad G b) :: As) σ (some (.int r)) σ) (hs : sh b = .inl (ci, fl)) (hb : b < n) (hc : vwCl[ci]? = some (C, T, NN)) (hwc : Cond.code y bytes maxL ret ∈ wsL_law) (hwi : Cond.initialized y.cls ∈ wsL_law) (hwl : Cond.methodLinkNest own index y host ∈ nestW) (hwm : Cond.instanceMethod y ∈ wsL_law) (hws : Cond.selects C y y ∈ wsL_law) (hrc : rm.cells = 0) (hrs : rm.slots = 0) (hd : y.cls ≠ "java/lang/invoke/MethodHandle" ∧ y.cls ≠ "java/lang/invoke/VarHandle" ∧ (parseMethodDescriptor y.desc).map (fun d => d.parameters.length) = some na) (hR : rm.frames + 1 ≤ R.frames ∧ 8 + (maxL + 11) + rm.locals ≤ R.locals) (hn : As.length = na) (hst : stk = As.reverse ++ .ref (gad G b) :: st) (hW : (st.map fun v => v.category).sum ≤ 8) (d : decode cc pc = .ok (.invokevirtual index, 3)) (hf : f.bind F = some o) (kk : ∀ r, F r = some o → XJ sh n nL R G K σ lv (pc + 3) (.int r :: st)) : XJ sh n nL R G K σ lv pc stk := by
  obtain ⟨r, h1, hf⟩ := bind_some hf
  intro H locs ls hP hS hl
  have hrv := va_recv E.2.2.2.2.2.1 hP hc (q0 := b) (a := gad G b) (fs := fl.mapIdx (gfv G σ b)) (by rw [wl_get hb, hs]; rfl)
  exact run_on hS hl (va_runVN (As := As) (rest := st) ⟨E.1, E.2.1, E.2.2.1, E.2.2.2.1, E.2.2.2.2.1⟩ (hM r h1) ⟨cbN_of E hwc hwi hwl hrc hrs hd hR, E.2.2.2.2.1 _ hwm, E.2.2.2.2.1 _ hws⟩ ⟨fb_inv, hrv, inv_in E hP hS⟩ rfl hn hl.1 hst (lv_room hW) d ⟨Nat.zero_le _, Nat.zero_le _⟩) (kk r hf)
theorem x_callSNri {host : String} {y : MethodName} {bytes : ByteArray} {maxL : Nat} {ret : Option FieldType} {rm : Room} {index na : Nat} {As stk : List Value} {f : Option (Int32)} {F : Int32 → Option α} (E : OKc n cc nL own G K) (hM : ∀ r, f = some r → Ct sh n y bytes maxL ret rm G As σ (some (.int r)) σ) (hwc : Cond.code y bytes maxL ret ∈ wsL_law) (hwi : Cond.initialized y.cls ∈ wsL_law) (hwl : Cond.methodLinkNest own index y host ∈ nestW) (hwm : Cond.static y ∈ wsL_law) (hrc : rm.cells = 0) (hrs : rm.slots = 0) (hd : y.cls ≠ "java/lang/invoke/MethodHandle" ∧ y.cls ≠ "java/lang/invoke/VarHandle" ∧ (parseMethodDescriptor y.desc).map (fun d => d.parameters.length) = some na) (hR : rm.frames + 1 ≤ R.frames ∧ 8 + (maxL + 11) + rm.locals ≤ R.locals) (hn : As.length = na) (hst : stk = As.reverse ++ st) (hW : (st.map fun v => v.category).sum ≤ 8) (d : decode cc pc = .ok (.invokestatic index, 3)) (hf : f.bind F = some o) (kk : ∀ r, F r = some o → XJ sh n nL R G K σ lv (pc + 3) (.int r :: st)) : XJ sh n nL R G K σ lv pc stk := by
  obtain ⟨r, h1, hf⟩ := bind_some hf
  intro H locs ls hP hS hl
  exact run_on hS hl (va_runSN (As := As) (rest := st) ⟨E.1, E.2.1, E.2.2.1, E.2.2.2.1, E.2.2.2.2.1⟩ (hM r h1) ⟨cbN_of E hwc hwi hwl hrc hrs hd hR, E.2.2.2.2.1 _ hwm, trivial⟩ ⟨fb_inv, inv_in E hP hS⟩ rfl hn hl.1 hst (lv_room hW) d ⟨Nat.zero_le _, Nat.zero_le _⟩) (kk r hf)
theorem x_callVNrl {host : String} {y : MethodName} {bytes : ByteArray} {maxL : Nat} {ret : Option FieldType} {rm : Room} {index na : Nat} {As stk : List Value} {b ci NN : Nat} {fl : List Nat} {C : String} {T : u_T} {f : Option (Int64)} {F : Int64 → Option α} (E : OKc n cc nL own G K) (hM : ∀ r, f = some r → Ct sh n y bytes maxL ret rm G (.ref (gad G b) :: As) σ (some (.long r)) σ) (hs : sh b = .inl (ci, fl)) (hb : b < n) (hc : vwCl[ci]? = some (C, T, NN)) (hwc : Cond.code y bytes maxL ret ∈ wsL_law) (hwi : Cond.initialized y.cls ∈ wsL_law) (hwl : Cond.methodLinkNest own index y host ∈ nestW) (hwm : Cond.instanceMethod y ∈ wsL_law) (hws : Cond.selects C y y ∈ wsL_law) (hrc : rm.cells = 0) (hrs : rm.slots = 0) (hd : y.cls ≠ "java/lang/invoke/MethodHandle" ∧ y.cls ≠ "java/lang/invoke/VarHandle" ∧ (parseMethodDescriptor y.desc).map (fun d => d.parameters.length) = some na) (hR : rm.frames + 1 ≤ R.frames ∧ 8 + (maxL + 11) + rm.locals ≤ R.locals) (hn : As.length = na) (hst : stk = As.reverse ++ .ref (gad G b) :: st) (hW : (st.map fun v => v.category).sum ≤ 8) (d : decode cc pc = .ok (.invokevirtual index, 3)) (hf : f.bind F = some o) (kk : ∀ r, F r = some o → XJ sh n nL R G K σ lv (pc + 3) (.long r :: st)) : XJ sh n nL R G K σ lv pc stk := by
  obtain ⟨r, h1, hf⟩ := bind_some hf
  intro H locs ls hP hS hl
  have hrv := va_recv E.2.2.2.2.2.1 hP hc (q0 := b) (a := gad G b) (fs := fl.mapIdx (gfv G σ b)) (by rw [wl_get hb, hs]; rfl)
  exact run_on hS hl (va_runVN (As := As) (rest := st) ⟨E.1, E.2.1, E.2.2.1, E.2.2.2.1, E.2.2.2.2.1⟩ (hM r h1) ⟨cbN_of E hwc hwi hwl hrc hrs hd hR, E.2.2.2.2.1 _ hwm, E.2.2.2.2.1 _ hws⟩ ⟨fb_inv, hrv, inv_in E hP hS⟩ rfl hn hl.1 hst (lv_room hW) d ⟨Nat.zero_le _, Nat.zero_le _⟩) (kk r hf)
theorem x_callSNrl {host : String} {y : MethodName} {bytes : ByteArray} {maxL : Nat} {ret : Option FieldType} {rm : Room} {index na : Nat} {As stk : List Value} {f : Option (Int64)} {F : Int64 → Option α} (E : OKc n cc nL own G K) (hM : ∀ r, f = some r → Ct sh n y bytes maxL ret rm G As σ (some (.long r)) σ) (hwc : Cond.code y bytes maxL ret ∈ wsL_law) (hwi : Cond.initialized y.cls ∈ wsL_law) (hwl : Cond.methodLinkNest own index y host ∈ nestW) (hwm : Cond.static y ∈ wsL_law) (hrc : rm.cells = 0) (hrs : rm.slots = 0) (hd : y.cls ≠ "java/lang/invoke/MethodHandle" ∧ y.cls ≠ "java/lang/invoke/VarHandle" ∧ (parseMethodDescriptor y.desc).map (fun d => d.parameters.length) = some na) (hR : rm.frames + 1 ≤ R.frames ∧ 8 + (maxL + 11) + rm.locals ≤ R.locals) (hn : As.length = na) (hst : stk = As.reverse ++ st) (hW : (st.map fun v => v.category).sum ≤ 8) (d : decode cc pc = .ok (.invokestatic index, 3)) (hf : f.bind F = some o) (kk : ∀ r, F r = some o → XJ sh n nL R G K σ lv (pc + 3) (.long r :: st)) : XJ sh n nL R G K σ lv pc stk := by
  obtain ⟨r, h1, hf⟩ := bind_some hf
  intro H locs ls hP hS hl
  exact run_on hS hl (va_runSN (As := As) (rest := st) ⟨E.1, E.2.1, E.2.2.1, E.2.2.2.1, E.2.2.2.2.1⟩ (hM r h1) ⟨cbN_of E hwc hwi hwl hrc hrs hd hR, E.2.2.2.2.1 _ hwm, trivial⟩ ⟨fb_inv, inv_in E hP hS⟩ rfl hn hl.1 hst (lv_room hW) d ⟨Nat.zero_le _, Nat.zero_le _⟩) (kk r hf)
theorem x_swIf {Gl c : Prop} [Decidable c] {a b o : Option α} (hf : (if c then a else b) = o) (kt : c → a = o → Gl) (kf : ¬ c → b = o → Gl) : Gl := by
  by_cases h : c
  · exact kt h ((if_pos h).symm.trans hf)
  · exact kf h ((if_neg h).symm.trans hf)
theorem x_swIn {dflt lo hi : Int} {offs : Array Int} {len : Nat} {x : Int32} {off : Int} {tgt : Nat} (E : OKc n cc nL own G K) (d : decode cc pc = .ok (.tableswitch dflt lo hi offs, len)) (h1 : ¬ x.toInt < lo) (h2 : ¬ hi < x.toInt) (ho : offs[(x.toInt - lo).toNat]? = some off) (ht : (pc : Int) + off = (tgt : Int)) (k : XJ sh n nL R G K σ lv tgt st) : XJ sh n nL R G K σ lv pc (.int x :: st) := fun H locs ls hP hS hl => lv_tableIn E.1 E.2.1 d h1 h2 ho ht (k H locs ls hP hS hl)
theorem x_swOut {dflt lo hi : Int} {offs : Array Int} {len : Nat} {x : Int32} {tgt : Nat} (E : OKc n cc nL own G K) (d : decode cc pc = .ok (.tableswitch dflt lo hi offs, len)) (ht : (pc : Int) + dflt = (tgt : Int)) (h : x.toInt < lo ∨ hi < x.toInt ∨ offs[(x.toInt - lo).toNat]? = some dflt) (k : XJ sh n nL R G K σ lv tgt st) : XJ sh n nL R G K σ lv pc (.int x :: st) := by
  by_cases h1 : x.toInt < lo
  · exact fun H locs ls hP hS hl => lv_tableOut E.1 E.2.1 d (Or.inl h1) ht (k H locs ls hP hS hl)
  · by_cases h2 : hi < x.toInt
    · exact fun H locs ls hP hS hl => lv_tableOut E.1 E.2.1 d (Or.inr h2) ht (k H locs ls hP hS hl)
    · exact x_swIn E d h1 h2 ((h.resolve_left h1).resolve_left h2) ht k
end XR
/-! loops: a step goes on (inl) or leaves (inr); fuel n -/
def loopN {S T : Type} (step : S → Option (S ⊕ T)) : Nat → S → Option T
  | 0, _ => none
  | n + 1, s => (step s).bind (fun q => match q with | .inl s' => loopN step n s' | .inr r => some r)
def lpk {S T : Type} (step : S → Option (S ⊕ T)) (n : Nat) (q : S ⊕ T) : Option T := match q with | .inl s' => loopN step n s' | .inr r => some r
theorem loopN_0 {S T : Type} {step : S → Option (S ⊕ T)} {s : S} {r : T} (h : loopN step 0 s = some r) : False := by cases h
theorem loopN_s {S T : Type} {step : S → Option (S ⊕ T)} {n : Nat} {s : S} {r : T} (h : loopN step (n + 1) s = some r) : ∃ q, step s = some q ∧ lpk step n q = some r := bind_some h
def FU : Nat := 5000
theorem lpk_r {S T : Type} {step : S → Option (S ⊕ T)} {n : Nat} {a b : T} (h : lpk step n (.inr a) = some b) : a = b := Option.some.inj h
theorem lpk_l {S T : Type} {step : S → Option (S ⊕ T)} {n : Nat} {s : S} {b : T} (h : lpk step n (.inl s) = some b) : loopN step n s = some b := h
theorem sw_d {x : Int32} {lo hi dflt : Int} {offs : Array Int} (act : List Int32) (hsz : hi - lo + 1 = (offs.size : Int)) (hall : ((List.range offs.size).all (fun j => decide (offs[j]? = some dflt) || decide (Int32.ofInt (lo + j) ∈ act))) = true) (hx : x ∉ act) : x.toInt < lo ∨ hi < x.toInt ∨ offs[(x.toInt - lo).toNat]? = some dflt := by
  by_cases h1 : x.toInt < lo
  · exact Or.inl h1
  by_cases h2 : hi < x.toInt
  · exact Or.inr (Or.inl h2)
  refine Or.inr (Or.inr ?_)
  have hj : (x.toInt - lo).toNat < offs.size := by omega
  have hq := List.all_eq_true.mp hall _ (List.mem_range.mpr hj)
  simp only [Bool.or_eq_true, decide_eq_true_eq] at hq
  rcases hq with h | h
  · exact h
  · exfalso
    apply hx
    have e : lo + ((x.toInt - lo).toNat : Int) = x.toInt := by omega
    rw [e, Int32.ofInt_toInt] at h
    exact h
/-! the shapes of the two systems -/
def shL : List Shp := [.inl (6, [1 + 2, 6 + 2, 0, 11 + 2, 14 + 2, 0, 15 + 2, 16 + 2, 29 + 2, 42 + 2, 46 + 2, 50 + 2, 55 + 2, 0, 0, 0]),
  .inl (0, [1 + 1 + 2, 1 + 2 + 2, 1 + 3 + 2, 1 + 4 + 2, 0]), .inr (0, 6, 0), .inr (0, 6, 0), .inr (0, 12, 0), .inr (0, 5, 0),
  .inl (0, [6 + 1 + 2, 6 + 2 + 2, 6 + 3 + 2, 6 + 4 + 2, 0]), .inr (0, 6, 0), .inr (0, 6, 0), .inr (0, 12, 0), .inr (0, 5, 0),
  .inl (4, [12 + 2, 13 + 2, 0, 0, 0]), .inr (2, 80, 0), .inr (0, 12, 0), .inr (0, 6, 0), .inr (0, 7, 0),
  .inl (2, [16 + 1 + 2, 16 + 2 + 2, 16 + 3 + 2, 16 + 4 + 2, 0, 0, 0]), .inr (0, 12, 0), .inr (0, 12, 0), .inr (1, 8, 0), .inr (3, 8, 16 + 5), .inr (1, 8, 0), .inr (1, 8, 0), .inr (1, 8, 0), .inr (1, 8, 0), .inr (1, 8, 0), .inr (1, 8, 0), .inr (1, 8, 0), .inr (1, 8, 0),
  .inl (2, [29 + 1 + 2, 29 + 2 + 2, 29 + 3 + 2, 29 + 4 + 2, 0, 0, 0]), .inr (0, 12, 0), .inr (0, 12, 0), .inr (1, 8, 0), .inr (3, 8, 29 + 5), .inr (1, 8, 0), .inr (1, 8, 0), .inr (1, 8, 0), .inr (1, 8, 0), .inr (1, 8, 0), .inr (1, 8, 0), .inr (1, 8, 0), .inr (1, 8, 0),
  .inl (5, [42 + 3 + 2, 42 + 1 + 2, 42 + 2 + 2, 0, 0, 0]), .inr (0, 6, 0), .inr (0, 12, 0), .inr (1, 4096, 0),
  .inl (5, [46 + 3 + 2, 46 + 1 + 2, 46 + 2 + 2, 0, 0, 0]), .inr (0, 6, 0), .inr (0, 12, 0), .inr (1, 4096, 0),
  .inl (3, [42 + 2, 49 + 2, 51 + 2, 52 + 2, 53 + 2, 54 + 2, 0, 0]), .inr (0, 220, 0), .inr (0, 220, 0), .inr (1, 220, 0), .inr (1, 220, 0),
  .inl (1, [42 + 2, 49 + 2, 0, 0, 0, 0, 0])]
def shS (k : Nat) : Shp := shL.getD k (.inr (0, 0, 0))
def shML : List Shp := [.inl (7, [1 + 2, 2 + 2, 3 + 2, 4 + 2, 5 + 2, 6 + 2, 0, 7 + 2, 0, 0, 8 + 2, 9 + 2, 10 + 2, 11 + 2, 12 + 2, 13 + 2, 0, 0, 14 + 2, 0, 0, 1, 15 + 2, 16 + 2, 17 + 2, 18 + 2, 0, 0, 0, 19 + 2, 0, 0, 0, 20 + 2, 0, 0]),
  .inr (0, 7, 0), .inr (0, 12, 0), .inr (0, 13, 0), .inr (0, 5, 0), .inr (0, 5, 0), .inr (0, 5, 0), .inr (0, 80, 0), .inr (0, 24, 0), .inr (1, 8, 0), .inr (1, 4096, 0), .inr (1, 131072, 0), .inr (0, 4096, 0), .inr (0, 6, 0), .inr (0, 6, 0), .inr (0, 220, 0), .inr (0, 220, 0), .inr (1, 220, 0), .inr (1, 220, 0), .inr (1, 212992, 0), .inr (0, 40, 0)]
def shM (k : Nat) : Shp := shML.getD k (.inr (0, 0, 0))
def isBn (b : Nat) : Prop := b = 1 ∨ b = 6
def isMd (b : Nat) : Prop := b = 16 ∨ b = 29
def isTn (b : Nat) : Prop := b = 42 ∨ b = 46
theorem sh_isBn {b : Nat} (h : isBn b) : shS b = .inl (0, [b + 1 + 2, b + 2 + 2, b + 3 + 2, b + 4 + 2, 0]) ∧ shS (b + 1) = .inr (0, 6, 0) ∧ shS (b + 2) = .inr (0, 6, 0) ∧ shS (b + 3) = .inr (0, 12, 0) ∧ shS (b + 4) = .inr (0, 5, 0) := by
  rcases h with rfl | rfl <;> exact ⟨rfl, rfl, rfl, rfl, rfl⟩
theorem lt_isBn {b : Nat} (h : isBn b) : b < 56 ∧ b + 1 < 56 ∧ b + 2 < 56 ∧ b + 3 < 56 ∧ b + 4 < 56 := by
  rcases h with rfl | rfl <;> decide
theorem sh_isMd {b : Nat} (h : isMd b) : shS b = .inl (2, [b + 1 + 2, b + 2 + 2, b + 3 + 2, b + 4 + 2, 0, 0, 0]) ∧ shS (b + 1) = .inr (0, 12, 0) ∧ shS (b + 2) = .inr (0, 12, 0) ∧ shS (b + 3) = .inr (1, 8, 0) ∧ shS (b + 4) = .inr (0 + 3, 8, b + 5) := by
  rcases h with rfl | rfl <;> exact ⟨rfl, rfl, rfl, rfl, rfl⟩
theorem lt_isMd {b : Nat} (h : isMd b) : b < 56 ∧ b + 1 < 56 ∧ b + 2 < 56 ∧ b + 3 < 56 ∧ b + 4 < 56 := by
  rcases h with rfl | rfl <;> decide
theorem sh_row {b : Nat} {i : Int32} (h : isMd b) (hi : inb i 8 = true) : shS (b + 5 + i.toNatClampNeg) = .inr (1, 8, 0) ∧ b + 5 + i.toNatClampNeg < 56 := by
  have hl := inb_lt hi
  generalize i.toNatClampNeg = j at hl ⊢
  rcases h with rfl | rfl <;> (match j, hl with | 0, _ => decide | 1, _ => decide | 2, _ => decide | 3, _ => decide | 4, _ => decide | 5, _ => decide | 6, _ => decide | 7, _ => decide)
theorem sh_isTn {b : Nat} (h : isTn b) : shS b = .inl (5, [b + 3 + 2, b + 1 + 2, b + 2 + 2, 0, 0, 0]) ∧ shS (b + 1) = .inr (0, 6, 0) ∧ shS (b + 2) = .inr (0, 12, 0) ∧ shS (b + 3) = .inr (1, 4096, 0) := by
  rcases h with rfl | rfl <;> exact ⟨rfl, rfl, rfl, rfl⟩
theorem lt_isTn {b : Nat} (h : isTn b) : b < 56 ∧ b + 1 < 56 ∧ b + 2 < 56 ∧ b + 3 < 56 := by
  rcases h with rfl | rfl <;> decide
end
