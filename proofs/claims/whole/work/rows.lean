section
-- ===== PART A: goes FIRST, ahead of the names: the tables' words, and 'selects' of the private methods out of them =====
/-- a private method of a class that the tables say can be made, by its rows of tables_1 -/
def lw_okq (q : MethodName × Nat) : Prop := (q.1.cls ≠ "java/lang/invoke/MethodHandle" ∧ q.1.cls ≠ "java/lang/invoke/VarHandle") ∧ Cond.instantiable q.1.cls q.2 ∈ tables_1 ∧ Cond.privateMethod q.1 ∈ tables_1 ∧ Cond.instanceMethod q.1 ∈ tables_1
theorem lw_p0 : lw_okq (⟨"PegDiscs", "rowAt", "(I)LPegDiscs$Row;"⟩, 12) := ⟨⟨by decide +kernel, by decide +kernel⟩, List.mem_of_getElem? (i := 15) (by decide +kernel), List.mem_of_getElem? (i := 190) (by decide +kernel), List.mem_of_getElem? (i := 191) (by decide +kernel)⟩
theorem lw_p1 : lw_okq (⟨"PegDiscs", "found", "(I)I"⟩, 12) := ⟨⟨by decide +kernel, by decide +kernel⟩, List.mem_of_getElem? (i := 15) (by decide +kernel), List.mem_of_getElem? (i := 195) (by decide +kernel), List.mem_of_getElem? (i := 196) (by decide +kernel)⟩
theorem lw_p2 : lw_okq (⟨"PegDiscs$Row", "begin", "(II)V"⟩, 3) := ⟨⟨by decide +kernel, by decide +kernel⟩, List.mem_of_getElem? (i := 131) (by decide +kernel), List.mem_of_getElem? (i := 200) (by decide +kernel), List.mem_of_getElem? (i := 201) (by decide +kernel)⟩
theorem lw_p3 : lw_okq (⟨"PegDiscs", "well", "(I)I"⟩, 12) := ⟨⟨by decide +kernel, by decide +kernel⟩, List.mem_of_getElem? (i := 15) (by decide +kernel), List.mem_of_getElem? (i := 207) (by decide +kernel), List.mem_of_getElem? (i := 208) (by decide +kernel)⟩
theorem lw_p4 : lw_okq (⟨"PegDiscs$Row", "flaw", "(II)I"⟩, 3) := ⟨⟨by decide +kernel, by decide +kernel⟩, List.mem_of_getElem? (i := 131) (by decide +kernel), List.mem_of_getElem? (i := 215) (by decide +kernel), List.mem_of_getElem? (i := 216) (by decide +kernel)⟩
theorem lw_p5 : lw_okq (⟨"PegDiscs$Row", "isMissing", "()Z"⟩, 3) := ⟨⟨by decide +kernel, by decide +kernel⟩, List.mem_of_getElem? (i := 131) (by decide +kernel), List.mem_of_getElem? (i := 219) (by decide +kernel), List.mem_of_getElem? (i := 220) (by decide +kernel)⟩
theorem lw_p6 : lw_okq (⟨"PegDiscs$Row", "store", "(II)I"⟩, 3) := ⟨⟨by decide +kernel, by decide +kernel⟩, List.mem_of_getElem? (i := 131) (by decide +kernel), List.mem_of_getElem? (i := 223) (by decide +kernel), List.mem_of_getElem? (i := 224) (by decide +kernel)⟩
theorem lw_p7 : lw_okq (⟨"PegDiscs$Row", "end", "()I"⟩, 3) := ⟨⟨by decide +kernel, by decide +kernel⟩, List.mem_of_getElem? (i := 131) (by decide +kernel), List.mem_of_getElem? (i := 239) (by decide +kernel), List.mem_of_getElem? (i := 240) (by decide +kernel)⟩
theorem lw_p8 : lw_okq (⟨"PegDiscs$Tape", "take", "(I)Z"⟩, 5) := ⟨⟨by decide +kernel, by decide +kernel⟩, List.mem_of_getElem? (i := 25) (by decide +kernel), List.mem_of_getElem? (i := 247) (by decide +kernel), List.mem_of_getElem? (i := 248) (by decide +kernel)⟩
theorem lw_p9 : lw_okq (⟨"PegDiscs$Tape", "readInto", "(LPegDiscs$Board;)Z"⟩, 5) := ⟨⟨by decide +kernel, by decide +kernel⟩, List.mem_of_getElem? (i := 25) (by decide +kernel), List.mem_of_getElem? (i := 256) (by decide +kernel), List.mem_of_getElem? (i := 257) (by decide +kernel)⟩
theorem lw_p10 : lw_okq (⟨"PegDiscs$Board", "clear", "()V"⟩, 6) := ⟨⟨by decide +kernel, by decide +kernel⟩, List.mem_of_getElem? (i := 51) (by decide +kernel), List.mem_of_getElem? (i := 260) (by decide +kernel), List.mem_of_getElem? (i := 261) (by decide +kernel)⟩
theorem lw_p11 : lw_okq (⟨"PegDiscs$Tape", "readLaw", "(LPegDiscs$Board;)Z"⟩, 5) := ⟨⟨by decide +kernel, by decide +kernel⟩, List.mem_of_getElem? (i := 25) (by decide +kernel), List.mem_of_getElem? (i := 264) (by decide +kernel), List.mem_of_getElem? (i := 265) (by decide +kernel)⟩
theorem lw_p12 : lw_okq (⟨"PegDiscs$Tape", "passes", "(I)Z"⟩, 5) := ⟨⟨by decide +kernel, by decide +kernel⟩, List.mem_of_getElem? (i := 25) (by decide +kernel), List.mem_of_getElem? (i := 268) (by decide +kernel), List.mem_of_getElem? (i := 269) (by decide +kernel)⟩
theorem lw_p13 : lw_okq (⟨"PegDiscs$Tape", "byteAt", "(I)I"⟩, 5) := ⟨⟨by decide +kernel, by decide +kernel⟩, List.mem_of_getElem? (i := 25) (by decide +kernel), List.mem_of_getElem? (i := 272) (by decide +kernel), List.mem_of_getElem? (i := 273) (by decide +kernel)⟩
theorem lw_p14 : lw_okq (⟨"PegDiscs$Tape", "faulty", "(I)Z"⟩, 5) := ⟨⟨by decide +kernel, by decide +kernel⟩, List.mem_of_getElem? (i := 25) (by decide +kernel), List.mem_of_getElem? (i := 276) (by decide +kernel), List.mem_of_getElem? (i := 277) (by decide +kernel)⟩
theorem lw_p15 : lw_okq (⟨"PegDiscs$Tape", "readNumber", "(II)Z"⟩, 5) := ⟨⟨by decide +kernel, by decide +kernel⟩, List.mem_of_getElem? (i := 25) (by decide +kernel), List.mem_of_getElem? (i := 280) (by decide +kernel), List.mem_of_getElem? (i := 281) (by decide +kernel)⟩
def lw_privs_1 : List (MethodName × Nat) := [(⟨"PegDiscs", "rowAt", "(I)LPegDiscs$Row;"⟩, 12), (⟨"PegDiscs", "found", "(I)I"⟩, 12), (⟨"PegDiscs$Row", "begin", "(II)V"⟩, 3), (⟨"PegDiscs", "well", "(I)I"⟩, 12), (⟨"PegDiscs$Row", "flaw", "(II)I"⟩, 3), (⟨"PegDiscs$Row", "isMissing", "()Z"⟩, 3), (⟨"PegDiscs$Row", "store", "(II)I"⟩, 3), (⟨"PegDiscs$Row", "end", "()I"⟩, 3), (⟨"PegDiscs$Tape", "take", "(I)Z"⟩, 5), (⟨"PegDiscs$Tape", "readInto", "(LPegDiscs$Board;)Z"⟩, 5), (⟨"PegDiscs$Board", "clear", "()V"⟩, 6), (⟨"PegDiscs$Tape", "readLaw", "(LPegDiscs$Board;)Z"⟩, 5), (⟨"PegDiscs$Tape", "passes", "(I)Z"⟩, 5), (⟨"PegDiscs$Tape", "byteAt", "(I)I"⟩, 5), (⟨"PegDiscs$Tape", "faulty", "(I)Z"⟩, 5), (⟨"PegDiscs$Tape", "readNumber", "(II)Z"⟩, 5)]
theorem lw_r1 : ∀ q ∈ lw_privs_1, lw_okq q := List.forall_mem_cons.mpr ⟨lw_p0, List.forall_mem_cons.mpr ⟨lw_p1, List.forall_mem_cons.mpr ⟨lw_p2, List.forall_mem_cons.mpr ⟨lw_p3, List.forall_mem_cons.mpr ⟨lw_p4, List.forall_mem_cons.mpr ⟨lw_p5, List.forall_mem_cons.mpr ⟨lw_p6, List.forall_mem_cons.mpr ⟨lw_p7, List.forall_mem_cons.mpr ⟨lw_p8, List.forall_mem_cons.mpr ⟨lw_p9, List.forall_mem_cons.mpr ⟨lw_p10, List.forall_mem_cons.mpr ⟨lw_p11, List.forall_mem_cons.mpr ⟨lw_p12, List.forall_mem_cons.mpr ⟨lw_p13, List.forall_mem_cons.mpr ⟨lw_p14, List.forall_mem_cons.mpr ⟨lw_p15, fun _ h => absurd h List.not_mem_nil⟩⟩⟩⟩⟩⟩⟩⟩⟩⟩⟩⟩⟩⟩⟩⟩
theorem lw_p16 : lw_okq (⟨"PegDiscs$Tape", "readDisc", "(LPegDiscs$Board;)Z"⟩, 5) := ⟨⟨by decide +kernel, by decide +kernel⟩, List.mem_of_getElem? (i := 25) (by decide +kernel), List.mem_of_getElem? (i := 287) (by decide +kernel), List.mem_of_getElem? (i := 288) (by decide +kernel)⟩
theorem lw_p17 : lw_okq (⟨"PegDiscs$Board", "sortAs", "(II)V"⟩, 6) := ⟨⟨by decide +kernel, by decide +kernel⟩, List.mem_of_getElem? (i := 51) (by decide +kernel), List.mem_of_getElem? (i := 294) (by decide +kernel), List.mem_of_getElem? (i := 295) (by decide +kernel)⟩
theorem lw_p18 : lw_okq (⟨"PegDiscs$Board", "layBy", "(II)V"⟩, 6) := ⟨⟨by decide +kernel, by decide +kernel⟩, List.mem_of_getElem? (i := 51) (by decide +kernel), List.mem_of_getElem? (i := 298) (by decide +kernel), List.mem_of_getElem? (i := 299) (by decide +kernel)⟩
theorem lw_p19 : lw_okq (⟨"PegDiscs$Board", "take", "(LPegDiscs$Board;)V"⟩, 6) := ⟨⟨by decide +kernel, by decide +kernel⟩, List.mem_of_getElem? (i := 51) (by decide +kernel), List.mem_of_getElem? (i := 303) (by decide +kernel), List.mem_of_getElem? (i := 304) (by decide +kernel)⟩
theorem lw_p20 : lw_okq (⟨"PegDiscs$Acts", "forget", "()V"⟩, 3) := ⟨⟨by decide +kernel, by decide +kernel⟩, List.mem_of_getElem? (i := 87) (by decide +kernel), List.mem_of_getElem? (i := 307) (by decide +kernel), List.mem_of_getElem? (i := 308) (by decide +kernel)⟩
theorem lw_p21 : lw_okq (⟨"PegDiscs$Board", "hasPeg", "(I)Z"⟩, 6) := ⟨⟨by decide +kernel, by decide +kernel⟩, List.mem_of_getElem? (i := 51) (by decide +kernel), List.mem_of_getElem? (i := 319) (by decide +kernel), List.mem_of_getElem? (i := 320) (by decide +kernel)⟩
theorem lw_p22 : lw_okq (⟨"PegDiscs$Board", "allows", "(I)Z"⟩, 6) := ⟨⟨by decide +kernel, by decide +kernel⟩, List.mem_of_getElem? (i := 51) (by decide +kernel), List.mem_of_getElem? (i := 323) (by decide +kernel), List.mem_of_getElem? (i := 324) (by decide +kernel)⟩
theorem lw_p23 : lw_okq (⟨"PegDiscs$Board", "movesNow", "()I"⟩, 6) := ⟨⟨by decide +kernel, by decide +kernel⟩, List.mem_of_getElem? (i := 51) (by decide +kernel), List.mem_of_getElem? (i := 327) (by decide +kernel), List.mem_of_getElem? (i := 328) (by decide +kernel)⟩
theorem lw_p24 : lw_okq (⟨"PegDiscs$Board", "movesFrom", "(IZ)I"⟩, 6) := ⟨⟨by decide +kernel, by decide +kernel⟩, List.mem_of_getElem? (i := 51) (by decide +kernel), List.mem_of_getElem? (i := 331) (by decide +kernel), List.mem_of_getElem? (i := 332) (by decide +kernel)⟩
theorem lw_p25 : lw_okq (⟨"PegDiscs$Board", "lyingIn", "(I)I"⟩, 6) := ⟨⟨by decide +kernel, by decide +kernel⟩, List.mem_of_getElem? (i := 51) (by decide +kernel), List.mem_of_getElem? (i := 335) (by decide +kernel), List.mem_of_getElem? (i := 336) (by decide +kernel)⟩
theorem lw_p26 : lw_okq (⟨"PegDiscs$Board", "mayGo", "(IIIZ)Z"⟩, 6) := ⟨⟨by decide +kernel, by decide +kernel⟩, List.mem_of_getElem? (i := 51) (by decide +kernel), List.mem_of_getElem? (i := 348) (by decide +kernel), List.mem_of_getElem? (i := 349) (by decide +kernel)⟩
theorem lw_p27 : lw_okq (⟨"PegDiscs$Board", "kindOf", "(I)I"⟩, 6) := ⟨⟨by decide +kernel, by decide +kernel⟩, List.mem_of_getElem? (i := 51) (by decide +kernel), List.mem_of_getElem? (i := 352) (by decide +kernel), List.mem_of_getElem? (i := 353) (by decide +kernel)⟩
theorem lw_p28 : lw_okq (⟨"PegDiscs$Board", "topOf", "(I)I"⟩, 6) := ⟨⟨by decide +kernel, by decide +kernel⟩, List.mem_of_getElem? (i := 51) (by decide +kernel), List.mem_of_getElem? (i := 357) (by decide +kernel), List.mem_of_getElem? (i := 358) (by decide +kernel)⟩
theorem lw_p29 : lw_okq (⟨"PegDiscs$Board", "lyingOn", "(I)I"⟩, 6) := ⟨⟨by decide +kernel, by decide +kernel⟩, List.mem_of_getElem? (i := 51) (by decide +kernel), List.mem_of_getElem? (i := 361) (by decide +kernel), List.mem_of_getElem? (i := 362) (by decide +kernel)⟩
theorem lw_p30 : lw_okq (⟨"PegDiscs$Acts", "keep", "(LPegDiscs$Board;)V"⟩, 3) := ⟨⟨by decide +kernel, by decide +kernel⟩, List.mem_of_getElem? (i := 87) (by decide +kernel), List.mem_of_getElem? (i := 365) (by decide +kernel), List.mem_of_getElem? (i := 366) (by decide +kernel)⟩
theorem lw_p31 : lw_okq (⟨"PegDiscs$Board", "carryOut", "(I)V"⟩, 6) := ⟨⟨by decide +kernel, by decide +kernel⟩, List.mem_of_getElem? (i := 51) (by decide +kernel), List.mem_of_getElem? (i := 370) (by decide +kernel), List.mem_of_getElem? (i := 371) (by decide +kernel)⟩
def lw_privs_2 : List (MethodName × Nat) := [(⟨"PegDiscs$Tape", "readDisc", "(LPegDiscs$Board;)Z"⟩, 5), (⟨"PegDiscs$Board", "sortAs", "(II)V"⟩, 6), (⟨"PegDiscs$Board", "layBy", "(II)V"⟩, 6), (⟨"PegDiscs$Board", "take", "(LPegDiscs$Board;)V"⟩, 6), (⟨"PegDiscs$Acts", "forget", "()V"⟩, 3), (⟨"PegDiscs$Board", "hasPeg", "(I)Z"⟩, 6), (⟨"PegDiscs$Board", "allows", "(I)Z"⟩, 6), (⟨"PegDiscs$Board", "movesNow", "()I"⟩, 6), (⟨"PegDiscs$Board", "movesFrom", "(IZ)I"⟩, 6), (⟨"PegDiscs$Board", "lyingIn", "(I)I"⟩, 6), (⟨"PegDiscs$Board", "mayGo", "(IIIZ)Z"⟩, 6), (⟨"PegDiscs$Board", "kindOf", "(I)I"⟩, 6), (⟨"PegDiscs$Board", "topOf", "(I)I"⟩, 6), (⟨"PegDiscs$Board", "lyingOn", "(I)I"⟩, 6), (⟨"PegDiscs$Acts", "keep", "(LPegDiscs$Board;)V"⟩, 3), (⟨"PegDiscs$Board", "carryOut", "(I)V"⟩, 6)]
theorem lw_r2 : ∀ q ∈ lw_privs_2, lw_okq q := List.forall_mem_cons.mpr ⟨lw_p16, List.forall_mem_cons.mpr ⟨lw_p17, List.forall_mem_cons.mpr ⟨lw_p18, List.forall_mem_cons.mpr ⟨lw_p19, List.forall_mem_cons.mpr ⟨lw_p20, List.forall_mem_cons.mpr ⟨lw_p21, List.forall_mem_cons.mpr ⟨lw_p22, List.forall_mem_cons.mpr ⟨lw_p23, List.forall_mem_cons.mpr ⟨lw_p24, List.forall_mem_cons.mpr ⟨lw_p25, List.forall_mem_cons.mpr ⟨lw_p26, List.forall_mem_cons.mpr ⟨lw_p27, List.forall_mem_cons.mpr ⟨lw_p28, List.forall_mem_cons.mpr ⟨lw_p29, List.forall_mem_cons.mpr ⟨lw_p30, List.forall_mem_cons.mpr ⟨lw_p31, fun _ h => absurd h List.not_mem_nil⟩⟩⟩⟩⟩⟩⟩⟩⟩⟩⟩⟩⟩⟩⟩⟩
theorem lw_p32 : lw_okq (⟨"PegDiscs$Board", "behind", "(II)I"⟩, 6) := ⟨⟨by decide +kernel, by decide +kernel⟩, List.mem_of_getElem? (i := 51) (by decide +kernel), List.mem_of_getElem? (i := 374) (by decide +kernel), List.mem_of_getElem? (i := 375) (by decide +kernel)⟩
theorem lw_p33 : lw_okq (⟨"PegDiscs$Board", "hasDisc", "(I)Z"⟩, 6) := ⟨⟨by decide +kernel, by decide +kernel⟩, List.mem_of_getElem? (i := 51) (by decide +kernel), List.mem_of_getElem? (i := 382) (by decide +kernel), List.mem_of_getElem? (i := 383) (by decide +kernel)⟩
theorem lw_p34 : lw_okq (⟨"PegDiscs$Board", "pegOf", "(I)I"⟩, 6) := ⟨⟨by decide +kernel, by decide +kernel⟩, List.mem_of_getElem? (i := 51) (by decide +kernel), List.mem_of_getElem? (i := 386) (by decide +kernel), List.mem_of_getElem? (i := 387) (by decide +kernel)⟩
theorem lw_p35 : lw_okq (⟨"PegDiscs$Board", "isNone", "()Z"⟩, 6) := ⟨⟨by decide +kernel, by decide +kernel⟩, List.mem_of_getElem? (i := 51) (by decide +kernel), List.mem_of_getElem? (i := 395) (by decide +kernel), List.mem_of_getElem? (i := 396) (by decide +kernel)⟩
theorem lw_p36 : lw_okq (⟨"PegDiscs$Acts", "takeBack", "(LPegDiscs$Board;)Z"⟩, 3) := ⟨⟨by decide +kernel, by decide +kernel⟩, List.mem_of_getElem? (i := 87) (by decide +kernel), List.mem_of_getElem? (i := 403) (by decide +kernel), List.mem_of_getElem? (i := 404) (by decide +kernel)⟩
theorem lw_p37 : lw_okq (⟨"PegDiscs$Board", "arrangedBy", "(LPegDiscs$Row;I)I"⟩, 6) := ⟨⟨by decide +kernel, by decide +kernel⟩, List.mem_of_getElem? (i := 51) (by decide +kernel), List.mem_of_getElem? (i := 427) (by decide +kernel), List.mem_of_getElem? (i := 428) (by decide +kernel)⟩
theorem lw_p38 : lw_okq (⟨"PegDiscs$Row", "itemAt", "(I)I"⟩, 3) := ⟨⟨by decide +kernel, by decide +kernel⟩, List.mem_of_getElem? (i := 131) (by decide +kernel), List.mem_of_getElem? (i := 431) (by decide +kernel), List.mem_of_getElem? (i := 432) (by decide +kernel)⟩
theorem lw_p39 : lw_okq (⟨"PegDiscs", "searched", "()LPegDiscs$Search;"⟩, 12) := ⟨⟨by decide +kernel, by decide +kernel⟩, List.mem_of_getElem? (i := 15) (by decide +kernel), List.mem_of_getElem? (i := 437) (by decide +kernel), List.mem_of_getElem? (i := 438) (by decide +kernel)⟩
theorem lw_p40 : lw_okq (⟨"PegDiscs$Board", "hasFutureOf", "(LPegDiscs$Board;)Z"⟩, 6) := ⟨⟨by decide +kernel, by decide +kernel⟩, List.mem_of_getElem? (i := 51) (by decide +kernel), List.mem_of_getElem? (i := 489) (by decide +kernel), List.mem_of_getElem? (i := 490) (by decide +kernel)⟩
theorem lw_p41 : lw_okq (⟨"PegDiscs$Board", "hasLawOf", "(LPegDiscs$Board;)Z"⟩, 6) := ⟨⟨by decide +kernel, by decide +kernel⟩, List.mem_of_getElem? (i := 51) (by decide +kernel), List.mem_of_getElem? (i := 493) (by decide +kernel), List.mem_of_getElem? (i := 494) (by decide +kernel)⟩
theorem lw_p42 : lw_okq (⟨"PegDiscs$Search", "begin", "(LPegDiscs$Board;)V"⟩, 11) := ⟨⟨by decide +kernel, by decide +kernel⟩, List.mem_of_getElem? (i := 441) (by decide +kernel), List.mem_of_getElem? (i := 497) (by decide +kernel), List.mem_of_getElem? (i := 498) (by decide +kernel)⟩
theorem lw_p43 : lw_okq (⟨"PegDiscs", "netNow", "()LPegDiscs$Net;"⟩, 12) := ⟨⟨by decide +kernel, by decide +kernel⟩, List.mem_of_getElem? (i := 15) (by decide +kernel), List.mem_of_getElem? (i := 504) (by decide +kernel), List.mem_of_getElem? (i := 505) (by decide +kernel)⟩
theorem lw_p44 : lw_okq (⟨"PegDiscs$Net", "lookAt", "(LPegDiscs$Board;)V"⟩, 3) := ⟨⟨by decide +kernel, by decide +kernel⟩, List.mem_of_getElem? (i := 508) (by decide +kernel), List.mem_of_getElem? (i := 528) (by decide +kernel), List.mem_of_getElem? (i := 529) (by decide +kernel)⟩
theorem lw_p45 : lw_okq (⟨"PegDiscs$Board", "hasFrail", "()Z"⟩, 6) := ⟨⟨by decide +kernel, by decide +kernel⟩, List.mem_of_getElem? (i := 51) (by decide +kernel), List.mem_of_getElem? (i := 534) (by decide +kernel), List.mem_of_getElem? (i := 535) (by decide +kernel)⟩
theorem lw_p46 : lw_okq (⟨"PegDiscs$Search", "spread", "(LPegDiscs$Net;)V"⟩, 11) := ⟨⟨by decide +kernel, by decide +kernel⟩, List.mem_of_getElem? (i := 441) (by decide +kernel), List.mem_of_getElem? (i := 539) (by decide +kernel), List.mem_of_getElem? (i := 540) (by decide +kernel)⟩
theorem lw_p47 : lw_okq (⟨"PegDiscs$Net", "start", "()I"⟩, 3) := ⟨⟨by decide +kernel, by decide +kernel⟩, List.mem_of_getElem? (i := 508) (by decide +kernel), List.mem_of_getElem? (i := 543) (by decide +kernel), List.mem_of_getElem? (i := 544) (by decide +kernel)⟩
def lw_privs_3 : List (MethodName × Nat) := [(⟨"PegDiscs$Board", "behind", "(II)I"⟩, 6), (⟨"PegDiscs$Board", "hasDisc", "(I)Z"⟩, 6), (⟨"PegDiscs$Board", "pegOf", "(I)I"⟩, 6), (⟨"PegDiscs$Board", "isNone", "()Z"⟩, 6), (⟨"PegDiscs$Acts", "takeBack", "(LPegDiscs$Board;)Z"⟩, 3), (⟨"PegDiscs$Board", "arrangedBy", "(LPegDiscs$Row;I)I"⟩, 6), (⟨"PegDiscs$Row", "itemAt", "(I)I"⟩, 3), (⟨"PegDiscs", "searched", "()LPegDiscs$Search;"⟩, 12), (⟨"PegDiscs$Board", "hasFutureOf", "(LPegDiscs$Board;)Z"⟩, 6), (⟨"PegDiscs$Board", "hasLawOf", "(LPegDiscs$Board;)Z"⟩, 6), (⟨"PegDiscs$Search", "begin", "(LPegDiscs$Board;)V"⟩, 11), (⟨"PegDiscs", "netNow", "()LPegDiscs$Net;"⟩, 12), (⟨"PegDiscs$Net", "lookAt", "(LPegDiscs$Board;)V"⟩, 3), (⟨"PegDiscs$Board", "hasFrail", "()Z"⟩, 6), (⟨"PegDiscs$Search", "spread", "(LPegDiscs$Net;)V"⟩, 11), (⟨"PegDiscs$Net", "start", "()I"⟩, 3)]
theorem lw_r3 : ∀ q ∈ lw_privs_3, lw_okq q := List.forall_mem_cons.mpr ⟨lw_p32, List.forall_mem_cons.mpr ⟨lw_p33, List.forall_mem_cons.mpr ⟨lw_p34, List.forall_mem_cons.mpr ⟨lw_p35, List.forall_mem_cons.mpr ⟨lw_p36, List.forall_mem_cons.mpr ⟨lw_p37, List.forall_mem_cons.mpr ⟨lw_p38, List.forall_mem_cons.mpr ⟨lw_p39, List.forall_mem_cons.mpr ⟨lw_p40, List.forall_mem_cons.mpr ⟨lw_p41, List.forall_mem_cons.mpr ⟨lw_p42, List.forall_mem_cons.mpr ⟨lw_p43, List.forall_mem_cons.mpr ⟨lw_p44, List.forall_mem_cons.mpr ⟨lw_p45, List.forall_mem_cons.mpr ⟨lw_p46, List.forall_mem_cons.mpr ⟨lw_p47, fun _ h => absurd h List.not_mem_nil⟩⟩⟩⟩⟩⟩⟩⟩⟩⟩⟩⟩⟩⟩⟩⟩
theorem lw_p48 : lw_okq (⟨"PegDiscs$Net", "movesAt", "(I)I"⟩, 3) := ⟨⟨by decide +kernel, by decide +kernel⟩, List.mem_of_getElem? (i := 508) (by decide +kernel), List.mem_of_getElem? (i := 547) (by decide +kernel), List.mem_of_getElem? (i := 548) (by decide +kernel)⟩
theorem lw_p49 : lw_okq (⟨"PegDiscs$Search", "noteArrangement", "(II)V"⟩, 11) := ⟨⟨by decide +kernel, by decide +kernel⟩, List.mem_of_getElem? (i := 441) (by decide +kernel), List.mem_of_getElem? (i := 552) (by decide +kernel), List.mem_of_getElem? (i := 553) (by decide +kernel)⟩
theorem lw_p50 : lw_okq (⟨"PegDiscs$Net", "stateBehind", "(II)I"⟩, 3) := ⟨⟨by decide +kernel, by decide +kernel⟩, List.mem_of_getElem? (i := 508) (by decide +kernel), List.mem_of_getElem? (i := 556) (by decide +kernel), List.mem_of_getElem? (i := 557) (by decide +kernel)⟩
theorem lw_p51 : lw_okq (⟨"PegDiscs$Search", "comeTo", "(III)V"⟩, 11) := ⟨⟨by decide +kernel, by decide +kernel⟩, List.mem_of_getElem? (i := 441) (by decide +kernel), List.mem_of_getElem? (i := 561) (by decide +kernel), List.mem_of_getElem? (i := 562) (by decide +kernel)⟩
theorem lw_p52 : lw_okq (⟨"PegDiscs$Search", "fewest", "(II)I"⟩, 11) := ⟨⟨by decide +kernel, by decide +kernel⟩, List.mem_of_getElem? (i := 441) (by decide +kernel), List.mem_of_getElem? (i := 565) (by decide +kernel), List.mem_of_getElem? (i := 566) (by decide +kernel)⟩
theorem lw_p53 : lw_okq (⟨"PegDiscs$Search", "soonestOf", "(I)I"⟩, 11) := ⟨⟨by decide +kernel, by decide +kernel⟩, List.mem_of_getElem? (i := 441) (by decide +kernel), List.mem_of_getElem? (i := 569) (by decide +kernel), List.mem_of_getElem? (i := 570) (by decide +kernel)⟩
theorem lw_p54 : lw_okq (⟨"PegDiscs$Board", "allOn", "(I)I"⟩, 6) := ⟨⟨by decide +kernel, by decide +kernel⟩, List.mem_of_getElem? (i := 51) (by decide +kernel), List.mem_of_getElem? (i := 577) (by decide +kernel), List.mem_of_getElem? (i := 578) (by decide +kernel)⟩
theorem lw_p55 : lw_okq (⟨"PegDiscs$Board", "codeOf", "(I)I"⟩, 6) := ⟨⟨by decide +kernel, by decide +kernel⟩, List.mem_of_getElem? (i := 51) (by decide +kernel), List.mem_of_getElem? (i := 585) (by decide +kernel), List.mem_of_getElem? (i := 586) (by decide +kernel)⟩
theorem lw_p56 : lw_okq (⟨"PegDiscs", "layered", "()LPegDiscs$Layers;"⟩, 12) := ⟨⟨by decide +kernel, by decide +kernel⟩, List.mem_of_getElem? (i := 15) (by decide +kernel), List.mem_of_getElem? (i := 599) (by decide +kernel), List.mem_of_getElem? (i := 600) (by decide +kernel)⟩
theorem lw_p57 : lw_okq (⟨"PegDiscs$Layers", "begin", "()V"⟩, 4) := ⟨⟨by decide +kernel, by decide +kernel⟩, List.mem_of_getElem? (i := 603) (by decide +kernel), List.mem_of_getElem? (i := 623) (by decide +kernel), List.mem_of_getElem? (i := 624) (by decide +kernel)⟩
theorem lw_p58 : lw_okq (⟨"PegDiscs$Layers", "rowsTo", "(II)J"⟩, 4) := ⟨⟨by decide +kernel, by decide +kernel⟩, List.mem_of_getElem? (i := 603) (by decide +kernel), List.mem_of_getElem? (i := 631) (by decide +kernel), List.mem_of_getElem? (i := 632) (by decide +kernel)⟩
theorem lw_p59 : lw_okq (⟨"PegDiscs$Layers", "goOn", "(Z)V"⟩, 4) := ⟨⟨by decide +kernel, by decide +kernel⟩, List.mem_of_getElem? (i := 603) (by decide +kernel), List.mem_of_getElem? (i := 635) (by decide +kernel), List.mem_of_getElem? (i := 636) (by decide +kernel)⟩
theorem lw_p60 : lw_okq (⟨"PegDiscs$Board", "arrangements", "()I"⟩, 6) := ⟨⟨by decide +kernel, by decide +kernel⟩, List.mem_of_getElem? (i := 51) (by decide +kernel), List.mem_of_getElem? (i := 639) (by decide +kernel), List.mem_of_getElem? (i := 640) (by decide +kernel)⟩
theorem lw_p61 : lw_okq (⟨"PegDiscs$Layers", "hand", "(IIJ)V"⟩, 4) := ⟨⟨by decide +kernel, by decide +kernel⟩, List.mem_of_getElem? (i := 603) (by decide +kernel), List.mem_of_getElem? (i := 645) (by decide +kernel), List.mem_of_getElem? (i := 646) (by decide +kernel)⟩
theorem lw_p62 : lw_okq (⟨"PegDiscs$Board", "firstWrong", "(LPegDiscs$Row;II)I"⟩, 6) := ⟨⟨by decide +kernel, by decide +kernel⟩, List.mem_of_getElem? (i := 51) (by decide +kernel), List.mem_of_getElem? (i := 654) (by decide +kernel), List.mem_of_getElem? (i := 655) (by decide +kernel)⟩
theorem lw_p63 : lw_okq (⟨"PegDiscs$Board", "numberOf", "(I)I"⟩, 6) := ⟨⟨by decide +kernel, by decide +kernel⟩, List.mem_of_getElem? (i := 51) (by decide +kernel), List.mem_of_getElem? (i := 658) (by decide +kernel), List.mem_of_getElem? (i := 659) (by decide +kernel)⟩
def lw_privs_4 : List (MethodName × Nat) := [(⟨"PegDiscs$Net", "movesAt", "(I)I"⟩, 3), (⟨"PegDiscs$Search", "noteArrangement", "(II)V"⟩, 11), (⟨"PegDiscs$Net", "stateBehind", "(II)I"⟩, 3), (⟨"PegDiscs$Search", "comeTo", "(III)V"⟩, 11), (⟨"PegDiscs$Search", "fewest", "(II)I"⟩, 11), (⟨"PegDiscs$Search", "soonestOf", "(I)I"⟩, 11), (⟨"PegDiscs$Board", "allOn", "(I)I"⟩, 6), (⟨"PegDiscs$Board", "codeOf", "(I)I"⟩, 6), (⟨"PegDiscs", "layered", "()LPegDiscs$Layers;"⟩, 12), (⟨"PegDiscs$Layers", "begin", "()V"⟩, 4), (⟨"PegDiscs$Layers", "rowsTo", "(II)J"⟩, 4), (⟨"PegDiscs$Layers", "goOn", "(Z)V"⟩, 4), (⟨"PegDiscs$Board", "arrangements", "()I"⟩, 6), (⟨"PegDiscs$Layers", "hand", "(IIJ)V"⟩, 4), (⟨"PegDiscs$Board", "firstWrong", "(LPegDiscs$Row;II)I"⟩, 6), (⟨"PegDiscs$Board", "numberOf", "(I)I"⟩, 6)]
theorem lw_r4 : ∀ q ∈ lw_privs_4, lw_okq q := List.forall_mem_cons.mpr ⟨lw_p48, List.forall_mem_cons.mpr ⟨lw_p49, List.forall_mem_cons.mpr ⟨lw_p50, List.forall_mem_cons.mpr ⟨lw_p51, List.forall_mem_cons.mpr ⟨lw_p52, List.forall_mem_cons.mpr ⟨lw_p53, List.forall_mem_cons.mpr ⟨lw_p54, List.forall_mem_cons.mpr ⟨lw_p55, List.forall_mem_cons.mpr ⟨lw_p56, List.forall_mem_cons.mpr ⟨lw_p57, List.forall_mem_cons.mpr ⟨lw_p58, List.forall_mem_cons.mpr ⟨lw_p59, List.forall_mem_cons.mpr ⟨lw_p60, List.forall_mem_cons.mpr ⟨lw_p61, List.forall_mem_cons.mpr ⟨lw_p62, List.forall_mem_cons.mpr ⟨lw_p63, fun _ h => absurd h List.not_mem_nil⟩⟩⟩⟩⟩⟩⟩⟩⟩⟩⟩⟩⟩⟩⟩⟩
theorem lw_p64 : lw_okq (⟨"PegDiscs", "suppose", "(III)Z"⟩, 12) := ⟨⟨by decide +kernel, by decide +kernel⟩, List.mem_of_getElem? (i := 15) (by decide +kernel), List.mem_of_getElem? (i := 669) (by decide +kernel), List.mem_of_getElem? (i := 670) (by decide +kernel)⟩
theorem lw_p65 : lw_okq (⟨"PegDiscs$Layers", "partsOn", "(III)J"⟩, 4) := ⟨⟨by decide +kernel, by decide +kernel⟩, List.mem_of_getElem? (i := 603) (by decide +kernel), List.mem_of_getElem? (i := 678) (by decide +kernel), List.mem_of_getElem? (i := 679) (by decide +kernel)⟩
theorem lw_p66 : lw_okq (⟨"PegDiscs$Layers", "weightsOn", "(IIZ)J"⟩, 4) := ⟨⟨by decide +kernel, by decide +kernel⟩, List.mem_of_getElem? (i := 603) (by decide +kernel), List.mem_of_getElem? (i := 683) (by decide +kernel), List.mem_of_getElem? (i := 684) (by decide +kernel)⟩
theorem lw_p67 : lw_okq (⟨"PegDiscs$Layers", "partsOfAll", "(I)J"⟩, 4) := ⟨⟨by decide +kernel, by decide +kernel⟩, List.mem_of_getElem? (i := 603) (by decide +kernel), List.mem_of_getElem? (i := 687) (by decide +kernel), List.mem_of_getElem? (i := 688) (by decide +kernel)⟩
theorem lw_p68 : lw_okq (⟨"PegDiscs$Board", "spendEvening", "(II)I"⟩, 6) := ⟨⟨by decide +kernel, by decide +kernel⟩, List.mem_of_getElem? (i := 51) (by decide +kernel), List.mem_of_getElem? (i := 699) (by decide +kernel), List.mem_of_getElem? (i := 700) (by decide +kernel)⟩
theorem lw_p69 : lw_okq (⟨"PegDiscs$Asker", "answer", "(LPegDiscs$Board;II)I"⟩, 6) := ⟨⟨by decide +kernel, by decide +kernel⟩, List.mem_of_getElem? (i := 107) (by decide +kernel), List.mem_of_getElem? (i := 732) (by decide +kernel), List.mem_of_getElem? (i := 733) (by decide +kernel)⟩
theorem lw_p70 : lw_okq (⟨"PegDiscs$Asker", "give", "(II)I"⟩, 6) := ⟨⟨by decide +kernel, by decide +kernel⟩, List.mem_of_getElem? (i := 107) (by decide +kernel), List.mem_of_getElem? (i := 744) (by decide +kernel), List.mem_of_getElem? (i := 745) (by decide +kernel)⟩
theorem lw_p71 : lw_okq (⟨"PegDiscs$Asker", "leaveNumber", "(I)V"⟩, 6) := ⟨⟨by decide +kernel, by decide +kernel⟩, List.mem_of_getElem? (i := 107) (by decide +kernel), List.mem_of_getElem? (i := 748) (by decide +kernel), List.mem_of_getElem? (i := 749) (by decide +kernel)⟩
theorem lw_p72 : lw_okq (⟨"PegDiscs$Asker", "tracedAt", "(I)I"⟩, 6) := ⟨⟨by decide +kernel, by decide +kernel⟩, List.mem_of_getElem? (i := 107) (by decide +kernel), List.mem_of_getElem? (i := 756) (by decide +kernel), List.mem_of_getElem? (i := 757) (by decide +kernel)⟩
theorem lw_p73 : lw_okq (⟨"PegDiscs", "rowsThere", "()I"⟩, 12) := ⟨⟨by decide +kernel, by decide +kernel⟩, List.mem_of_getElem? (i := 15) (by decide +kernel), List.mem_of_getElem? (i := 765) (by decide +kernel), List.mem_of_getElem? (i := 766) (by decide +kernel)⟩
theorem lw_p74 : lw_okq (⟨"PegDiscsModel", "finds", "(I)I"⟩, 24) := ⟨⟨by decide +kernel, by decide +kernel⟩, List.mem_of_getElem? (i := 773) (by decide +kernel), List.mem_of_getElem? (i := 867) (by decide +kernel), List.mem_of_getElem? (i := 868) (by decide +kernel)⟩
theorem lw_p75 : lw_okq (⟨"PegDiscsModel", "good", "(I)I"⟩, 24) := ⟨⟨by decide +kernel, by decide +kernel⟩, List.mem_of_getElem? (i := 773) (by decide +kernel), List.mem_of_getElem? (i := 872) (by decide +kernel), List.mem_of_getElem? (i := 873) (by decide +kernel)⟩
theorem lw_p76 : lw_okq (⟨"PegDiscsModel", "isWithin", "(III)Z"⟩, 24) := ⟨⟨by decide +kernel, by decide +kernel⟩, List.mem_of_getElem? (i := 773) (by decide +kernel), List.mem_of_getElem? (i := 887) (by decide +kernel), List.mem_of_getElem? (i := 888) (by decide +kernel)⟩
theorem lw_p77 : lw_okq (⟨"PegDiscsModel", "sign", "(I)V"⟩, 24) := ⟨⟨by decide +kernel, by decide +kernel⟩, List.mem_of_getElem? (i := 773) (by decide +kernel), List.mem_of_getElem? (i := 905) (by decide +kernel), List.mem_of_getElem? (i := 906) (by decide +kernel)⟩
theorem lw_p78 : lw_okq (⟨"PegDiscsModel", "byteAt", "(I)I"⟩, 24) := ⟨⟨by decide +kernel, by decide +kernel⟩, List.mem_of_getElem? (i := 773) (by decide +kernel), List.mem_of_getElem? (i := 909) (by decide +kernel), List.mem_of_getElem? (i := 910) (by decide +kernel)⟩
theorem lw_p79 : lw_okq (⟨"PegDiscsModel", "fails", "(II)V"⟩, 24) := ⟨⟨by decide +kernel, by decide +kernel⟩, List.mem_of_getElem? (i := 773) (by decide +kernel), List.mem_of_getElem? (i := 913) (by decide +kernel), List.mem_of_getElem? (i := 914) (by decide +kernel)⟩
def lw_privs_5 : List (MethodName × Nat) := [(⟨"PegDiscs", "suppose", "(III)Z"⟩, 12), (⟨"PegDiscs$Layers", "partsOn", "(III)J"⟩, 4), (⟨"PegDiscs$Layers", "weightsOn", "(IIZ)J"⟩, 4), (⟨"PegDiscs$Layers", "partsOfAll", "(I)J"⟩, 4), (⟨"PegDiscs$Board", "spendEvening", "(II)I"⟩, 6), (⟨"PegDiscs$Asker", "answer", "(LPegDiscs$Board;II)I"⟩, 6), (⟨"PegDiscs$Asker", "give", "(II)I"⟩, 6), (⟨"PegDiscs$Asker", "leaveNumber", "(I)V"⟩, 6), (⟨"PegDiscs$Asker", "tracedAt", "(I)I"⟩, 6), (⟨"PegDiscs", "rowsThere", "()I"⟩, 12), (⟨"PegDiscsModel", "finds", "(I)I"⟩, 24), (⟨"PegDiscsModel", "good", "(I)I"⟩, 24), (⟨"PegDiscsModel", "isWithin", "(III)Z"⟩, 24), (⟨"PegDiscsModel", "sign", "(I)V"⟩, 24), (⟨"PegDiscsModel", "byteAt", "(I)I"⟩, 24), (⟨"PegDiscsModel", "fails", "(II)V"⟩, 24)]
theorem lw_r5 : ∀ q ∈ lw_privs_5, lw_okq q := List.forall_mem_cons.mpr ⟨lw_p64, List.forall_mem_cons.mpr ⟨lw_p65, List.forall_mem_cons.mpr ⟨lw_p66, List.forall_mem_cons.mpr ⟨lw_p67, List.forall_mem_cons.mpr ⟨lw_p68, List.forall_mem_cons.mpr ⟨lw_p69, List.forall_mem_cons.mpr ⟨lw_p70, List.forall_mem_cons.mpr ⟨lw_p71, List.forall_mem_cons.mpr ⟨lw_p72, List.forall_mem_cons.mpr ⟨lw_p73, List.forall_mem_cons.mpr ⟨lw_p74, List.forall_mem_cons.mpr ⟨lw_p75, List.forall_mem_cons.mpr ⟨lw_p76, List.forall_mem_cons.mpr ⟨lw_p77, List.forall_mem_cons.mpr ⟨lw_p78, List.forall_mem_cons.mpr ⟨lw_p79, fun _ h => absurd h List.not_mem_nil⟩⟩⟩⟩⟩⟩⟩⟩⟩⟩⟩⟩⟩⟩⟩⟩
theorem lw_p80 : lw_okq (⟨"PegDiscsModel", "number", "(III)I"⟩, 24) := ⟨⟨by decide +kernel, by decide +kernel⟩, List.mem_of_getElem? (i := 773) (by decide +kernel), List.mem_of_getElem? (i := 917) (by decide +kernel), List.mem_of_getElem? (i := 918) (by decide +kernel)⟩
theorem lw_p81 : lw_okq (⟨"PegDiscsModel", "discItem", "(I)V"⟩, 24) := ⟨⟨by decide +kernel, by decide +kernel⟩, List.mem_of_getElem? (i := 773) (by decide +kernel), List.mem_of_getElem? (i := 923) (by decide +kernel), List.mem_of_getElem? (i := 924) (by decide +kernel)⟩
theorem lw_p82 : lw_okq (⟨"PegDiscsModel", "copies", "(II)V"⟩, 24) := ⟨⟨by decide +kernel, by decide +kernel⟩, List.mem_of_getElem? (i := 773) (by decide +kernel), List.mem_of_getElem? (i := 934) (by decide +kernel), List.mem_of_getElem? (i := 935) (by decide +kernel)⟩
theorem lw_p83 : lw_okq (⟨"PegDiscsModel", "isPeg", "(I)Z"⟩, 24) := ⟨⟨by decide +kernel, by decide +kernel⟩, List.mem_of_getElem? (i := 773) (by decide +kernel), List.mem_of_getElem? (i := 946) (by decide +kernel), List.mem_of_getElem? (i := 947) (by decide +kernel)⟩
theorem lw_p84 : lw_okq (⟨"PegDiscsModel", "asTold", "()V"⟩, 24) := ⟨⟨by decide +kernel, by decide +kernel⟩, List.mem_of_getElem? (i := 773) (by decide +kernel), List.mem_of_getElem? (i := 950) (by decide +kernel), List.mem_of_getElem? (i := 951) (by decide +kernel)⟩
theorem lw_p85 : lw_okq (⟨"PegDiscsModel", "state", "()I"⟩, 24) := ⟨⟨by decide +kernel, by decide +kernel⟩, List.mem_of_getElem? (i := 773) (by decide +kernel), List.mem_of_getElem? (i := 954) (by decide +kernel), List.mem_of_getElem? (i := 955) (by decide +kernel)⟩
theorem lw_p86 : lw_okq (⟨"PegDiscsModel", "mover", "(III)I"⟩, 24) := ⟨⟨by decide +kernel, by decide +kernel⟩, List.mem_of_getElem? (i := 773) (by decide +kernel), List.mem_of_getElem? (i := 958) (by decide +kernel), List.mem_of_getElem? (i := 959) (by decide +kernel)⟩
theorem lw_p87 : lw_okq (⟨"PegDiscsModel", "lying", "(II)I"⟩, 24) := ⟨⟨by decide +kernel, by decide +kernel⟩, List.mem_of_getElem? (i := 773) (by decide +kernel), List.mem_of_getElem? (i := 962) (by decide +kernel), List.mem_of_getElem? (i := 963) (by decide +kernel)⟩
theorem lw_p88 : lw_okq (⟨"PegDiscsModel", "kindTold", "(I)I"⟩, 24) := ⟨⟨by decide +kernel, by decide +kernel⟩, List.mem_of_getElem? (i := 773) (by decide +kernel), List.mem_of_getElem? (i := 975) (by decide +kernel), List.mem_of_getElem? (i := 976) (by decide +kernel)⟩
theorem lw_p89 : lw_okq (⟨"PegDiscsModel", "known", "()V"⟩, 24) := ⟨⟨by decide +kernel, by decide +kernel⟩, List.mem_of_getElem? (i := 773) (by decide +kernel), List.mem_of_getElem? (i := 983) (by decide +kernel), List.mem_of_getElem? (i := 984) (by decide +kernel)⟩
theorem lw_p90 : lw_okq (⟨"PegDiscsModel", "isDisc", "(I)Z"⟩, 24) := ⟨⟨by decide +kernel, by decide +kernel⟩, List.mem_of_getElem? (i := 773) (by decide +kernel), List.mem_of_getElem? (i := 991) (by decide +kernel), List.mem_of_getElem? (i := 992) (by decide +kernel)⟩
theorem lw_p91 : lw_okq (⟨"PegDiscsModel", "isBoard", "()Z"⟩, 24) := ⟨⟨by decide +kernel, by decide +kernel⟩, List.mem_of_getElem? (i := 773) (by decide +kernel), List.mem_of_getElem? (i := 999) (by decide +kernel), List.mem_of_getElem? (i := 1000) (by decide +kernel)⟩
theorem lw_p92 : lw_okq (⟨"PegDiscsModel", "movesOf", "(I)I"⟩, 24) := ⟨⟨by decide +kernel, by decide +kernel⟩, List.mem_of_getElem? (i := 773) (by decide +kernel), List.mem_of_getElem? (i := 1021) (by decide +kernel), List.mem_of_getElem? (i := 1022) (by decide +kernel)⟩
theorem lw_p93 : lw_okq (⟨"PegDiscsModel", "wrongOf", "(III)I"⟩, 24) := ⟨⟨by decide +kernel, by decide +kernel⟩, List.mem_of_getElem? (i := 773) (by decide +kernel), List.mem_of_getElem? (i := 1029) (by decide +kernel), List.mem_of_getElem? (i := 1030) (by decide +kernel)⟩
theorem lw_p94 : lw_okq (⟨"PegDiscsModel", "told", "(II)I"⟩, 24) := ⟨⟨by decide +kernel, by decide +kernel⟩, List.mem_of_getElem? (i := 773) (by decide +kernel), List.mem_of_getElem? (i := 1033) (by decide +kernel), List.mem_of_getElem? (i := 1034) (by decide +kernel)⟩
theorem lw_p95 : lw_okq (⟨"PegDiscsModel", "leastTo", "(II)I"⟩, 24) := ⟨⟨by decide +kernel, by decide +kernel⟩, List.mem_of_getElem? (i := 773) (by decide +kernel), List.mem_of_getElem? (i := 1037) (by decide +kernel), List.mem_of_getElem? (i := 1038) (by decide +kernel)⟩
def lw_privs_6 : List (MethodName × Nat) := [(⟨"PegDiscsModel", "number", "(III)I"⟩, 24), (⟨"PegDiscsModel", "discItem", "(I)V"⟩, 24), (⟨"PegDiscsModel", "copies", "(II)V"⟩, 24), (⟨"PegDiscsModel", "isPeg", "(I)Z"⟩, 24), (⟨"PegDiscsModel", "asTold", "()V"⟩, 24), (⟨"PegDiscsModel", "state", "()I"⟩, 24), (⟨"PegDiscsModel", "mover", "(III)I"⟩, 24), (⟨"PegDiscsModel", "lying", "(II)I"⟩, 24), (⟨"PegDiscsModel", "kindTold", "(I)I"⟩, 24), (⟨"PegDiscsModel", "known", "()V"⟩, 24), (⟨"PegDiscsModel", "isDisc", "(I)Z"⟩, 24), (⟨"PegDiscsModel", "isBoard", "()Z"⟩, 24), (⟨"PegDiscsModel", "movesOf", "(I)I"⟩, 24), (⟨"PegDiscsModel", "wrongOf", "(III)I"⟩, 24), (⟨"PegDiscsModel", "told", "(II)I"⟩, 24), (⟨"PegDiscsModel", "leastTo", "(II)I"⟩, 24)]
theorem lw_r6 : ∀ q ∈ lw_privs_6, lw_okq q := List.forall_mem_cons.mpr ⟨lw_p80, List.forall_mem_cons.mpr ⟨lw_p81, List.forall_mem_cons.mpr ⟨lw_p82, List.forall_mem_cons.mpr ⟨lw_p83, List.forall_mem_cons.mpr ⟨lw_p84, List.forall_mem_cons.mpr ⟨lw_p85, List.forall_mem_cons.mpr ⟨lw_p86, List.forall_mem_cons.mpr ⟨lw_p87, List.forall_mem_cons.mpr ⟨lw_p88, List.forall_mem_cons.mpr ⟨lw_p89, List.forall_mem_cons.mpr ⟨lw_p90, List.forall_mem_cons.mpr ⟨lw_p91, List.forall_mem_cons.mpr ⟨lw_p92, List.forall_mem_cons.mpr ⟨lw_p93, List.forall_mem_cons.mpr ⟨lw_p94, List.forall_mem_cons.mpr ⟨lw_p95, fun _ h => absurd h List.not_mem_nil⟩⟩⟩⟩⟩⟩⟩⟩⟩⟩⟩⟩⟩⟩⟩⟩
theorem lw_p96 : lw_okq (⟨"PegDiscsModel", "spreads", "()V"⟩, 24) := ⟨⟨by decide +kernel, by decide +kernel⟩, List.mem_of_getElem? (i := 773) (by decide +kernel), List.mem_of_getElem? (i := 1041) (by decide +kernel), List.mem_of_getElem? (i := 1042) (by decide +kernel)⟩
theorem lw_p97 : lw_okq (⟨"PegDiscsModel", "behind", "(II)I"⟩, 24) := ⟨⟨by decide +kernel, by decide +kernel⟩, List.mem_of_getElem? (i := 773) (by decide +kernel), List.mem_of_getElem? (i := 1045) (by decide +kernel), List.mem_of_getElem? (i := 1046) (by decide +kernel)⟩
theorem lw_p98 : lw_okq (⟨"PegDiscsModel", "farTo", "(I)I"⟩, 24) := ⟨⟨by decide +kernel, by decide +kernel⟩, List.mem_of_getElem? (i := 773) (by decide +kernel), List.mem_of_getElem? (i := 1052) (by decide +kernel), List.mem_of_getElem? (i := 1053) (by decide +kernel)⟩
theorem lw_p99 : lw_okq (⟨"PegDiscsModel", "kth", "(III)I"⟩, 24) := ⟨⟨by decide +kernel, by decide +kernel⟩, List.mem_of_getElem? (i := 773) (by decide +kernel), List.mem_of_getElem? (i := 1056) (by decide +kernel), List.mem_of_getElem? (i := 1057) (by decide +kernel)⟩
theorem lw_p100 : lw_okq (⟨"PegDiscsModel", "codeOf", "(I)I"⟩, 24) := ⟨⟨by decide +kernel, by decide +kernel⟩, List.mem_of_getElem? (i := 773) (by decide +kernel), List.mem_of_getElem? (i := 1069) (by decide +kernel), List.mem_of_getElem? (i := 1070) (by decide +kernel)⟩
theorem lw_p101 : lw_okq (⟨"PegDiscsModel", "beginsWays", "()V"⟩, 24) := ⟨⟨by decide +kernel, by decide +kernel⟩, List.mem_of_getElem? (i := 773) (by decide +kernel), List.mem_of_getElem? (i := 1087) (by decide +kernel), List.mem_of_getElem? (i := 1088) (by decide +kernel)⟩
theorem lw_p102 : lw_okq (⟨"PegDiscsModel", "stepWays", "(Z)V"⟩, 24) := ⟨⟨by decide +kernel, by decide +kernel⟩, List.mem_of_getElem? (i := 773) (by decide +kernel), List.mem_of_getElem? (i := 1091) (by decide +kernel), List.mem_of_getElem? (i := 1092) (by decide +kernel)⟩
theorem lw_p103 : lw_okq (⟨"PegDiscsModel", "judged", "(IIII)I"⟩, 24) := ⟨⟨by decide +kernel, by decide +kernel⟩, List.mem_of_getElem? (i := 773) (by decide +kernel), List.mem_of_getElem? (i := 1101) (by decide +kernel), List.mem_of_getElem? (i := 1102) (by decide +kernel)⟩
theorem lw_p104 : lw_okq (⟨"PegDiscsModel", "plainMark", "(I)I"⟩, 24) := ⟨⟨by decide +kernel, by decide +kernel⟩, List.mem_of_getElem? (i := 773) (by decide +kernel), List.mem_of_getElem? (i := 1144) (by decide +kernel), List.mem_of_getElem? (i := 1145) (by decide +kernel)⟩
theorem lw_p105 : lw_okq (⟨"PegDiscsModel", "body24", "(I)I"⟩, 24) := ⟨⟨by decide +kernel, by decide +kernel⟩, List.mem_of_getElem? (i := 773) (by decide +kernel), List.mem_of_getElem? (i := 1148) (by decide +kernel), List.mem_of_getElem? (i := 1149) (by decide +kernel)⟩
theorem lw_p106 : lw_okq (⟨"PegDiscsModel", "leaves", "(I)V"⟩, 24) := ⟨⟨by decide +kernel, by decide +kernel⟩, List.mem_of_getElem? (i := 773) (by decide +kernel), List.mem_of_getElem? (i := 1152) (by decide +kernel), List.mem_of_getElem? (i := 1153) (by decide +kernel)⟩
theorem lw_p107 : lw_okq (⟨"PegDiscsModel", "body21", "(I)I"⟩, 24) := ⟨⟨by decide +kernel, by decide +kernel⟩, List.mem_of_getElem? (i := 773) (by decide +kernel), List.mem_of_getElem? (i := 1156) (by decide +kernel), List.mem_of_getElem? (i := 1157) (by decide +kernel)⟩
theorem lw_p108 : lw_okq (⟨"PegDiscsModel", "body20", "(I)I"⟩, 24) := ⟨⟨by decide +kernel, by decide +kernel⟩, List.mem_of_getElem? (i := 773) (by decide +kernel), List.mem_of_getElem? (i := 1160) (by decide +kernel), List.mem_of_getElem? (i := 1161) (by decide +kernel)⟩
theorem lw_p109 : lw_okq (⟨"PegDiscsModel", "many", "(I)I"⟩, 24) := ⟨⟨by decide +kernel, by decide +kernel⟩, List.mem_of_getElem? (i := 773) (by decide +kernel), List.mem_of_getElem? (i := 1164) (by decide +kernel), List.mem_of_getElem? (i := 1165) (by decide +kernel)⟩
theorem lw_p110 : lw_okq (⟨"PegDiscsModel", "body22", "(I)I"⟩, 24) := ⟨⟨by decide +kernel, by decide +kernel⟩, List.mem_of_getElem? (i := 773) (by decide +kernel), List.mem_of_getElem? (i := 1168) (by decide +kernel), List.mem_of_getElem? (i := 1169) (by decide +kernel)⟩
theorem lw_p111 : lw_okq (⟨"PegDiscsModel", "body23", "(I)I"⟩, 24) := ⟨⟨by decide +kernel, by decide +kernel⟩, List.mem_of_getElem? (i := 773) (by decide +kernel), List.mem_of_getElem? (i := 1172) (by decide +kernel), List.mem_of_getElem? (i := 1173) (by decide +kernel)⟩
def lw_privs_7 : List (MethodName × Nat) := [(⟨"PegDiscsModel", "spreads", "()V"⟩, 24), (⟨"PegDiscsModel", "behind", "(II)I"⟩, 24), (⟨"PegDiscsModel", "farTo", "(I)I"⟩, 24), (⟨"PegDiscsModel", "kth", "(III)I"⟩, 24), (⟨"PegDiscsModel", "codeOf", "(I)I"⟩, 24), (⟨"PegDiscsModel", "beginsWays", "()V"⟩, 24), (⟨"PegDiscsModel", "stepWays", "(Z)V"⟩, 24), (⟨"PegDiscsModel", "judged", "(IIII)I"⟩, 24), (⟨"PegDiscsModel", "plainMark", "(I)I"⟩, 24), (⟨"PegDiscsModel", "body24", "(I)I"⟩, 24), (⟨"PegDiscsModel", "leaves", "(I)V"⟩, 24), (⟨"PegDiscsModel", "body21", "(I)I"⟩, 24), (⟨"PegDiscsModel", "body20", "(I)I"⟩, 24), (⟨"PegDiscsModel", "many", "(I)I"⟩, 24), (⟨"PegDiscsModel", "body22", "(I)I"⟩, 24), (⟨"PegDiscsModel", "body23", "(I)I"⟩, 24)]
theorem lw_r7 : ∀ q ∈ lw_privs_7, lw_okq q := List.forall_mem_cons.mpr ⟨lw_p96, List.forall_mem_cons.mpr ⟨lw_p97, List.forall_mem_cons.mpr ⟨lw_p98, List.forall_mem_cons.mpr ⟨lw_p99, List.forall_mem_cons.mpr ⟨lw_p100, List.forall_mem_cons.mpr ⟨lw_p101, List.forall_mem_cons.mpr ⟨lw_p102, List.forall_mem_cons.mpr ⟨lw_p103, List.forall_mem_cons.mpr ⟨lw_p104, List.forall_mem_cons.mpr ⟨lw_p105, List.forall_mem_cons.mpr ⟨lw_p106, List.forall_mem_cons.mpr ⟨lw_p107, List.forall_mem_cons.mpr ⟨lw_p108, List.forall_mem_cons.mpr ⟨lw_p109, List.forall_mem_cons.mpr ⟨lw_p110, List.forall_mem_cons.mpr ⟨lw_p111, fun _ h => absurd h List.not_mem_nil⟩⟩⟩⟩⟩⟩⟩⟩⟩⟩⟩⟩⟩⟩⟩⟩
theorem lw_p112 : lw_okq (⟨"PegDiscsModel", "glassSize", "(I)I"⟩, 24) := ⟨⟨by decide +kernel, by decide +kernel⟩, List.mem_of_getElem? (i := 773) (by decide +kernel), List.mem_of_getElem? (i := 1176) (by decide +kernel), List.mem_of_getElem? (i := 1177) (by decide +kernel)⟩
theorem lw_p113 : lw_okq (⟨"PegDiscsModel", "body14", "(I)I"⟩, 24) := ⟨⟨by decide +kernel, by decide +kernel⟩, List.mem_of_getElem? (i := 773) (by decide +kernel), List.mem_of_getElem? (i := 1180) (by decide +kernel), List.mem_of_getElem? (i := 1181) (by decide +kernel)⟩
theorem lw_p114 : lw_okq (⟨"PegDiscsModel", "body13", "(I)I"⟩, 24) := ⟨⟨by decide +kernel, by decide +kernel⟩, List.mem_of_getElem? (i := 773) (by decide +kernel), List.mem_of_getElem? (i := 1184) (by decide +kernel), List.mem_of_getElem? (i := 1185) (by decide +kernel)⟩
theorem lw_p115 : lw_okq (⟨"PegDiscsModel", "body10", "(I)I"⟩, 24) := ⟨⟨by decide +kernel, by decide +kernel⟩, List.mem_of_getElem? (i := 773) (by decide +kernel), List.mem_of_getElem? (i := 1188) (by decide +kernel), List.mem_of_getElem? (i := 1189) (by decide +kernel)⟩
theorem lw_p116 : lw_okq (⟨"PegDiscsModel", "body12", "(I)I"⟩, 24) := ⟨⟨by decide +kernel, by decide +kernel⟩, List.mem_of_getElem? (i := 773) (by decide +kernel), List.mem_of_getElem? (i := 1192) (by decide +kernel), List.mem_of_getElem? (i := 1193) (by decide +kernel)⟩
theorem lw_p117 : lw_okq (⟨"PegDiscsModel", "body11", "(I)I"⟩, 24) := ⟨⟨by decide +kernel, by decide +kernel⟩, List.mem_of_getElem? (i := 773) (by decide +kernel), List.mem_of_getElem? (i := 1196) (by decide +kernel), List.mem_of_getElem? (i := 1197) (by decide +kernel)⟩
def lw_privs_8 : List (MethodName × Nat) := [(⟨"PegDiscsModel", "glassSize", "(I)I"⟩, 24), (⟨"PegDiscsModel", "body14", "(I)I"⟩, 24), (⟨"PegDiscsModel", "body13", "(I)I"⟩, 24), (⟨"PegDiscsModel", "body10", "(I)I"⟩, 24), (⟨"PegDiscsModel", "body12", "(I)I"⟩, 24), (⟨"PegDiscsModel", "body11", "(I)I"⟩, 24)]
theorem lw_r8 : ∀ q ∈ lw_privs_8, lw_okq q := List.forall_mem_cons.mpr ⟨lw_p112, List.forall_mem_cons.mpr ⟨lw_p113, List.forall_mem_cons.mpr ⟨lw_p114, List.forall_mem_cons.mpr ⟨lw_p115, List.forall_mem_cons.mpr ⟨lw_p116, List.forall_mem_cons.mpr ⟨lw_p117, fun _ h => absurd h List.not_mem_nil⟩⟩⟩⟩⟩⟩
def lw_privs : List (MethodName × Nat) := lw_privs_1 ++ (lw_privs_2 ++ (lw_privs_3 ++ (lw_privs_4 ++ (lw_privs_5 ++ (lw_privs_6 ++ (lw_privs_7 ++ (lw_privs_8)))))))
def lw_tbl : List Cond := k2_sels lw_privs ++ tables_1
theorem lw_privs_ok : ∀ q ∈ lw_privs, lw_okq q := by
  show ∀ q ∈ lw_privs_1 ++ (lw_privs_2 ++ (lw_privs_3 ++ (lw_privs_4 ++ (lw_privs_5 ++ (lw_privs_6 ++ (lw_privs_7 ++ (lw_privs_8))))))), lw_okq q
  exact List.forall_mem_append.mpr ⟨lw_r1, List.forall_mem_append.mpr ⟨lw_r2, List.forall_mem_append.mpr ⟨lw_r3, List.forall_mem_append.mpr ⟨lw_r4, List.forall_mem_append.mpr ⟨lw_r5, List.forall_mem_append.mpr ⟨lw_r6, List.forall_mem_append.mpr ⟨lw_r7, lw_r8⟩⟩⟩⟩⟩⟩⟩
-- ===== end of PART A; then your names; then what follows =====
end
section
def RX0 : String := "PegDiscs$Acts"
def TX0 : u_T := fun k => match k with
  | 0 => ("PegDiscs$Acts", "before", "[LPegDiscs$Board;", true)
  | 1 => ("PegDiscs$Acts", "next", "I", false)
  | _ => ("PegDiscs$Acts", "kept", "I", false)
def tyX0 : Nat → FieldType := fun k => match k with
  | 0 => .array (.object "PegDiscs$Board")
  | 1 => .int
  | _ => .int
theorem nmX0 : ∀ a, a < 3 → ∀ b, b < 3 → a ≠ b → (TX0 a).2.1 ≠ (TX0 b).2.1 := by decide +kernel
theorem tyX0_ok : ∀ k, k < 3 → parseFieldDescriptor (TX0 k).2.2.1 = some (tyX0 k) := by decide +kernel
abbrev cX0_init : ByteArray := prog_2_method_1_code
def yX0_init : MethodName := ⟨RX0, "<init>", "()V"⟩
abbrev cX0_keep : ByteArray := prog_2_method_2_code
def yX0_keep : MethodName := ⟨RX0, "keep", "(LPegDiscs$Board;)V"⟩
abbrev cX0_takeBack : ByteArray := prog_2_method_3_code
def yX0_takeBack : MethodName := ⟨RX0, "takeBack", "(LPegDiscs$Board;)Z"⟩
abbrev cX0_forget : ByteArray := prog_2_method_4_code
def yX0_forget : MethodName := ⟨RX0, "forget", "()V"⟩
def RX1 : String := "PegDiscs$Asker"
def TX1 : u_T := fun k => match k with
  | 0 => ("PegDiscs$Asker", "traced", "[I", true)
  | 1 => ("PegDiscs$Asker", "length", "I", false)
  | 2 => ("PegDiscs$Asker", "number", "I", false)
  | 3 => ("PegDiscs$Asker", "sort", "I", false)
  | 4 => ("PegDiscs$Asker", "on", "I", false)
  | _ => ("PegDiscs$Asker", "beside", "I", false)
def tyX1 : Nat → FieldType := fun k => match k with
  | 0 => .array .int
  | 1 => .int
  | 2 => .int
  | 3 => .int
  | 4 => .int
  | _ => .int
theorem nmX1 : ∀ a, a < 6 → ∀ b, b < 6 → a ≠ b → (TX1 a).2.1 ≠ (TX1 b).2.1 := by decide +kernel
theorem tyX1_ok : ∀ k, k < 6 → parseFieldDescriptor (TX1 k).2.2.1 = some (tyX1 k) := by decide +kernel
abbrev cX1_init : ByteArray := prog_3_method_1_code
def yX1_init : MethodName := ⟨RX1, "<init>", "()V"⟩
abbrev cX1_answer : ByteArray := prog_3_method_2_code
def yX1_answer : MethodName := ⟨RX1, "answer", "(LPegDiscs$Board;II)I"⟩
abbrev cX1_tracedAt : ByteArray := prog_3_method_3_code
def yX1_tracedAt : MethodName := ⟨RX1, "tracedAt", "(I)I"⟩
abbrev cX1_give : ByteArray := prog_3_method_4_code
def yX1_give : MethodName := ⟨RX1, "give", "(II)I"⟩
abbrev cX1_leaveNumber : ByteArray := prog_3_method_5_code
def yX1_leaveNumber : MethodName := ⟨RX1, "leaveNumber", "(I)V"⟩
def RX2 : String := "PegDiscs$Board"
def TX2 : u_T := fun k => match k with
  | 0 => ("PegDiscs$Board", "pegs", "I", false)
  | 1 => ("PegDiscs$Board", "discs", "I", false)
  | 2 => ("PegDiscs$Board", "high", "I", false)
  | 3 => ("PegDiscs$Board", "moves", "I", false)
  | 4 => ("PegDiscs$Board", "kinds", "I", false)
  | _ => ("PegDiscs$Board", "arranged", "I", false)
def tyX2 : Nat → FieldType := fun k => match k with
  | 0 => .int
  | 1 => .int
  | 2 => .int
  | 3 => .int
  | 4 => .int
  | _ => .int
theorem nmX2 : ∀ a, a < 6 → ∀ b, b < 6 → a ≠ b → (TX2 a).2.1 ≠ (TX2 b).2.1 := by decide +kernel
theorem tyX2_ok : ∀ k, k < 6 → parseFieldDescriptor (TX2 k).2.2.1 = some (tyX2 k) := by decide +kernel
abbrev cX2_init : ByteArray := prog_4_method_1_code
def yX2_init : MethodName := ⟨RX2, "<init>", "()V"⟩
abbrev cX2_clear : ByteArray := prog_4_method_2_code
def yX2_clear : MethodName := ⟨RX2, "clear", "()V"⟩
abbrev cX2_take : ByteArray := prog_4_method_3_code
def yX2_take : MethodName := ⟨RX2, "take", "(LPegDiscs$Board;)V"⟩
abbrev cX2_isNone : ByteArray := prog_4_method_4_code
def yX2_isNone : MethodName := ⟨RX2, "isNone", "()Z"⟩
abbrev cX2_hasPeg : ByteArray := prog_4_method_5_code
def yX2_hasPeg : MethodName := ⟨RX2, "hasPeg", "(I)Z"⟩
abbrev cX2_hasDisc : ByteArray := prog_4_method_6_code
def yX2_hasDisc : MethodName := ⟨RX2, "hasDisc", "(I)Z"⟩
abbrev cX2_pegOf : ByteArray := prog_4_method_7_code
def yX2_pegOf : MethodName := ⟨RX2, "pegOf", "(I)I"⟩
abbrev cX2_kindOf : ByteArray := prog_4_method_8_code
def yX2_kindOf : MethodName := ⟨RX2, "kindOf", "(I)I"⟩
abbrev cX2_layBy : ByteArray := prog_4_method_9_code
def yX2_layBy : MethodName := ⟨RX2, "layBy", "(II)V"⟩
abbrev cX2_sortAs : ByteArray := prog_4_method_10_code
def yX2_sortAs : MethodName := ⟨RX2, "sortAs", "(II)V"⟩
abbrev cX2_hasLawOf : ByteArray := prog_4_method_11_code
def yX2_hasLawOf : MethodName := ⟨RX2, "hasLawOf", "(LPegDiscs$Board;)Z"⟩
abbrev cX2_hasFutureOf : ByteArray := prog_4_method_12_code
def yX2_hasFutureOf : MethodName := ⟨RX2, "hasFutureOf", "(LPegDiscs$Board;)Z"⟩
abbrev cX2_hasFrail : ByteArray := prog_4_method_13_code
def yX2_hasFrail : MethodName := ⟨RX2, "hasFrail", "()Z"⟩
abbrev cX2_arrangements : ByteArray := prog_4_method_14_code
def yX2_arrangements : MethodName := ⟨RX2, "arrangements", "()I"⟩
abbrev cX2_allOn : ByteArray := prog_4_method_15_code
def yX2_allOn : MethodName := ⟨RX2, "allOn", "(I)I"⟩
abbrev cX2_arrangedBy : ByteArray := prog_4_method_16_code
def yX2_arrangedBy : MethodName := ⟨RX2, "arrangedBy", "(LPegDiscs$Row;I)I"⟩
abbrev cX2_codeOf : ByteArray := prog_4_method_17_code
def yX2_codeOf : MethodName := ⟨RX2, "codeOf", "(I)I"⟩
abbrev cX2_lyingOn : ByteArray := prog_4_method_18_code
def yX2_lyingOn : MethodName := ⟨RX2, "lyingOn", "(I)I"⟩
abbrev cX2_topOf : ByteArray := prog_4_method_19_code
def yX2_topOf : MethodName := ⟨RX2, "topOf", "(I)I"⟩
abbrev cX2_lyingIn : ByteArray := prog_4_method_20_code
def yX2_lyingIn : MethodName := ⟨RX2, "lyingIn", "(I)I"⟩
abbrev cX2_movesNow : ByteArray := prog_4_method_21_code
def yX2_movesNow : MethodName := ⟨RX2, "movesNow", "()I"⟩
abbrev cX2_allows : ByteArray := prog_4_method_22_code
def yX2_allows : MethodName := ⟨RX2, "allows", "(I)Z"⟩
abbrev cX2_movesFrom : ByteArray := prog_4_method_23_code
def yX2_movesFrom : MethodName := ⟨RX2, "movesFrom", "(IZ)I"⟩
abbrev cX2_mayGo : ByteArray := prog_4_method_24_code
def yX2_mayGo : MethodName := ⟨RX2, "mayGo", "(IIIZ)Z"⟩
abbrev cX2_behind : ByteArray := prog_4_method_25_code
def yX2_behind : MethodName := ⟨RX2, "behind", "(II)I"⟩
abbrev cX2_carryOut : ByteArray := prog_4_method_26_code
def yX2_carryOut : MethodName := ⟨RX2, "carryOut", "(I)V"⟩
abbrev cX2_firstWrong : ByteArray := prog_4_method_27_code
def yX2_firstWrong : MethodName := ⟨RX2, "firstWrong", "(LPegDiscs$Row;II)I"⟩
abbrev cX2_numberOf : ByteArray := prog_4_method_28_code
def yX2_numberOf : MethodName := ⟨RX2, "numberOf", "(I)I"⟩
abbrev cX2_spendEvening : ByteArray := prog_4_method_29_code
def yX2_spendEvening : MethodName := ⟨RX2, "spendEvening", "(II)I"⟩
abbrev cX2_pick : ByteArray := prog_4_method_30_code
def yX2_pick : MethodName := ⟨RX2, "pick", "(II)I"⟩
abbrev cX2_leastOf : ByteArray := prog_4_method_31_code
def yX2_leastOf : MethodName := ⟨RX2, "leastOf", "(I)I"⟩
def RX3 : String := "PegDiscs$Layers"
def TX3 : u_T := fun k => match k with
  | 0 => ("PegDiscs$Layers", "weights", "[J", false)
  | 1 => ("PegDiscs$Layers", "coming", "[J", false)
  | 2 => ("PegDiscs$Layers", "net", "LPegDiscs$Net;", true)
  | _ => ("PegDiscs$Layers", "odd", "I", false)
def tyX3 : Nat → FieldType := fun k => match k with
  | 0 => .array .long
  | 1 => .array .long
  | 2 => .object "PegDiscs$Net"
  | _ => .int
theorem nmX3 : ∀ a, a < 4 → ∀ b, b < 4 → a ≠ b → (TX3 a).2.1 ≠ (TX3 b).2.1 := by decide +kernel
theorem tyX3_ok : ∀ k, k < 4 → parseFieldDescriptor (TX3 k).2.2.1 = some (tyX3 k) := by decide +kernel
abbrev cX3_init : ByteArray := prog_5_method_1_code
def yX3_init : MethodName := ⟨RX3, "<init>", "(LPegDiscs$Net;)V"⟩
abbrev cX3_begin : ByteArray := prog_5_method_2_code
def yX3_begin : MethodName := ⟨RX3, "begin", "()V"⟩
abbrev cX3_rowsTo : ByteArray := prog_5_method_3_code
def yX3_rowsTo : MethodName := ⟨RX3, "rowsTo", "(II)J"⟩
abbrev cX3_partsOn : ByteArray := prog_5_method_4_code
def yX3_partsOn : MethodName := ⟨RX3, "partsOn", "(III)J"⟩
abbrev cX3_partsOfAll : ByteArray := prog_5_method_5_code
def yX3_partsOfAll : MethodName := ⟨RX3, "partsOfAll", "(I)J"⟩
abbrev cX3_weightsOn : ByteArray := prog_5_method_6_code
def yX3_weightsOn : MethodName := ⟨RX3, "weightsOn", "(IIZ)J"⟩
abbrev cX3_goOn : ByteArray := prog_5_method_7_code
def yX3_goOn : MethodName := ⟨RX3, "goOn", "(Z)V"⟩
abbrev cX3_hand : ByteArray := prog_5_method_8_code
def yX3_hand : MethodName := ⟨RX3, "hand", "(IIJ)V"⟩
def RX4 : String := "PegDiscs$Net"
def TX4 : u_T := fun k => match k with
  | 0 => ("PegDiscs$Net", "law", "LPegDiscs$Board;", true)
  | 1 => ("PegDiscs$Net", "known", "[I", true)
  | _ => ("PegDiscs$Net", "turning", "I", false)
def tyX4 : Nat → FieldType := fun k => match k with
  | 0 => .object "PegDiscs$Board"
  | 1 => .array .int
  | _ => .int
theorem nmX4 : ∀ a, a < 3 → ∀ b, b < 3 → a ≠ b → (TX4 a).2.1 ≠ (TX4 b).2.1 := by decide +kernel
theorem tyX4_ok : ∀ k, k < 3 → parseFieldDescriptor (TX4 k).2.2.1 = some (tyX4 k) := by decide +kernel
abbrev cX4_init : ByteArray := prog_6_method_1_code
def yX4_init : MethodName := ⟨RX4, "<init>", "()V"⟩
abbrev cX4_lookAt : ByteArray := prog_6_method_2_code
def yX4_lookAt : MethodName := ⟨RX4, "lookAt", "(LPegDiscs$Board;)V"⟩
abbrev cX4_start : ByteArray := prog_6_method_3_code
def yX4_start : MethodName := ⟨RX4, "start", "()I"⟩
abbrev cX4_movesAt : ByteArray := prog_6_method_4_code
def yX4_movesAt : MethodName := ⟨RX4, "movesAt", "(I)I"⟩
abbrev cX4_stateBehind : ByteArray := prog_6_method_5_code
def yX4_stateBehind : MethodName := ⟨RX4, "stateBehind", "(II)I"⟩
def RX5 : String := "PegDiscs$Row"
def TX5 : u_T := fun k => match k with
  | 0 => ("PegDiscs$Row", "lane", "I", false)
  | 1 => ("PegDiscs$Row", "size", "I", false)
  | _ => ("PegDiscs$Row", "items", "[I", true)
def tyX5 : Nat → FieldType := fun k => match k with
  | 0 => .int
  | 1 => .int
  | _ => .array .int
theorem nmX5 : ∀ a, a < 3 → ∀ b, b < 3 → a ≠ b → (TX5 a).2.1 ≠ (TX5 b).2.1 := by decide +kernel
theorem tyX5_ok : ∀ k, k < 3 → parseFieldDescriptor (TX5 k).2.2.1 = some (tyX5 k) := by decide +kernel
abbrev cX5_init : ByteArray := prog_7_method_1_code
def yX5_init : MethodName := ⟨RX5, "<init>", "()V"⟩
abbrev cX5_isMissing : ByteArray := prog_7_method_2_code
def yX5_isMissing : MethodName := ⟨RX5, "isMissing", "()Z"⟩
abbrev cX5_begin : ByteArray := prog_7_method_3_code
def yX5_begin : MethodName := ⟨RX5, "begin", "(II)V"⟩
abbrev cX5_end : ByteArray := prog_7_method_4_code
def yX5_end : MethodName := ⟨RX5, "end", "()I"⟩
abbrev cX5_flaw : ByteArray := prog_7_method_5_code
def yX5_flaw : MethodName := ⟨RX5, "flaw", "(II)I"⟩
abbrev cX5_store : ByteArray := prog_7_method_6_code
def yX5_store : MethodName := ⟨RX5, "store", "(II)I"⟩
abbrev cX5_itemAt : ByteArray := prog_7_method_7_code
def yX5_itemAt : MethodName := ⟨RX5, "itemAt", "(I)I"⟩
def RX6 : String := "PegDiscs$Search"
def TX6 : u_T := fun k => match k with
  | 0 => ("PegDiscs$Search", "of", "LPegDiscs$Board;", true)
  | 1 => ("PegDiscs$Search", "queue", "[I", true)
  | 2 => ("PegDiscs$Search", "steps", "[I", true)
  | 3 => ("PegDiscs$Search", "lastMove", "[I", true)
  | 4 => ("PegDiscs$Search", "ahead", "[I", true)
  | 5 => ("PegDiscs$Search", "queued", "I", false)
  | 6 => ("PegDiscs$Search", "reached", "I", false)
  | 7 => ("PegDiscs$Search", "farSteps", "I", false)
  | 8 => ("PegDiscs$Search", "farthest", "I", false)
  | 9 => ("PegDiscs$Search", "dead", "I", false)
  | _ => ("PegDiscs$Search", "back", "I", false)
def tyX6 : Nat → FieldType := fun k => match k with
  | 0 => .object "PegDiscs$Board"
  | 1 => .array .int
  | 2 => .array .int
  | 3 => .array .int
  | 4 => .array .int
  | 5 => .int
  | 6 => .int
  | 7 => .int
  | 8 => .int
  | 9 => .int
  | _ => .int
theorem nmX6 : ∀ a, a < 11 → ∀ b, b < 11 → a ≠ b → (TX6 a).2.1 ≠ (TX6 b).2.1 := by decide +kernel
theorem tyX6_ok : ∀ k, k < 11 → parseFieldDescriptor (TX6 k).2.2.1 = some (tyX6 k) := by decide +kernel
abbrev cX6_init : ByteArray := prog_8_method_1_code
def yX6_init : MethodName := ⟨RX6, "<init>", "()V"⟩
abbrev cX6_begin : ByteArray := prog_8_method_2_code
def yX6_begin : MethodName := ⟨RX6, "begin", "(LPegDiscs$Board;)V"⟩
abbrev cX6_spread : ByteArray := prog_8_method_3_code
def yX6_spread : MethodName := ⟨RX6, "spread", "(LPegDiscs$Net;)V"⟩
abbrev cX6_noteArrangement : ByteArray := prog_8_method_4_code
def yX6_noteArrangement : MethodName := ⟨RX6, "noteArrangement", "(II)V"⟩
abbrev cX6_comeTo : ByteArray := prog_8_method_5_code
def yX6_comeTo : MethodName := ⟨RX6, "comeTo", "(III)V"⟩
abbrev cX6_fewest : ByteArray := prog_8_method_6_code
def yX6_fewest : MethodName := ⟨RX6, "fewest", "(II)I"⟩
abbrev cX6_soonestOf : ByteArray := prog_8_method_7_code
def yX6_soonestOf : MethodName := ⟨RX6, "soonestOf", "(I)I"⟩
def RX7 : String := "PegDiscs$Tape"
def TX7 : u_T := fun k => match k with
  | 0 => ("PegDiscs$Tape", "bytes", "[I", true)
  | 1 => ("PegDiscs$Tape", "length", "I", false)
  | 2 => ("PegDiscs$Tape", "at", "I", false)
  | 3 => ("PegDiscs$Tape", "faultNumber", "I", false)
  | _ => ("PegDiscs$Tape", "value", "I", false)
def tyX7 : Nat → FieldType := fun k => match k with
  | 0 => .array .int
  | 1 => .int
  | 2 => .int
  | 3 => .int
  | _ => .int
theorem nmX7 : ∀ a, a < 5 → ∀ b, b < 5 → a ≠ b → (TX7 a).2.1 ≠ (TX7 b).2.1 := by decide +kernel
theorem tyX7_ok : ∀ k, k < 5 → parseFieldDescriptor (TX7 k).2.2.1 = some (tyX7 k) := by decide +kernel
abbrev cX7_init : ByteArray := prog_9_method_1_code
def yX7_init : MethodName := ⟨RX7, "<init>", "()V"⟩
abbrev cX7_take : ByteArray := prog_9_method_2_code
def yX7_take : MethodName := ⟨RX7, "take", "(I)Z"⟩
abbrev cX7_readInto : ByteArray := prog_9_method_3_code
def yX7_readInto : MethodName := ⟨RX7, "readInto", "(LPegDiscs$Board;)Z"⟩
abbrev cX7_readLaw : ByteArray := prog_9_method_4_code
def yX7_readLaw : MethodName := ⟨RX7, "readLaw", "(LPegDiscs$Board;)Z"⟩
abbrev cX7_readDisc : ByteArray := prog_9_method_5_code
def yX7_readDisc : MethodName := ⟨RX7, "readDisc", "(LPegDiscs$Board;)Z"⟩
abbrev cX7_passes : ByteArray := prog_9_method_6_code
def yX7_passes : MethodName := ⟨RX7, "passes", "(I)Z"⟩
abbrev cX7_readNumber : ByteArray := prog_9_method_7_code
def yX7_readNumber : MethodName := ⟨RX7, "readNumber", "(II)Z"⟩
abbrev cX7_faulty : ByteArray := prog_9_method_8_code
def yX7_faulty : MethodName := ⟨RX7, "faulty", "(I)Z"⟩
abbrev cX7_byteAt : ByteArray := prog_9_method_9_code
def yX7_byteAt : MethodName := ⟨RX7, "byteAt", "(I)I"⟩
abbrev cX7_isFigure : ByteArray := prog_9_method_10_code
def yX7_isFigure : MethodName := ⟨RX7, "isFigure", "(I)Z"⟩
abbrev cX7_sortOf : ByteArray := prog_9_method_11_code
def yX7_sortOf : MethodName := ⟨RX7, "sortOf", "(I)I"⟩
def RX8 : String := "PegDiscs"
def TX8 : u_T := fun k => match k with
  | 0 => ("PegDiscs", "rows", "[LPegDiscs$Row;", true)
  | 1 => ("PegDiscs", "tape", "LPegDiscs$Tape;", true)
  | 2 => ("PegDiscs", "board", "LPegDiscs$Board;", true)
  | 3 => ("PegDiscs", "trial", "LPegDiscs$Board;", true)
  | 4 => ("PegDiscs", "acts", "LPegDiscs$Acts;", true)
  | 5 => ("PegDiscs", "images", "[LPegDiscs$Board;", true)
  | 6 => ("PegDiscs", "asker", "LPegDiscs$Asker;", true)
  | 7 => ("PegDiscs", "net", "LPegDiscs$Net;", false)
  | 8 => ("PegDiscs", "search", "LPegDiscs$Search;", false)
  | 9 => ("PegDiscs", "layers", "LPegDiscs$Layers;", false)
  | 10 => ("PegDiscs", "latestFault", "I", false)
  | _ => ("PegDiscs", "finding", "I", false)
def tyX8 : Nat → FieldType := fun k => match k with
  | 0 => .array (.object "PegDiscs$Row")
  | 1 => .object "PegDiscs$Tape"
  | 2 => .object "PegDiscs$Board"
  | 3 => .object "PegDiscs$Board"
  | 4 => .object "PegDiscs$Acts"
  | 5 => .array (.object "PegDiscs$Board")
  | 6 => .object "PegDiscs$Asker"
  | 7 => .object "PegDiscs$Net"
  | 8 => .object "PegDiscs$Search"
  | 9 => .object "PegDiscs$Layers"
  | 10 => .int
  | _ => .int
theorem nmX8 : ∀ a, a < 12 → ∀ b, b < 12 → a ≠ b → (TX8 a).2.1 ≠ (TX8 b).2.1 := by decide +kernel
theorem tyX8_ok : ∀ k, k < 12 → parseFieldDescriptor (TX8 k).2.2.1 = some (tyX8 k) := by decide +kernel
abbrev cX8_init : ByteArray := prog_1_method_1_code
def yX8_init : MethodName := ⟨RX8, "<init>", "()V"⟩
abbrev cX8_row : ByteArray := prog_1_method_2_code
def yX8_row : MethodName := ⟨RX8, "row", "(III)I"⟩
abbrev cX8_set : ByteArray := prog_1_method_3_code
def yX8_set : MethodName := ⟨RX8, "set", "(III)I"⟩
abbrev cX8_copy : ByteArray := prog_1_method_4_code
def yX8_copy : MethodName := ⟨RX8, "copy", "(IIIII)I"⟩
abbrev cX8_drop : ByteArray := prog_1_method_5_code
def yX8_drop : MethodName := ⟨RX8, "drop", "(I)I"⟩
abbrev cX8_feed : ByteArray := prog_1_method_6_code
def yX8_feed : MethodName := ⟨RX8, "feed", "(I)I"⟩
abbrev cX8_board : ByteArray := prog_1_method_7_code
def yX8_board : MethodName := ⟨RX8, "board", "()I"⟩
abbrev cX8_fault : ByteArray := prog_1_method_8_code
def yX8_fault : MethodName := ⟨RX8, "fault", "()I"⟩
abbrev cX8_move : ByteArray := prog_1_method_9_code
def yX8_move : MethodName := ⟨RX8, "move", "(II)I"⟩
abbrev cX8_put : ByteArray := prog_1_method_10_code
def yX8_put : MethodName := ⟨RX8, "put", "(II)I"⟩
abbrev cX8_high : ByteArray := prog_1_method_11_code
def yX8_high : MethodName := ⟨RX8, "high", "(I)I"⟩
abbrev cX8_undo : ByteArray := prog_1_method_12_code
def yX8_undo : MethodName := ⟨RX8, "undo", "()I"⟩
abbrev cX8_disc : ByteArray := prog_1_method_13_code
def yX8_disc : MethodName := ⟨RX8, "disc", "(II)I"⟩
abbrev cX8_peg : ByteArray := prog_1_method_14_code
def yX8_peg : MethodName := ⟨RX8, "peg", "(II)I"⟩
abbrev cX8_can : ByteArray := prog_1_method_15_code
def yX8_can : MethodName := ⟨RX8, "can", "()I"⟩
abbrev cX8_least : ByteArray := prog_1_method_16_code
def yX8_least : MethodName := ⟨RX8, "least", "(III)I"⟩
abbrev cX8_tower : ByteArray := prog_1_method_17_code
def yX8_tower : MethodName := ⟨RX8, "tower", "(II)I"⟩
abbrev cX8_world : ByteArray := prog_1_method_18_code
def yX8_world : MethodName := ⟨RX8, "world", "(I)I"⟩
abbrev cX8_ring : ByteArray := prog_1_method_19_code
def yX8_ring : MethodName := ⟨RX8, "ring", "()I"⟩
abbrev cX8_ways : ByteArray := prog_1_method_20_code
def yX8_ways : MethodName := ⟨RX8, "ways", "(III)J"⟩
abbrev cX8_judge : ByteArray := prog_1_method_21_code
def yX8_judge : MethodName := ⟨RX8, "judge", "(III)I"⟩
abbrev cX8_fits : ByteArray := prog_1_method_22_code
def yX8_fits : MethodName := ⟨RX8, "fits", "(IIIII)I"⟩
abbrev cX8_chance : ByteArray := prog_1_method_23_code
def yX8_chance : MethodName := ⟨RX8, "chance", "(IIII)J"⟩
abbrev cX8_drawn : ByteArray := prog_1_method_24_code
def yX8_drawn : MethodName := ⟨RX8, "drawn", "(III)I"⟩
abbrev cX8_image : ByteArray := prog_1_method_25_code
def yX8_image : MethodName := ⟨RX8, "image", "(I)I"⟩
abbrev cX8_restore : ByteArray := prog_1_method_26_code
def yX8_restore : MethodName := ⟨RX8, "restore", "(I)I"⟩
abbrev cX8_kind : ByteArray := prog_1_method_27_code
def yX8_kind : MethodName := ⟨RX8, "kind", "(I)I"⟩
abbrev cX8_as : ByteArray := prog_1_method_28_code
def yX8_as : MethodName := ⟨RX8, "as", "(II)I"⟩
abbrev cX8_ask : ByteArray := prog_1_method_29_code
def yX8_ask : MethodName := ⟨RX8, "ask", "(II)I"⟩
abbrev cX8_trace : ByteArray := prog_1_method_30_code
def yX8_trace : MethodName := ⟨RX8, "trace", "(I)I"⟩
abbrev cX8_count : ByteArray := prog_1_method_31_code
def yX8_count : MethodName := ⟨RX8, "count", "(I)I"⟩
abbrev cX8_status : ByteArray := prog_1_method_32_code
def yX8_status : MethodName := ⟨RX8, "status", "()I"⟩
abbrev cX8_rowAt : ByteArray := prog_1_method_33_code
def yX8_rowAt : MethodName := ⟨RX8, "rowAt", "(I)LPegDiscs$Row;"⟩
abbrev cX8_found : ByteArray := prog_1_method_34_code
def yX8_found : MethodName := ⟨RX8, "found", "(I)I"⟩
abbrev cX8_well : ByteArray := prog_1_method_35_code
def yX8_well : MethodName := ⟨RX8, "well", "(I)I"⟩
abbrev cX8_rowsThere : ByteArray := prog_1_method_36_code
def yX8_rowsThere : MethodName := ⟨RX8, "rowsThere", "()I"⟩
abbrev cX8_suppose : ByteArray := prog_1_method_37_code
def yX8_suppose : MethodName := ⟨RX8, "suppose", "(III)Z"⟩
abbrev cX8_netNow : ByteArray := prog_1_method_38_code
def yX8_netNow : MethodName := ⟨RX8, "netNow", "()LPegDiscs$Net;"⟩
abbrev cX8_searched : ByteArray := prog_1_method_39_code
def yX8_searched : MethodName := ⟨RX8, "searched", "()LPegDiscs$Search;"⟩
abbrev cX8_layered : ByteArray := prog_1_method_40_code
def yX8_layered : MethodName := ⟨RX8, "layered", "()LPegDiscs$Layers;"⟩
abbrev cX8_commonOf : ByteArray := prog_1_method_41_code
def yX8_commonOf : MethodName := ⟨RX8, "commonOf", "(JJ)J"⟩
def RX9 : String := "PegDiscsModel"
def TX9 : u_T := fun k => match k with
  | 0 => ("PegDiscsModel", "items", "[I", true)
  | 1 => ("PegDiscsModel", "lane", "[I", true)
  | 2 => ("PegDiscsModel", "size", "[I", true)
  | 3 => ("PegDiscsModel", "found", "I", false)
  | 4 => ("PegDiscsModel", "length", "I", false)
  | 5 => ("PegDiscsModel", "tape", "[B", true)
  | 6 => ("PegDiscsModel", "faulted", "I", false)
  | 7 => ("PegDiscsModel", "at", "I", false)
  | 8 => ("PegDiscsModel", "wrongAt", "I", false)
  | 9 => ("PegDiscsModel", "wrong", "I", false)
  | 10 => ("PegDiscsModel", "w", "[I", true)
  | 11 => ("PegDiscsModel", "acts", "I", false)
  | 12 => ("PegDiscsModel", "isKept", "[Z", true)
  | 13 => ("PegDiscsModel", "far", "[I", true)
  | 14 => ("PegDiscsModel", "queue", "[I", true)
  | 15 => ("PegDiscsModel", "isGood", "[Z", true)
  | 16 => ("PegDiscsModel", "reached", "I", false)
  | 17 => ("PegDiscsModel", "rows", "[J", true)
  | 18 => ("PegDiscsModel", "more", "[J", true)
  | 19 => ("PegDiscsModel", "kindTried", "I", false)
  | 20 => ("PegDiscsModel", "discTried", "I", false)
  | 21 => ("PegDiscsModel", "highTried", "I", false)
  | 22 => ("PegDiscsModel", "traced", "[I", true)
  | _ => ("PegDiscsModel", "traces", "I", false)
def tyX9 : Nat → FieldType := fun k => match k with
  | 0 => .array .int
  | 1 => .array .int
  | 2 => .array .int
  | 3 => .int
  | 4 => .int
  | 5 => .array .byte
  | 6 => .int
  | 7 => .int
  | 8 => .int
  | 9 => .int
  | 10 => .array .int
  | 11 => .int
  | 12 => .array .boolean
  | 13 => .array .int
  | 14 => .array .int
  | 15 => .array .boolean
  | 16 => .int
  | 17 => .array .long
  | 18 => .array .long
  | 19 => .int
  | 20 => .int
  | 21 => .int
  | 22 => .array .int
  | _ => .int
theorem nmX9 : ∀ a, a < 24 → ∀ b, b < 24 → a ≠ b → (TX9 a).2.1 ≠ (TX9 b).2.1 := by decide +kernel
theorem tyX9_ok : ∀ k, k < 24 → parseFieldDescriptor (TX9 k).2.2.1 = some (tyX9 k) := by decide +kernel
abbrev cX9_init : ByteArray := prog_11_method_1_code
def yX9_init : MethodName := ⟨RX9, "<init>", "()V"⟩
abbrev cX9_in : ByteArray := prog_11_method_2_code
def yX9_in : MethodName := ⟨RX9, "in", "(JJJ)Z"⟩
abbrev cX9_has : ByteArray := prog_11_method_3_code
def yX9_has : MethodName := ⟨RX9, "has", "(II)Z"⟩
abbrev cX9_larger : ByteArray := prog_11_method_4_code
def yX9_larger : MethodName := ⟨RX9, "larger", "(II)I"⟩
abbrev cX9_smaller : ByteArray := prog_11_method_5_code
def yX9_smaller : MethodName := ⟨RX9, "smaller", "(II)I"⟩
abbrev cX9_finds : ByteArray := prog_11_method_6_code
def yX9_finds : MethodName := ⟨RX9, "finds", "(I)I"⟩
abbrev cX9_good : ByteArray := prog_11_method_7_code
def yX9_good : MethodName := ⟨RX9, "good", "(I)I"⟩
abbrev cX9_isRow : ByteArray := prog_11_method_8_code
def yX9_isRow : MethodName := ⟨RX9, "isRow", "(I)Z"⟩
abbrev cX9_row : ByteArray := prog_11_method_9_code
def yX9_row : MethodName := ⟨RX9, "row", "(III)I"⟩
abbrev cX9_cut : ByteArray := prog_11_method_10_code
def yX9_cut : MethodName := ⟨RX9, "cut", "(II)I"⟩
abbrev cX9_set : ByteArray := prog_11_method_11_code
def yX9_set : MethodName := ⟨RX9, "set", "(III)I"⟩
abbrev cX9_isWithin : ByteArray := prog_11_method_12_code
def yX9_isWithin : MethodName := ⟨RX9, "isWithin", "(III)Z"⟩
abbrev cX9_copy : ByteArray := prog_11_method_13_code
def yX9_copy : MethodName := ⟨RX9, "copy", "(IIIII)I"⟩
abbrev cX9_drop : ByteArray := prog_11_method_14_code
def yX9_drop : MethodName := ⟨RX9, "drop", "(I)I"⟩
abbrev cX9_feed : ByteArray := prog_11_method_15_code
def yX9_feed : MethodName := ⟨RX9, "feed", "(I)I"⟩
abbrev cX9_byteAt : ByteArray := prog_11_method_16_code
def yX9_byteAt : MethodName := ⟨RX9, "byteAt", "(I)I"⟩
abbrev cX9_fails : ByteArray := prog_11_method_17_code
def yX9_fails : MethodName := ⟨RX9, "fails", "(II)V"⟩
abbrev cX9_sign : ByteArray := prog_11_method_18_code
def yX9_sign : MethodName := ⟨RX9, "sign", "(I)V"⟩
abbrev cX9_number : ByteArray := prog_11_method_19_code
def yX9_number : MethodName := ⟨RX9, "number", "(III)I"⟩
abbrev cX9_sortOf : ByteArray := prog_11_method_20_code
def yX9_sortOf : MethodName := ⟨RX9, "sortOf", "(I)I"⟩
abbrev cX9_discItem : ByteArray := prog_11_method_21_code
def yX9_discItem : MethodName := ⟨RX9, "discItem", "(I)V"⟩
abbrev cX9_copies : ByteArray := prog_11_method_22_code
def yX9_copies : MethodName := ⟨RX9, "copies", "(II)V"⟩
abbrev cX9_board : ByteArray := prog_11_method_23_code
def yX9_board : MethodName := ⟨RX9, "board", "()I"⟩
abbrev cX9_fault : ByteArray := prog_11_method_24_code
def yX9_fault : MethodName := ⟨RX9, "fault", "()I"⟩
abbrev cX9_isBoard : ByteArray := prog_11_method_25_code
def yX9_isBoard : MethodName := ⟨RX9, "isBoard", "()Z"⟩
abbrev cX9_isPeg : ByteArray := prog_11_method_26_code
def yX9_isPeg : MethodName := ⟨RX9, "isPeg", "(I)Z"⟩
abbrev cX9_isDisc : ByteArray := prog_11_method_27_code
def yX9_isDisc : MethodName := ⟨RX9, "isDisc", "(I)Z"⟩
abbrev cX9_state : ByteArray := prog_11_method_28_code
def yX9_state : MethodName := ⟨RX9, "state", "()I"⟩
abbrev cX9_pegIn : ByteArray := prog_11_method_29_code
def yX9_pegIn : MethodName := ⟨RX9, "pegIn", "(II)I"⟩
abbrev cX9_codeOf : ByteArray := prog_11_method_30_code
def yX9_codeOf : MethodName := ⟨RX9, "codeOf", "(I)I"⟩
abbrev cX9_lying : ByteArray := prog_11_method_31_code
def yX9_lying : MethodName := ⟨RX9, "lying", "(II)I"⟩
abbrev cX9_bits : ByteArray := prog_11_method_32_code
def yX9_bits : MethodName := ⟨RX9, "bits", "(I)I"⟩
abbrev cX9_lowest : ByteArray := prog_11_method_33_code
def yX9_lowest : MethodName := ⟨RX9, "lowest", "(I)I"⟩
abbrev cX9_kindTold : ByteArray := prog_11_method_34_code
def yX9_kindTold : MethodName := ⟨RX9, "kindTold", "(I)I"⟩
abbrev cX9_mover : ByteArray := prog_11_method_35_code
def yX9_mover : MethodName := ⟨RX9, "mover", "(III)I"⟩
abbrev cX9_moved : ByteArray := prog_11_method_36_code
def yX9_moved : MethodName := ⟨RX9, "moved", "(III)I"⟩
abbrev cX9_asTold : ByteArray := prog_11_method_37_code
def yX9_asTold : MethodName := ⟨RX9, "asTold", "()V"⟩
abbrev cX9_known : ByteArray := prog_11_method_38_code
def yX9_known : MethodName := ⟨RX9, "known", "()V"⟩
abbrev cX9_move : ByteArray := prog_11_method_39_code
def yX9_move : MethodName := ⟨RX9, "move", "(II)I"⟩
abbrev cX9_put : ByteArray := prog_11_method_40_code
def yX9_put : MethodName := ⟨RX9, "put", "(II)I"⟩
abbrev cX9_high : ByteArray := prog_11_method_41_code
def yX9_high : MethodName := ⟨RX9, "high", "(I)I"⟩
abbrev cX9_undo : ByteArray := prog_11_method_42_code
def yX9_undo : MethodName := ⟨RX9, "undo", "()I"⟩
abbrev cX9_disc : ByteArray := prog_11_method_43_code
def yX9_disc : MethodName := ⟨RX9, "disc", "(II)I"⟩
abbrev cX9_many : ByteArray := prog_11_method_44_code
def yX9_many : MethodName := ⟨RX9, "many", "(I)I"⟩
abbrev cX9_peg : ByteArray := prog_11_method_45_code
def yX9_peg : MethodName := ⟨RX9, "peg", "(II)I"⟩
abbrev cX9_movesOf : ByteArray := prog_11_method_46_code
def yX9_movesOf : MethodName := ⟨RX9, "movesOf", "(I)I"⟩
abbrev cX9_can : ByteArray := prog_11_method_47_code
def yX9_can : MethodName := ⟨RX9, "can", "()I"⟩
abbrev cX9_behind : ByteArray := prog_11_method_48_code
def yX9_behind : MethodName := ⟨RX9, "behind", "(II)I"⟩
abbrev cX9_spreads : ByteArray := prog_11_method_49_code
def yX9_spreads : MethodName := ⟨RX9, "spreads", "()V"⟩
abbrev cX9_farTo : ByteArray := prog_11_method_50_code
def yX9_farTo : MethodName := ⟨RX9, "farTo", "(I)I"⟩
abbrev cX9_kth : ByteArray := prog_11_method_51_code
def yX9_kth : MethodName := ⟨RX9, "kth", "(III)I"⟩
abbrev cX9_leastTo : ByteArray := prog_11_method_52_code
def yX9_leastTo : MethodName := ⟨RX9, "leastTo", "(II)I"⟩
abbrev cX9_wrongOf : ByteArray := prog_11_method_53_code
def yX9_wrongOf : MethodName := ⟨RX9, "wrongOf", "(III)I"⟩
abbrev cX9_told : ByteArray := prog_11_method_54_code
def yX9_told : MethodName := ⟨RX9, "told", "(II)I"⟩
abbrev cX9_least : ByteArray := prog_11_method_55_code
def yX9_least : MethodName := ⟨RX9, "least", "(III)I"⟩
abbrev cX9_tower : ByteArray := prog_11_method_56_code
def yX9_tower : MethodName := ⟨RX9, "tower", "(II)I"⟩
abbrev cX9_world : ByteArray := prog_11_method_57_code
def yX9_world : MethodName := ⟨RX9, "world", "(I)I"⟩
abbrev cX9_ring : ByteArray := prog_11_method_58_code
def yX9_ring : MethodName := ⟨RX9, "ring", "()I"⟩
abbrev cX9_beginsWays : ByteArray := prog_11_method_59_code
def yX9_beginsWays : MethodName := ⟨RX9, "beginsWays", "()V"⟩
abbrev cX9_stepWays : ByteArray := prog_11_method_60_code
def yX9_stepWays : MethodName := ⟨RX9, "stepWays", "(Z)V"⟩
abbrev cX9_ways : ByteArray := prog_11_method_61_code
def yX9_ways : MethodName := ⟨RX9, "ways", "(III)J"⟩
abbrev cX9_judged : ByteArray := prog_11_method_62_code
def yX9_judged : MethodName := ⟨RX9, "judged", "(IIII)I"⟩
abbrev cX9_judge : ByteArray := prog_11_method_63_code
def yX9_judge : MethodName := ⟨RX9, "judge", "(III)I"⟩
abbrev cX9_fits : ByteArray := prog_11_method_64_code
def yX9_fits : MethodName := ⟨RX9, "fits", "(IIIII)I"⟩
abbrev cX9_chance : ByteArray := prog_11_method_65_code
def yX9_chance : MethodName := ⟨RX9, "chance", "(IIII)J"⟩
abbrev cX9_drawn : ByteArray := prog_11_method_66_code
def yX9_drawn : MethodName := ⟨RX9, "drawn", "(III)I"⟩
abbrev cX9_image : ByteArray := prog_11_method_67_code
def yX9_image : MethodName := ⟨RX9, "image", "(I)I"⟩
abbrev cX9_restore : ByteArray := prog_11_method_68_code
def yX9_restore : MethodName := ⟨RX9, "restore", "(I)I"⟩
abbrev cX9_kind : ByteArray := prog_11_method_69_code
def yX9_kind : MethodName := ⟨RX9, "kind", "(I)I"⟩
abbrev cX9_isOf : ByteArray := prog_11_method_70_code
def yX9_isOf : MethodName := ⟨RX9, "isOf", "(II)Z"⟩
abbrev cX9_as : ByteArray := prog_11_method_71_code
def yX9_as : MethodName := ⟨RX9, "as", "(II)I"⟩
abbrev cX9_leaves : ByteArray := prog_11_method_72_code
def yX9_leaves : MethodName := ⟨RX9, "leaves", "(I)V"⟩
abbrev cX9_body20 : ByteArray := prog_11_method_73_code
def yX9_body20 : MethodName := ⟨RX9, "body20", "(I)I"⟩
abbrev cX9_body21 : ByteArray := prog_11_method_74_code
def yX9_body21 : MethodName := ⟨RX9, "body21", "(I)I"⟩
abbrev cX9_body22 : ByteArray := prog_11_method_75_code
def yX9_body22 : MethodName := ⟨RX9, "body22", "(I)I"⟩
abbrev cX9_body23 : ByteArray := prog_11_method_76_code
def yX9_body23 : MethodName := ⟨RX9, "body23", "(I)I"⟩
abbrev cX9_body24 : ByteArray := prog_11_method_77_code
def yX9_body24 : MethodName := ⟨RX9, "body24", "(I)I"⟩
abbrev cX9_body10 : ByteArray := prog_11_method_78_code
def yX9_body10 : MethodName := ⟨RX9, "body10", "(I)I"⟩
abbrev cX9_body13 : ByteArray := prog_11_method_79_code
def yX9_body13 : MethodName := ⟨RX9, "body13", "(I)I"⟩
abbrev cX9_body14 : ByteArray := prog_11_method_80_code
def yX9_body14 : MethodName := ⟨RX9, "body14", "(I)I"⟩
abbrev cX9_glassSize : ByteArray := prog_11_method_81_code
def yX9_glassSize : MethodName := ⟨RX9, "glassSize", "(I)I"⟩
abbrev cX9_plainMark : ByteArray := prog_11_method_82_code
def yX9_plainMark : MethodName := ⟨RX9, "plainMark", "(I)I"⟩
abbrev cX9_body11 : ByteArray := prog_11_method_83_code
def yX9_body11 : MethodName := ⟨RX9, "body11", "(I)I"⟩
abbrev cX9_body12 : ByteArray := prog_11_method_84_code
def yX9_body12 : MethodName := ⟨RX9, "body12", "(I)I"⟩
abbrev cX9_ask : ByteArray := prog_11_method_85_code
def yX9_ask : MethodName := ⟨RX9, "ask", "(II)I"⟩
abbrev cX9_trace : ByteArray := prog_11_method_86_code
def yX9_trace : MethodName := ⟨RX9, "trace", "(I)I"⟩
abbrev cX9_count : ByteArray := prog_11_method_87_code
def yX9_count : MethodName := ⟨RX9, "count", "(I)I"⟩
abbrev cX9_status : ByteArray := prog_11_method_88_code
def yX9_status : MethodName := ⟨RX9, "status", "()I"⟩
def RJ6 : String := "java/lang/Integer"
def TJ6 : u_T := fun k => match k with
  | _ => ("", "", "", false)
def tyJ6 : Nat → FieldType := fun k => match k with
  | _ => .int
theorem nmJ6 : ∀ a, a < 0 → ∀ b, b < 0 → a ≠ b → (TJ6 a).2.1 ≠ (TJ6 b).2.1 := by decide +kernel
theorem tyJ6_ok : ∀ k, k < 0 → parseFieldDescriptor (TJ6 k).2.2.1 = some (tyJ6 k) := by decide +kernel
abbrev cJ6_bitCount_0f7a4 : ByteArray := prog_12_method_49_code
def yJ6_bitCount_0f7a4 : MethodName := ⟨RJ6, "bitCount", "(I)I"⟩
def RJ10 : String := "java/lang/System"
def TJ10 : u_T := fun k => match k with
  | _ => ("", "", "", false)
def tyJ10 : Nat → FieldType := fun k => match k with
  | _ => .int
theorem nmJ10 : ∀ a, a < 0 → ∀ b, b < 0 → a ≠ b → (TJ10 a).2.1 ≠ (TJ10 b).2.1 := by decide +kernel
theorem tyJ10_ok : ∀ k, k < 0 → parseFieldDescriptor (TJ10 k).2.2.1 = some (tyJ10 k) := by decide +kernel
def RJ7 : String := "java/util/Arrays"
def TJ7 : u_T := fun k => match k with
  | _ => ("", "", "", false)
def tyJ7 : Nat → FieldType := fun k => match k with
  | _ => .int
theorem nmJ7 : ∀ a, a < 0 → ∀ b, b < 0 → a ≠ b → (TJ7 a).2.1 ≠ (TJ7 b).2.1 := by decide +kernel
theorem tyJ7_ok : ∀ k, k < 0 → parseFieldDescriptor (TJ7 k).2.2.1 = some (tyJ7 k) := by decide +kernel
abbrev cJ7_fill_d0a16 : ByteArray := prog_14_method_101_code
def yJ7_fill_d0a16 : MethodName := ⟨RJ7, "fill", "([JJ)V"⟩
abbrev cJ7_fill_53178 : ByteArray := prog_14_method_103_code
def yJ7_fill_53178 : MethodName := ⟨RJ7, "fill", "([II)V"⟩
def RL : String := "PegDiscsLaw"
abbrev cL_law : ByteArray := code
def yL_law : MethodName := ⟨RL, "law", "([I)Z"⟩
abbrev vwCl : List vw_C := [(RX0, TX0, 3), (RX1, TX1, 6), (RX2, TX2, 6), (RX3, TX3, 4), (RX4, TX4, 3), (RX5, TX5, 3), (RX6, TX6, 11), (RX7, TX7, 5), (RX8, TX8, 12), (RX9, TX9, 24)]
end
section
/-! the words, of whatever arguments; warm states keep them -/
def okW : Cond → Bool
  | .fieldLinkNest _ _ _ _ _ _ => true
  | .methodLinkNest _ _ _ _ => true
  | w => goodWord w
def TB : List Cond := lw_tbl.filter okW
def Uni (U : State) : Prop := ∀ w ∈ TB, ∀ a : Array Value, w.before a U = true
theorem Uni.warm {s U : State} (hW : s.WarmedH U.vm) (h : Uni s) : Uni U := by
  intro w hw a
  have hk := (List.mem_filter.mp hw).2
  have hs := h w hw #[]
  cases w with
  | fieldLinkNest => exact va_Nw.use rfl (va_Nw.warmF hW hs)
  | methodLinkNest => exact va_Nw.use rfl (va_Nw.warmM hW hs)
  | _ => exact word_at hW (good_of_word hk) hs
theorem Uni.of {s : State} {a0 : Array Value} (h : ∀ w ∈ lw_tbl, w.before a0 s = true) : Uni s := by
  intro w hw a
  have hk := (List.mem_filter.mp hw).2
  have hs := h w (List.mem_filter.mp hw).1
  cases w with
  | fieldLinkNest => exact va_Nw.use rfl (va_Nw.of rfl hs)
  | methodLinkNest => exact va_Nw.use rfl (va_Nw.of rfl hs)
  | _ => exact word_at (State.WarmedH.refl s) (good_of_word hk) hs
/-! the heap by numbers: a cell's number, what it holds; references are numbers too; ad: where they lie -/
def cvV (ad : Nat → Nat) : Value → Value
  | .ref i => .ref (ad i)
  | v => v
def cvE (cy ad : Nat → Nat) : va_E → va_E
  | .inl (c, n, .inl f) => .inl (cy c, n, .inl f)
  | .inl (c, n, .inr (.inl f)) => .inl (cy c, n, .inr (.inl f))
  | .inl (c, n, .inr (.inr (.inl f))) => .inl (cy c, n, .inr (.inr (.inl f)))
  | .inl (c, n, .inr (.inr (.inr (.inl f)))) => .inl (cy c, n, .inr (.inr (.inr (.inl f))))
  | .inl (c, n, .inr (.inr (.inr (.inr f)))) => .inl (cy c, n, .inr (.inr (.inr (.inr (fun k => (f k).map ad)))))
  | .inr (ci, fs) => .inr (ci, fs.map (cvV ad))
abbrev Hp : Type := Nat → va_E
def wl (cy : Nat → Nat) (N : Nat) (ad : Nat → Nat) (σ : Hp) : va_W := (List.range N).map (fun i => (ad i, cvE cy ad (σ i)))
theorem wl_at {cy : Nat → Nat} {N : Nat} {ad : Nat → Nat} {σ : Hp} {i : Nat} (h : i < N) : (wl cy N ad σ)[i]? = some (ad i, cvE cy ad (σ i)) := by simp [wl, h]
theorem wl_atE {cy : Nat → Nat} {N : Nat} {ad : Nat → Nat} {σ : Hp} {i : Nat} {c : va_E} (h : i < N) (hc : σ i = c) : (wl cy N ad σ)[i]? = some (ad i, cvE cy ad c) := by rw [wl_at h, hc]
theorem wl_set {cy : Nat → Nat} {N : Nat} {ad : Nat → Nat} {σ : Hp} {i : Nat} (c : va_E) (h : i < N) : (wl cy N ad σ).set i (ad i, cvE cy ad c) = wl cy N ad (va_up σ i c) := by
  apply List.ext_getElem?
  intro j
  by_cases hj : j = i
  · subst hj
    simp [wl, h, va_up]
  · rw [List.getElem?_set_ne (fun q => hj q.symm)]
    by_cases hN : j < N
    · simp [wl, hN, va_up, hj]
    · simp [wl, hN]
theorem wl_D {cy : Nat → Nat} {N : Nat} {ad : Nat → Nat} {σ σ' : Hp} {A : Nat → Prop} (h : va_D A (wl cy N ad σ)) : va_D A (wl cy N ad σ') := by
  have key : ∀ (i : Nat) (p : Nat × va_E), (wl cy N ad σ')[i]? = some p → i < N ∧ p.1 = ad i := by
    intro i p hp
    by_cases hN : i < N
    · rw [wl_at hN] at hp; cases hp; exact ⟨hN, rfl⟩
    · simp [wl, hN] at hp
  refine ⟨fun i j p q hp hq e => ?_, fun k q hq => ?_⟩
  · obtain ⟨h1, e1⟩ := key i p hp
    obtain ⟨h2, e2⟩ := key j q hq
    exact h.1 i j _ _ (wl_at h1) (wl_at h2) (by rw [← e1, ← e2]; exact e)
  · obtain ⟨h1, e1⟩ := key k q hq
    rw [e1]; exact h.2 k _ (wl_at h1)
theorem wl_A {cy : Nat → Nat} {N : Nat} {ad : Nat → Nat} {σ σ' : Hp} {sz : Nat} : va_A (wl cy N ad σ) sz = va_A (wl cy N ad σ') sz := by
  funext q
  have key : ∀ σ : Hp, (∃ (k : Nat) (e : va_E), (wl cy N ad σ)[k]? = some (q, e)) ↔ ∃ k, k < N ∧ ad k = q := by
    intro σ
    constructor
    · rintro ⟨k, e, h⟩
      by_cases hN : k < N
      · rw [wl_at hN] at h; cases h; exact ⟨k, hN, rfl⟩
      · simp [wl, hN] at h
    · rintro ⟨k, hN, rfl⟩
      exact ⟨k, _, wl_at hN⟩
  show (_ ∨ _) = (_ ∨ _)
  rw [propext (key σ), propext (key σ')]
abbrev tyL (cy : Nat → Nat) : List (ClassId × FieldType) := [(cy 0, .int), (cy 1, .long), (cy 2, .byte), (cy 3, .boolean), (cy 4, .object "PegDiscs$Board"), (cy 5, .object "PegDiscs$Row")]
/-! the locals -/
def lh (ls : Array Slot) (nL : Nat) (ad : Nat → Nat) (lo : List (Option Value)) : Prop := ls.size = nL ∧ lv_wf ls ∧ ∀ (i : Nat) (v : Value), lo[i]? = some (some v) → ls[i]? = some (.val (cvV ad v))
def loA (ad : Nat → Nat) (lo : List (Option Value)) : List (Nat × Value) := (List.range lo.length).filterMap (fun j => match lo[j]? with
  | some (some v) => some (j, cvV ad v)
  | _ => none)
theorem loA_mem {ad : Nat → Nat} {lo : List (Option Value)} {j : Nat} {u : Value} : (j, u) ∈ loA ad lo ↔ ∃ v, lo[j]? = some (some v) ∧ u = cvV ad v := by
  constructor
  · intro h
    obtain ⟨k, hk, h2⟩ := List.mem_filterMap.mp h
    revert h2
    cases hq : lo[k]? with
    | none => intro h2; cases h2
    | some o =>
      cases o with
      | none => intro h2; cases h2
      | some v => intro h2; cases h2; exact ⟨v, hq, rfl⟩
  · rintro ⟨v, hv, rfl⟩
    refine List.mem_filterMap.mpr ⟨j, ?_, ?_⟩
    · exact List.mem_range.mpr (List.getElem?_eq_some_iff.mp hv).1
    · rw [hv]
theorem lh.has {ls : Array Slot} {nL : Nat} {ad : Nat → Nat} {lo : List (Option Value)} (h : lh ls nL ad lo) : lv_has ls nL (loA ad lo) := by
  refine ⟨h.1, h.2.1, fun q hq => ?_⟩
  obtain ⟨v, h1, h2⟩ := loA_mem.mp (show (q.1, q.2) ∈ loA ad lo from hq)
  rw [h2]; exact h.2.2 _ _ h1
def isW : Option Value → Bool
  | some (.long _) => true
  | some (.double _) => true
  | _ => false
def stOK (lo : List (Option Value)) : Nat → Bool
  | 0 => true
  | k + 1 => match lo[k]? with
    | some o => !isW o
    | none => true
theorem cvV_cat (ad : Nat → Nat) (v : Value) : (cvV ad v).category = v.category := by cases v <;> rfl
theorem isW_of {v : Value} (h : v.category = 2) : isW (some v) = true := by cases v <;> first | rfl | (simp [Value.category] at h)
theorem lh_st1 {ls : Array Slot} {nL : Nat} {ad : Nat → Nat} {lo : List (Option Value)} {i : Nat} {v : Value} (hok : stOK lo i = true) (h : lv_has ls nL ((i, cvV ad v) :: (loA ad lo).filter (fun q => !(q.1 == i) && !(q.1 + 1 == i && q.2.category == 2)))) : lh ls nL ad (lo.set i (some v)) := by
  refine ⟨h.1, h.2.1, fun j w hj => ?_⟩
  by_cases hji : j = i
  · subst hji
    have : w = v := by
      rw [List.getElem?_set_self' ] at hj
      cases hq : lo[j]? with
      | none => rw [hq] at hj; cases hj
      | some o => rw [hq] at hj; simpa using hj.symm
    subst this
    exact h.2.2 (j, cvV ad w) List.mem_cons_self
  · rw [List.getElem?_set_ne (fun q => hji q.symm)] at hj
    refine h.2.2 (j, cvV ad w) (List.mem_cons_of_mem _ (List.mem_filter.mpr ⟨loA_mem.mpr ⟨w, hj, rfl⟩, ?_⟩))
    simp only [Bool.and_eq_true, Bool.not_eq_true', beq_eq_false_iff_ne, ne_eq, hji, not_false_eq_true, true_and, Bool.and_eq_false_iff]
    by_cases hc : j + 1 = i
    · right
      subst hc
      simp only [stOK, hj, Bool.not_eq_true'] at hok
      rw [cvV_cat]
      cases hw : (w.category == 2) with
      | false => simpa using hw
      | true => rw [isW_of (by simpa using hw)] at hok; cases hok
    · left; simpa using hc
theorem lh_st2 {ls : Array Slot} {nL : Nat} {ad : Nat → Nat} {lo : List (Option Value)} {i : Nat} {v : Value} (hok : stOK lo i = true) (h : lv_has ls nL ((i, cvV ad v) :: (loA ad lo).filter (fun q => !(q.1 == i) && (!(q.1 == i + 1) && !(q.1 + 1 == i && q.2.category == 2))))) : lh ls nL ad ((lo.set i (some v)).set (i + 1) none) := by
  refine ⟨h.1, h.2.1, fun j w hj => ?_⟩
  by_cases hji1 : j = i + 1
  · subst hji1
    rw [List.getElem?_set_self'] at hj
    cases hq : (lo.set i (some v))[i + 1]? with
    | none => rw [hq] at hj; cases hj
    | some o => rw [hq] at hj; simp at hj
  rw [List.getElem?_set_ne (fun q => hji1 q.symm)] at hj
  by_cases hji : j = i
  · subst hji
    have : w = v := by
      rw [List.getElem?_set_self' ] at hj
      cases hq : lo[j]? with
      | none => rw [hq] at hj; cases hj
      | some o => rw [hq] at hj; simpa using hj.symm
    subst this
    exact h.2.2 (j, cvV ad w) List.mem_cons_self
  · rw [List.getElem?_set_ne (fun q => hji q.symm)] at hj
    refine h.2.2 (j, cvV ad w) (List.mem_cons_of_mem _ (List.mem_filter.mpr ⟨loA_mem.mpr ⟨w, hj, rfl⟩, ?_⟩))
    simp only [Bool.and_eq_true, Bool.not_eq_true', beq_eq_false_iff_ne, ne_eq, hji, hji1, not_false_eq_true, true_and, Bool.and_eq_false_iff]
    by_cases hc : j + 1 = i
    · right
      subst hc
      simp only [stOK, hj, Bool.not_eq_true'] at hok
      rw [cvV_cat]
      cases hw : (w.category == 2) with
      | false => simpa using hw
      | true => rw [isW_of (by simpa using hw)] at hok; cases hok
    · left; simpa using hc
/-! what a method's body stands in: p l e R s m args below meth c, A, D, cy, Q -/
abbrev Kx : Type := Program × Launch × Env × Room × State × MethodId × Array Value × List Frame × Method × Code × (Nat → Prop) × va_G × (Nat → Nat) × (State → Prop)
abbrev Kx.p (κ : Kx) : Program := κ.1
abbrev Kx.l (κ : Kx) : Launch := κ.2.1
abbrev Kx.e (κ : Kx) : Env := κ.2.2.1
abbrev Kx.R (κ : Kx) : Room := κ.2.2.2.1
abbrev Kx.s (κ : Kx) : State := κ.2.2.2.2.1
abbrev Kx.m (κ : Kx) : MethodId := κ.2.2.2.2.2.1
abbrev Kx.args (κ : Kx) : Array Value := κ.2.2.2.2.2.2.1
abbrev Kx.below (κ : Kx) : List Frame := κ.2.2.2.2.2.2.2.1
abbrev Kx.meth (κ : Kx) : Method := κ.2.2.2.2.2.2.2.2.1
abbrev Kx.c (κ : Kx) : Code := κ.2.2.2.2.2.2.2.2.2.1
abbrev Kx.A (κ : Kx) : Nat → Prop := κ.2.2.2.2.2.2.2.2.2.2.1
abbrev Kx.D (κ : Kx) : va_G := κ.2.2.2.2.2.2.2.2.2.2.2.1
abbrev Kx.cy (κ : Kx) : Nat → Nat := κ.2.2.2.2.2.2.2.2.2.2.2.2.1
abbrev Kx.Q (κ : Kx) : State → Prop := κ.2.2.2.2.2.2.2.2.2.2.2.2.2
/-- the number of cells, where they lie, the room taken -/
abbrev Om : Type := Nat × (Nat → Nat) × Nat × Nat
/-- from here (pc, locals, stack, heap) the method comes to its end -/
def X (κ : Kx) (nL : Nat) (ω : Om) (pc : Nat) (lo : List (Option Value)) (st : List Value) (σ : Hp) : Prop :=
  ∀ (H : Heap) (locs : List Loc) (ls : Array Slot), lh ls nL ω.2.1 lo → va_P κ.D vwCl (wl κ.cy ω.1 ω.2.1 σ) H → va_D κ.A (wl κ.cy ω.1 ω.2.1 σ) → va_S κ.A κ.s.heap H locs →
    W κ.p κ.l κ.e κ.R κ.s κ.m κ.args κ.below κ.meth κ.c H locs ω.2.2.1 ω.2.2.2 κ.Q (F0 κ.m pc ls (st.map (cvV ω.2.1)))
/-- the machine, the code, the names: what each row needs -/
def Cx (κ : Kx) (nL lev : Nat) (cc : ByteArray) (own mnm : String) : Prop :=
  κ.p.tables.exec = Jvm.exec ∧ κ.c.code = cc ∧ κ.c.maxLocals = nL ∧ κ.s.vm.findClass own = some κ.m.cls ∧ Uni κ.s ∧ va_K κ.D vwCl (tyL κ.cy) κ.s ∧ κ.meth.locks = false ∧ (∀ q, κ.s.heap.size ≤ q → κ.A q) ∧ (lev ≤ κ.R.frames ∧ 40 * lev ≤ κ.R.locals) ∧ κ.meth.name = mnm
end
section
section Rows
variable {κ : Kx} {nL lev : Nat} {cc : ByteArray} {own mnm : String} {ω : Om} {pc : Nat} {lo : List (Option Value)} {st : List Value} {σ : Hp}
theorem x_iconst (C : Cx κ nL lev cc own mnm) {n : Int} {v : Int32} (hd : decode cc pc = .ok (.iconst n, 1)) (hv : Int32.ofInt n = v) (k : X κ nL ω (pc + 1) lo (.int v :: st) σ) : X κ nL ω (pc) lo (st) σ := by
  intro H locs ls hl hP hD hS
  exact lv_iconst C.1 C.2.1 hd hv (k H locs ls hl hP hD hS)
theorem x_bipush (C : Cx κ nL lev cc own mnm) {n : Int} {v : Int32} (hd : decode cc pc = .ok (.bipush n, 2)) (hv : (Int8.ofInt n).toInt32 = v) (k : X κ nL ω (pc + 2) lo (.int v :: st) σ) : X κ nL ω (pc) lo (st) σ := by
  intro H locs ls hl hP hD hS
  exact lv_bipush C.1 C.2.1 hd hv (k H locs ls hl hP hD hS)
theorem x_sipush (C : Cx κ nL lev cc own mnm) {n : Int} {v : Int32} (hd : decode cc pc = .ok (.sipush n, 3)) (hv : (Int16.ofInt n).toInt32 = v) (k : X κ nL ω (pc + 3) lo (.int v :: st) σ) : X κ nL ω (pc) lo (st) σ := by
  intro H locs ls hl hP hD hS
  exact lv_sipush C.1 C.2.1 hd hv (k H locs ls hl hP hD hS)
theorem x_lconst (C : Cx κ nL lev cc own mnm) {n : Fin 2} {v : Int64} (hd : decode cc pc = .ok (.lconst n, 1)) (hv : Int64.ofNat (n : Nat) = v) (k : X κ nL ω (pc + 1) lo (.long v :: st) σ) : X κ nL ω (pc) lo (st) σ := by
  intro H locs ls hl hP hD hS
  exact lv_lconst C.1 C.2.1 hd hv (k H locs ls hl hP hD hS)
theorem x_ldc (C : Cx κ nL lev cc own mnm) {i : Nat} {v : Int32} (hw : Cond.constant own i v ∈ TB) (hd : decode cc pc = .ok (.ldc i, 2)) (k : X κ nL ω (pc + 2) lo (.int v :: st) σ) : X κ nL ω (pc) lo (st) σ := by
  intro H locs ls hl hP hD hS
  exact lv_ldc C.1 C.2.1 C.2.2.2.1 (C.2.2.2.2.1 _ hw _) hd (k H locs ls hl hP hD hS)
theorem x_ldcw (C : Cx κ nL lev cc own mnm) {i : Nat} {v : Int32} (hw : Cond.constant own i v ∈ TB) (hd : decode cc pc = .ok (.ldc_w i, 3)) (k : X κ nL ω (pc + 3) lo (.int v :: st) σ) : X κ nL ω (pc) lo (st) σ := by
  intro H locs ls hl hP hD hS
  exact lv_ldcw C.1 C.2.1 C.2.2.2.1 (C.2.2.2.2.1 _ hw _) hd (k H locs ls hl hP hD hS)
theorem x_ldc2 (C : Cx κ nL lev cc own mnm) {i : Nat} {v : Int64} (hw : Cond.constantLong own i v ∈ TB) (hd : decode cc pc = .ok (.ldc2_w i, 3)) (k : X κ nL ω (pc + 3) lo (.long v :: st) σ) : X κ nL ω (pc) lo (st) σ := by
  intro H locs ls hl hP hD hS
  exact lv_ldc2 C.1 C.2.1 C.2.2.2.1 (C.2.2.2.2.1 _ hw _) hd (k H locs ls hl hP hD hS)
theorem x_null (C : Cx κ nL lev cc own mnm)  (hd : decode cc pc = .ok (.aconst_null, 1)) (k : X κ nL ω (pc + 1) lo (.null :: st) σ) : X κ nL ω (pc) lo (st) σ := by
  intro H locs ls hl hP hD hS
  exact lv_null C.1 C.2.1 hd (k H locs ls hl hP hD hS)
theorem x_iload_n (C : Cx κ nL lev cc own mnm) {k0 : Fin 4} {i : Nat} {x : Int32} (hd : decode cc pc = .ok (.iload_n k0, 1)) (hi : (k0 : Nat) = i) (hv : lo[i]? = some (some (.int x))) (k : X κ nL ω (pc + 1) lo (.int x :: st) σ) : X κ nL ω (pc) lo (st) σ := by
  intro H locs ls hl hP hD hS
  exact lv_iload_n C.1 C.2.1 hd hi (hl.2.2 i _ hv) (k H locs ls hl hP hD hS)
theorem x_iload (C : Cx κ nL lev cc own mnm) {i : Nat} {x : Int32} (hd : decode cc pc = .ok (.iload i, 2)) (hv : lo[i]? = some (some (.int x))) (k : X κ nL ω (pc + 2) lo (.int x :: st) σ) : X κ nL ω (pc) lo (st) σ := by
  intro H locs ls hl hP hD hS
  exact lv_iload C.1 C.2.1 hd (hl.2.2 i _ hv) (k H locs ls hl hP hD hS)
theorem x_lload_n (C : Cx κ nL lev cc own mnm) {k0 : Fin 4} {i : Nat} {x : Int64} (hd : decode cc pc = .ok (.lload_n k0, 1)) (hi : (k0 : Nat) = i) (hv : lo[i]? = some (some (.long x))) (k : X κ nL ω (pc + 1) lo (.long x :: st) σ) : X κ nL ω (pc) lo (st) σ := by
  intro H locs ls hl hP hD hS
  exact lv_lload_n C.1 C.2.1 hd hi (hl.2.2 i _ hv) (k H locs ls hl hP hD hS)
theorem x_lload (C : Cx κ nL lev cc own mnm) {i : Nat} {x : Int64} (hd : decode cc pc = .ok (.lload i, 2)) (hv : lo[i]? = some (some (.long x))) (k : X κ nL ω (pc + 2) lo (.long x :: st) σ) : X κ nL ω (pc) lo (st) σ := by
  intro H locs ls hl hP hD hS
  exact lv_lload C.1 C.2.1 hd (hl.2.2 i _ hv) (k H locs ls hl hP hD hS)
theorem x_aload_n (C : Cx κ nL lev cc own mnm) {k0 : Fin 4} {i : Nat} {x : Nat} (hd : decode cc pc = .ok (.aload_n k0, 1)) (hi : (k0 : Nat) = i) (hv : lo[i]? = some (some (.ref x))) (k : X κ nL ω (pc + 1) lo (.ref x :: st) σ) : X κ nL ω (pc) lo (st) σ := by
  intro H locs ls hl hP hD hS
  exact lv_aload_n C.1 C.2.1 hd hi (hl.2.2 i _ hv) (k H locs ls hl hP hD hS)
theorem x_aload (C : Cx κ nL lev cc own mnm) {i : Nat} {x : Nat} (hd : decode cc pc = .ok (.aload i, 2)) (hv : lo[i]? = some (some (.ref x))) (k : X κ nL ω (pc + 2) lo (.ref x :: st) σ) : X κ nL ω (pc) lo (st) σ := by
  intro H locs ls hl hP hD hS
  exact lv_aload C.1 C.2.1 hd (hl.2.2 i _ hv) (k H locs ls hl hP hD hS)
theorem x_aload_nN (C : Cx κ nL lev cc own mnm) {k0 : Fin 4} {i : Nat} (hd : decode cc pc = .ok (.aload_n k0, 1)) (hi : (k0 : Nat) = i) (hv : lo[i]? = some (some .null)) (k : X κ nL ω (pc + 1) lo (.null :: st) σ) : X κ nL ω (pc) lo (st) σ := by
  intro H locs ls hl hP hD hS
  exact lv_aload_nN C.1 C.2.1 hd hi (hl.2.2 i _ hv) (k H locs ls hl hP hD hS)
theorem x_aload_nQ (C : Cx κ nL lev cc own mnm) {k0 : Fin 4} {i : Nat} {q : Option Nat} (hd : decode cc pc = .ok (.aload_n k0, 1)) (hi : (k0 : Nat) = i) (hv : lo[i]? = some (some (va_rf q))) (k : X κ nL ω (pc + 1) lo (va_rf q :: st) σ) : X κ nL ω (pc) lo (st) σ := by
  cases q with
  | none => exact x_aload_nN C hd hi hv k
  | some r => exact x_aload_n C hd hi hv k
theorem x_aloadQ (C : Cx κ nL lev cc own mnm) {i : Nat} {q : Option Nat} (hd : decode cc pc = .ok (.aload i, 2)) (hv : lo[i]? = some (some (va_rf q))) (k : X κ nL ω (pc + 2) lo (va_rf q :: st) σ) : X κ nL ω (pc) lo (st) σ := by
  cases q with
  | none =>
    intro H locs ls hl hP hD hS
    exact lv_aloadN C.1 C.2.1 hd (hl.2.2 i _ hv) (k H locs ls hl hP hD hS)
  | some r => exact x_aload C hd hv k
theorem x_istore_n (C : Cx κ nL lev cc own mnm) {k0 : Fin 4} {i : Nat} {x : Int32} (hd : decode cc pc = .ok (.istore_n k0, 1)) (hi : (k0 : Nat) = i) (hn : i < nL) (hok : stOK lo i = true) (k : X κ nL ω (pc + 1) (lo.set i (some (.int x))) (st) σ) : X κ nL ω (pc) lo (.int x :: st) σ := by
  intro H locs ls hl hP hD hS
  exact lv_istore_n C.1 C.2.1 hd hi hl.has hn rfl (fun ls' h' => k H locs ls' (lh_st1 (v := .int x) hok h') hP hD hS)
theorem x_istore (C : Cx κ nL lev cc own mnm) {i : Nat} {x : Int32} (hd : decode cc pc = .ok (.istore i, 2)) (hn : i < nL) (hok : stOK lo i = true) (k : X κ nL ω (pc + 2) (lo.set i (some (.int x))) (st) σ) : X κ nL ω (pc) lo (.int x :: st) σ := by
  intro H locs ls hl hP hD hS
  exact lv_istore C.1 C.2.1 hd hl.has hn rfl (fun ls' h' => k H locs ls' (lh_st1 (v := .int x) hok h') hP hD hS)
theorem x_astore_n (C : Cx κ nL lev cc own mnm) {k0 : Fin 4} {i : Nat} {x : Nat} (hd : decode cc pc = .ok (.astore_n k0, 1)) (hi : (k0 : Nat) = i) (hn : i < nL) (hok : stOK lo i = true) (k : X κ nL ω (pc + 1) (lo.set i (some (.ref x))) (st) σ) : X κ nL ω (pc) lo (.ref x :: st) σ := by
  intro H locs ls hl hP hD hS
  exact lv_astore_n C.1 C.2.1 hd hi hl.has hn rfl (fun ls' h' => k H locs ls' (lh_st1 (v := .ref x) hok h') hP hD hS)
theorem x_astore (C : Cx κ nL lev cc own mnm) {i : Nat} {x : Nat} (hd : decode cc pc = .ok (.astore i, 2)) (hn : i < nL) (hok : stOK lo i = true) (k : X κ nL ω (pc + 2) (lo.set i (some (.ref x))) (st) σ) : X κ nL ω (pc) lo (.ref x :: st) σ := by
  intro H locs ls hl hP hD hS
  exact lv_astore C.1 C.2.1 hd hl.has hn rfl (fun ls' h' => k H locs ls' (lh_st1 (v := .ref x) hok h') hP hD hS)
theorem x_lstore_n (C : Cx κ nL lev cc own mnm) {k0 : Fin 4} {i : Nat} {x : Int64} (hd : decode cc pc = .ok (.lstore_n k0, 1)) (hi : (k0 : Nat) = i) (hn : i + 1 < nL) (hok : stOK lo i = true) (k : X κ nL ω (pc + 1) ((lo.set i (some (.long x))).set (i + 1) none) (st) σ) : X κ nL ω (pc) lo (.long x :: st) σ := by
  intro H locs ls hl hP hD hS
  exact lv_lstore_n C.1 C.2.1 hd hi hl.has hn rfl (fun ls' h' => k H locs ls' (lh_st2 (v := .long x) hok h') hP hD hS)
theorem x_lstore (C : Cx κ nL lev cc own mnm) {i : Nat} {x : Int64} (hd : decode cc pc = .ok (.lstore i, 2)) (hn : i + 1 < nL) (hok : stOK lo i = true) (k : X κ nL ω (pc + 2) ((lo.set i (some (.long x))).set (i + 1) none) (st) σ) : X κ nL ω (pc) lo (.long x :: st) σ := by
  intro H locs ls hl hP hD hS
  exact lv_lstore C.1 C.2.1 hd hl.has hn rfl (fun ls' h' => k H locs ls' (lh_st2 (v := .long x) hok h') hP hD hS)
theorem x_astore_nQ (C : Cx κ nL lev cc own mnm) {k0 : Fin 4} {i : Nat} {q : Option Nat} (hd : decode cc pc = .ok (.astore_n k0, 1)) (hi : (k0 : Nat) = i) (hn : i < nL) (hok : stOK lo i = true) (k : X κ nL ω (pc + 1) (lo.set i (some (va_rf q))) (st) σ) : X κ nL ω (pc) lo (va_rf q :: st) σ := by
  cases q with
  | none =>
    intro H locs ls hl hP hD hS
    exact lv_astore_nN C.1 C.2.1 hd hi hl.has hn rfl (fun ls' h' => k H locs ls' (lh_st1 (v := .null) hok h') hP hD hS)
  | some r => exact x_astore_n C hd hi hn hok k
theorem x_astoreQ (C : Cx κ nL lev cc own mnm) {i : Nat} {q : Option Nat} (hd : decode cc pc = .ok (.astore i, 2)) (hn : i < nL) (hok : stOK lo i = true) (k : X κ nL ω (pc + 2) (lo.set i (some (va_rf q))) (st) σ) : X κ nL ω (pc) lo (va_rf q :: st) σ := by
  cases q with
  | none =>
    intro H locs ls hl hP hD hS
    exact lv_astoreN C.1 C.2.1 hd hl.has hn rfl (fun ls' h' => k H locs ls' (lh_st1 (v := .null) hok h') hP hD hS)
  | some r => exact x_astore C hd hn hok k
theorem loA_at {ad : Nat → Nat} {lo : List (Option Value)} {i : Nat} {v : Value} (h : lo[i]? = some (some v)) : ∃ k : Nat, (loA ad lo)[k]? = some (i, cvV ad v) := List.getElem?_of_mem (loA_mem.mpr ⟨v, h, rfl⟩)
theorem x_iinc (C : Cx κ nL lev cc own mnm) {i : Nat} {n : Int} {x y : Int32} (hd : decode cc pc = .ok (.iinc i n, 3)) (hv : lo[i]? = some (some (.int x))) (hy : x + Int32.ofInt n = y) (hn : i < nL) (hok : stOK lo i = true) (k : X κ nL ω (pc + 3) (lo.set i (some (.int y))) (st) σ) : X κ nL ω (pc) lo (st) σ := by
  intro H locs ls hl hP hD hS
  obtain ⟨kk, hk⟩ := loA_at (ad := ω.2.1) hv
  exact lv_iinc C.1 C.2.1 hd hl.has hk hy hn rfl (fun ls' h' => k H locs ls' (lh_st1 (v := .int y) hok h') hP hD hS)
theorem x_iadd (C : Cx κ nL lev cc own mnm) {x y : Int32} (hd : decode cc pc = .ok (.iadd, 1)) (k : X κ nL ω (pc + 1) lo (.int (x + y) :: st) σ) : X κ nL ω (pc) lo (.int y :: .int x :: st) σ := by
  intro H locs ls hl hP hD hS
  exact lv_iadd C.1 C.2.1 hd (k H locs ls hl hP hD hS)
theorem x_isub (C : Cx κ nL lev cc own mnm) {x y : Int32} (hd : decode cc pc = .ok (.isub, 1)) (k : X κ nL ω (pc + 1) lo (.int (x - y) :: st) σ) : X κ nL ω (pc) lo (.int y :: .int x :: st) σ := by
  intro H locs ls hl hP hD hS
  exact lv_isub C.1 C.2.1 hd (k H locs ls hl hP hD hS)
theorem x_imul (C : Cx κ nL lev cc own mnm) {x y : Int32} (hd : decode cc pc = .ok (.imul, 1)) (k : X κ nL ω (pc + 1) lo (.int (x * y) :: st) σ) : X κ nL ω (pc) lo (.int y :: .int x :: st) σ := by
  intro H locs ls hl hP hD hS
  exact lv_imul C.1 C.2.1 hd (k H locs ls hl hP hD hS)
theorem x_iand (C : Cx κ nL lev cc own mnm) {x y : Int32} (hd : decode cc pc = .ok (.iand, 1)) (k : X κ nL ω (pc + 1) lo (.int (x &&& y) :: st) σ) : X κ nL ω (pc) lo (.int y :: .int x :: st) σ := by
  intro H locs ls hl hP hD hS
  exact lv_iand C.1 C.2.1 hd (k H locs ls hl hP hD hS)
theorem x_ior (C : Cx κ nL lev cc own mnm) {x y : Int32} (hd : decode cc pc = .ok (.ior, 1)) (k : X κ nL ω (pc + 1) lo (.int (x ||| y) :: st) σ) : X κ nL ω (pc) lo (.int y :: .int x :: st) σ := by
  intro H locs ls hl hP hD hS
  exact lv_ior C.1 C.2.1 hd (k H locs ls hl hP hD hS)
theorem x_ixor (C : Cx κ nL lev cc own mnm) {x y : Int32} (hd : decode cc pc = .ok (.ixor, 1)) (k : X κ nL ω (pc + 1) lo (.int (x ^^^ y) :: st) σ) : X κ nL ω (pc) lo (.int y :: .int x :: st) σ := by
  intro H locs ls hl hP hD hS
  exact lv_ixor C.1 C.2.1 hd (k H locs ls hl hP hD hS)
theorem x_ishl (C : Cx κ nL lev cc own mnm) {x y : Int32} (hd : decode cc pc = .ok (.ishl, 1)) (k : X κ nL ω (pc + 1) lo (.int (x <<< (y &&& 31)) :: st) σ) : X κ nL ω (pc) lo (.int y :: .int x :: st) σ := by
  intro H locs ls hl hP hD hS
  exact lv_ishl C.1 C.2.1 hd (k H locs ls hl hP hD hS)
theorem x_ishr (C : Cx κ nL lev cc own mnm) {x y : Int32} (hd : decode cc pc = .ok (.ishr, 1)) (k : X κ nL ω (pc + 1) lo (.int (x >>> (y &&& 31)) :: st) σ) : X κ nL ω (pc) lo (.int y :: .int x :: st) σ := by
  intro H locs ls hl hP hD hS
  exact lv_ishr C.1 C.2.1 hd (k H locs ls hl hP hD hS)
theorem x_ladd (C : Cx κ nL lev cc own mnm) {x y : Int64} (hd : decode cc pc = .ok (.ladd, 1)) (k : X κ nL ω (pc + 1) lo (.long (x + y) :: st) σ) : X κ nL ω (pc) lo (.long y :: .long x :: st) σ := by
  intro H locs ls hl hP hD hS
  exact lv_ladd C.1 C.2.1 hd (k H locs ls hl hP hD hS)
theorem x_lmul (C : Cx κ nL lev cc own mnm) {x y : Int64} (hd : decode cc pc = .ok (.lmul, 1)) (k : X κ nL ω (pc + 1) lo (.long (x * y) :: st) σ) : X κ nL ω (pc) lo (.long y :: .long x :: st) σ := by
  intro H locs ls hl hP hD hS
  exact lv_lmul C.1 C.2.1 hd (k H locs ls hl hP hD hS)
theorem x_lsub (C : Cx κ nL lev cc own mnm) {x y : Int64} (hd : decode cc pc = .ok (.lsub, 1)) (k : X κ nL ω (pc + 1) lo (.long (x - y) :: st) σ) : X κ nL ω (pc) lo (.long y :: .long x :: st) σ := by
  intro H locs ls hl hP hD hS
  exact lv_lsub C.1 C.2.1 hd (k H locs ls hl hP hD hS)
theorem x_idiv (C : Cx κ nL lev cc own mnm) {x y : Int32} (hd : decode cc pc = .ok (.idiv, 1)) (hne : ¬ y = 0) (k : X κ nL ω (pc + 1) lo (.int (x / y) :: st) σ) : X κ nL ω (pc) lo (.int y :: .int x :: st) σ := by
  intro H locs ls hl hP hD hS
  exact lv_idiv C.1 C.2.1 hd hne (k H locs ls hl hP hD hS)
theorem x_irem (C : Cx κ nL lev cc own mnm) {x y : Int32} (hd : decode cc pc = .ok (.irem, 1)) (hne : ¬ y = 0) (k : X κ nL ω (pc + 1) lo (.int (x - x / y * y) :: st) σ) : X κ nL ω (pc) lo (.int y :: .int x :: st) σ := by
  intro H locs ls hl hP hD hS
  exact lv_irem C.1 C.2.1 hd hne (k H locs ls hl hP hD hS)
theorem x_ldiv (C : Cx κ nL lev cc own mnm) {x y : Int64} (hd : decode cc pc = .ok (.ldiv, 1)) (hne : ¬ y = 0) (k : X κ nL ω (pc + 1) lo (.long (x / y) :: st) σ) : X κ nL ω (pc) lo (.long y :: .long x :: st) σ := by
  intro H locs ls hl hP hD hS
  exact lv_ldiv C.1 C.2.1 hd hne (k H locs ls hl hP hD hS)
theorem x_lrem (C : Cx κ nL lev cc own mnm) {x y : Int64} (hd : decode cc pc = .ok (.lrem, 1)) (hne : ¬ y = 0) (k : X κ nL ω (pc + 1) lo (.long (x - x / y * y) :: st) σ) : X κ nL ω (pc) lo (.long y :: .long x :: st) σ := by
  intro H locs ls hl hP hD hS
  exact lv_lrem C.1 C.2.1 hd hne (k H locs ls hl hP hD hS)
theorem x_ineg (C : Cx κ nL lev cc own mnm) {x : Int32} (hd : decode cc pc = .ok (.ineg, 1)) (k : X κ nL ω (pc + 1) lo (.int (-x) :: st) σ) : X κ nL ω (pc) lo (.int x :: st) σ := by
  intro H locs ls hl hP hD hS
  exact lv_ineg C.1 C.2.1 hd (k H locs ls hl hP hD hS)
theorem x_iushr (C : Cx κ nL lev cc own mnm) {x y : Int32} (hd : decode cc pc = .ok (.iushr, 1)) (k : X κ nL ω (pc + 1) lo (.int ((x.toUInt32 >>> (y.toUInt32 &&& Int32.toUInt32 31)).toInt32) :: st) σ) : X κ nL ω (pc) lo (.int y :: .int x :: st) σ := by
  intro H locs ls hl hP hD hS
  exact lv_iushr C.1 C.2.1 hd rfl (k H locs ls hl hP hD hS)
theorem x_i2l (C : Cx κ nL lev cc own mnm) {x : Int32} (hd : decode cc pc = .ok (.i2l, 1)) (k : X κ nL ω (pc + 1) lo (.long x.toInt64 :: st) σ) : X κ nL ω (pc) lo (.int x :: st) σ := by
  intro H locs ls hl hP hD hS
  exact lv_i2l C.1 C.2.1 hd rfl (k H locs ls hl hP hD hS)
theorem x_l2i (C : Cx κ nL lev cc own mnm) {x : Int64} (hd : decode cc pc = .ok (.l2i, 1)) (k : X κ nL ω (pc + 1) lo (.int x.toInt32 :: st) σ) : X κ nL ω (pc) lo (.long x :: st) σ := by
  intro H locs ls hl hP hD hS
  exact lv_l2i C.1 C.2.1 hd rfl (k H locs ls hl hP hD hS)
theorem x_i2b (C : Cx κ nL lev cc own mnm) {x : Int32} (hd : decode cc pc = .ok (.i2b, 1)) (k : X κ nL ω (pc + 1) lo (.int x.toInt8.toInt32 :: st) σ) : X κ nL ω (pc) lo (.int x :: st) σ := by
  intro H locs ls hl hP hD hS
  exact lv_i2b C.1 C.2.1 hd rfl (k H locs ls hl hP hD hS)
theorem x_i2s (C : Cx κ nL lev cc own mnm) {x : Int32} (hd : decode cc pc = .ok (.i2s, 1)) (k : X κ nL ω (pc + 1) lo (.int x.toInt16.toInt32 :: st) σ) : X κ nL ω (pc) lo (.int x :: st) σ := by
  intro H locs ls hl hP hD hS
  exact lv_i2s C.1 C.2.1 hd rfl (k H locs ls hl hP hD hS)
theorem x_lcmp (C : Cx κ nL lev cc own mnm) {x y : Int64} (hd : decode cc pc = .ok (.lcmp, 1)) (k : X κ nL ω (pc + 1) lo (.int (lg_cmp x y) :: st) σ) : X κ nL ω (pc) lo (.long y :: .long x :: st) σ := by
  intro H locs ls hl hP hD hS
  exact W.lcmp C.1 C.2.1 hd (k H locs ls hl hP hD hS)
theorem x_dup (C : Cx κ nL lev cc own mnm) {v : Value} (hd : decode cc pc = .ok (.dup, 1)) (hc : v.category = 1) (k : X κ nL ω (pc + 1) lo (v :: v :: st) σ) : X κ nL ω (pc) lo (v :: st) σ := by
  intro H locs ls hl hP hD hS
  exact lv_dup C.1 C.2.1 hd (by rw [cvV_cat]; exact hc) (k H locs ls hl hP hD hS)
theorem x_pop (C : Cx κ nL lev cc own mnm) {v : Value} (hd : decode cc pc = .ok (.pop, 1)) (hc : v.category = 1) (k : X κ nL ω (pc + 1) lo (st) σ) : X κ nL ω (pc) lo (v :: st) σ := by
  intro H locs ls hl hP hD hS
  exact lv_pop C.1 C.2.1 hd (by rw [cvV_cat]; exact hc) (k H locs ls hl hP hD hS)
theorem x_dup2 (C : Cx κ nL lev cc own mnm) {v w : Value} (hd : decode cc pc = .ok (.dup2, 1)) (hc : v.category = 1) (hc2 : w.category = 1) (k : X κ nL ω (pc + 1) lo (v :: w :: v :: w :: st) σ) : X κ nL ω (pc) lo (v :: w :: st) σ := by
  intro H locs ls hl hP hD hS
  exact lv_dup2_11 C.1 C.2.1 hd (by rw [cvV_cat]; exact hc) (by rw [cvV_cat]; exact hc2) (k H locs ls hl hP hD hS)
theorem x_topi {x : Int32} (k : ∀ y : Int32, y = x → X κ nL ω (pc) lo (.int y :: st) σ) : X κ nL ω (pc) lo (.int x :: st) σ := k x rfl
theorem x_topl {x : Int64} (k : ∀ y : Int64, y = x → X κ nL ω (pc) lo (.long y :: st) σ) : X κ nL ω (pc) lo (.long x :: st) σ := k x rfl
theorem x_if_eq (C : Cx κ nL lev cc own mnm) {x : Int32} {off : Int} {tgt : Nat} (hd : decode cc pc = .ok (.ifCond .eq off, 3)) (ht : (pc : Int) + off = (tgt : Int)) (kt : x = 0 → X κ nL ω (tgt) lo (st) σ) (kf : ¬ (x = 0) → X κ nL ω (pc + 3) lo (st) σ) : X κ nL ω (pc) lo (.int x :: st) σ := by
  intro H locs ls hl hP hD hS
  exact lv_if_eq C.1 C.2.1 hd ht (fun h => kt h H locs ls hl hP hD hS) (fun h => kf h H locs ls hl hP hD hS)
theorem x_if_ne (C : Cx κ nL lev cc own mnm) {x : Int32} {off : Int} {tgt : Nat} (hd : decode cc pc = .ok (.ifCond .ne off, 3)) (ht : (pc : Int) + off = (tgt : Int)) (kt : ¬ x = 0 → X κ nL ω (tgt) lo (st) σ) (kf : x = 0 → X κ nL ω (pc + 3) lo (st) σ) : X κ nL ω (pc) lo (.int x :: st) σ := by
  intro H locs ls hl hP hD hS
  exact lv_if_ne C.1 C.2.1 hd ht (fun h => kt h H locs ls hl hP hD hS) (fun h => kf h H locs ls hl hP hD hS)
theorem x_if_lt (C : Cx κ nL lev cc own mnm) {x : Int32} {off : Int} {tgt : Nat} (hd : decode cc pc = .ok (.ifCond .lt off, 3)) (ht : (pc : Int) + off = (tgt : Int)) (kt : x < 0 → X κ nL ω (tgt) lo (st) σ) (kf : ¬ (x < 0) → X κ nL ω (pc + 3) lo (st) σ) : X κ nL ω (pc) lo (.int x :: st) σ := by
  intro H locs ls hl hP hD hS
  exact lv_if_lt C.1 C.2.1 hd ht (fun h => kt h H locs ls hl hP hD hS) (fun h => kf h H locs ls hl hP hD hS)
theorem x_if_ge (C : Cx κ nL lev cc own mnm) {x : Int32} {off : Int} {tgt : Nat} (hd : decode cc pc = .ok (.ifCond .ge off, 3)) (ht : (pc : Int) + off = (tgt : Int)) (kt : 0 ≤ x → X κ nL ω (tgt) lo (st) σ) (kf : ¬ (0 ≤ x) → X κ nL ω (pc + 3) lo (st) σ) : X κ nL ω (pc) lo (.int x :: st) σ := by
  intro H locs ls hl hP hD hS
  exact lv_if_ge C.1 C.2.1 hd ht (fun h => kt h H locs ls hl hP hD hS) (fun h => kf h H locs ls hl hP hD hS)
theorem x_if_gt (C : Cx κ nL lev cc own mnm) {x : Int32} {off : Int} {tgt : Nat} (hd : decode cc pc = .ok (.ifCond .gt off, 3)) (ht : (pc : Int) + off = (tgt : Int)) (kt : 0 < x → X κ nL ω (tgt) lo (st) σ) (kf : ¬ (0 < x) → X κ nL ω (pc + 3) lo (st) σ) : X κ nL ω (pc) lo (.int x :: st) σ := by
  intro H locs ls hl hP hD hS
  exact lv_if_gt C.1 C.2.1 hd ht (fun h => kt h H locs ls hl hP hD hS) (fun h => kf h H locs ls hl hP hD hS)
theorem x_if_le (C : Cx κ nL lev cc own mnm) {x : Int32} {off : Int} {tgt : Nat} (hd : decode cc pc = .ok (.ifCond .le off, 3)) (ht : (pc : Int) + off = (tgt : Int)) (kt : x ≤ 0 → X κ nL ω (tgt) lo (st) σ) (kf : ¬ (x ≤ 0) → X κ nL ω (pc + 3) lo (st) σ) : X κ nL ω (pc) lo (.int x :: st) σ := by
  intro H locs ls hl hP hD hS
  exact lv_if_le C.1 C.2.1 hd ht (fun h => kt h H locs ls hl hP hD hS) (fun h => kf h H locs ls hl hP hD hS)
theorem x_icmp_eq (C : Cx κ nL lev cc own mnm) {x y : Int32} {off : Int} {tgt : Nat} (hd : decode cc pc = .ok (.if_icmp .eq off, 3)) (ht : (pc : Int) + off = (tgt : Int)) (kt : x = y → X κ nL ω (tgt) lo (st) σ) (kf : ¬ (x = y) → X κ nL ω (pc + 3) lo (st) σ) : X κ nL ω (pc) lo (.int y :: .int x :: st) σ := by
  intro H locs ls hl hP hD hS
  exact lv_icmp_eq C.1 C.2.1 hd ht (fun h => kt h H locs ls hl hP hD hS) (fun h => kf h H locs ls hl hP hD hS)
theorem x_icmp_ne (C : Cx κ nL lev cc own mnm) {x y : Int32} {off : Int} {tgt : Nat} (hd : decode cc pc = .ok (.if_icmp .ne off, 3)) (ht : (pc : Int) + off = (tgt : Int)) (kt : ¬ x = y → X κ nL ω (tgt) lo (st) σ) (kf : x = y → X κ nL ω (pc + 3) lo (st) σ) : X κ nL ω (pc) lo (.int y :: .int x :: st) σ := by
  intro H locs ls hl hP hD hS
  exact lv_icmp_ne C.1 C.2.1 hd ht (fun h => kt h H locs ls hl hP hD hS) (fun h => kf h H locs ls hl hP hD hS)
theorem x_icmp_lt (C : Cx κ nL lev cc own mnm) {x y : Int32} {off : Int} {tgt : Nat} (hd : decode cc pc = .ok (.if_icmp .lt off, 3)) (ht : (pc : Int) + off = (tgt : Int)) (kt : x < y → X κ nL ω (tgt) lo (st) σ) (kf : ¬ (x < y) → X κ nL ω (pc + 3) lo (st) σ) : X κ nL ω (pc) lo (.int y :: .int x :: st) σ := by
  intro H locs ls hl hP hD hS
  exact lv_icmp_lt C.1 C.2.1 hd ht (fun h => kt h H locs ls hl hP hD hS) (fun h => kf h H locs ls hl hP hD hS)
theorem x_icmp_ge (C : Cx κ nL lev cc own mnm) {x y : Int32} {off : Int} {tgt : Nat} (hd : decode cc pc = .ok (.if_icmp .ge off, 3)) (ht : (pc : Int) + off = (tgt : Int)) (kt : y ≤ x → X κ nL ω (tgt) lo (st) σ) (kf : ¬ (y ≤ x) → X κ nL ω (pc + 3) lo (st) σ) : X κ nL ω (pc) lo (.int y :: .int x :: st) σ := by
  intro H locs ls hl hP hD hS
  exact lv_icmp_ge C.1 C.2.1 hd ht (fun h => kt h H locs ls hl hP hD hS) (fun h => kf h H locs ls hl hP hD hS)
theorem x_icmp_gt (C : Cx κ nL lev cc own mnm) {x y : Int32} {off : Int} {tgt : Nat} (hd : decode cc pc = .ok (.if_icmp .gt off, 3)) (ht : (pc : Int) + off = (tgt : Int)) (kt : y < x → X κ nL ω (tgt) lo (st) σ) (kf : ¬ (y < x) → X κ nL ω (pc + 3) lo (st) σ) : X κ nL ω (pc) lo (.int y :: .int x :: st) σ := by
  intro H locs ls hl hP hD hS
  exact lv_icmp_gt C.1 C.2.1 hd ht (fun h => kt h H locs ls hl hP hD hS) (fun h => kf h H locs ls hl hP hD hS)
theorem x_icmp_le (C : Cx κ nL lev cc own mnm) {x y : Int32} {off : Int} {tgt : Nat} (hd : decode cc pc = .ok (.if_icmp .le off, 3)) (ht : (pc : Int) + off = (tgt : Int)) (kt : x ≤ y → X κ nL ω (tgt) lo (st) σ) (kf : ¬ (x ≤ y) → X κ nL ω (pc + 3) lo (st) σ) : X κ nL ω (pc) lo (.int y :: .int x :: st) σ := by
  intro H locs ls hl hP hD hS
  exact lv_icmp_le C.1 C.2.1 hd ht (fun h => kt h H locs ls hl hP hD hS) (fun h => kf h H locs ls hl hP hD hS)
theorem x_goto (C : Cx κ nL lev cc own mnm) {off : Int} {tgt : Nat} (hd : decode cc pc = .ok (.goto off, 3)) (ht : (pc : Int) + off = (tgt : Int)) (k : X κ nL ω (tgt) lo (st) σ) : X κ nL ω (pc) lo (st) σ := by
  intro H locs ls hl hP hD hS
  exact lv_goto C.1 C.2.1 hd ht (k H locs ls hl hP hD hS)
theorem x_ifnull (C : Cx κ nL lev cc own mnm) {q : Option Nat} {off : Int} {tgt : Nat} (hd : decode cc pc = .ok (.ifnull off, 3)) (ht : (pc : Int) + off = (tgt : Int)) (kt : q = none → X κ nL ω (tgt) lo (st) σ) (kf : ∀ r, q = some r → X κ nL ω (pc + 3) lo (st) σ) : X κ nL ω (pc) lo (va_rf q :: st) σ := by
  intro H locs ls hl hP hD hS
  cases q with
  | none => exact lv_ifnullN C.1 C.2.1 hd ht (kt rfl H locs ls hl hP hD hS)
  | some r => exact lv_ifnull C.1 C.2.1 hd (kf r rfl H locs ls hl hP hD hS)
theorem x_ifnonnull (C : Cx κ nL lev cc own mnm) {q : Option Nat} {off : Int} {tgt : Nat} (hd : decode cc pc = .ok (.ifnonnull off, 3)) (ht : (pc : Int) + off = (tgt : Int)) (kt : ∀ r, q = some r → X κ nL ω (tgt) lo (st) σ) (kf : q = none → X κ nL ω (pc + 3) lo (st) σ) : X κ nL ω (pc) lo (va_rf q :: st) σ := by
  intro H locs ls hl hP hD hS
  cases q with
  | none => exact lv_ifnonnullN C.1 C.2.1 hd (kf rfl H locs ls hl hP hD hS)
  | some r => exact lv_ifnonnull C.1 C.2.1 hd ht (kt r rfl H locs ls hl hP hD hS)
theorem x_lookup (C : Cx κ nL lev cc own mnm) {dflt : Int} {ps : Array (Int × Int)} {len : Nat} {x : Int32} {off : Int} {tgt : Nat} (hd : decode cc pc = .ok (.lookupswitch dflt ps, len)) (hp : (ps.toList.zip (ps.toList.drop 1)).all (fun (a, next) => a.1 < next.1) = true) (ho : Op.lookupswitch.offset ps.toList dflt x.toInt = off) (ht : (pc : Int) + off = (tgt : Int)) (k : X κ nL ω tgt lo st σ) : X κ nL ω pc lo (.int x :: st) σ := by
  intro H locs ls hl hP hD hS
  exact lv_lookup C.1 C.2.1 hd hp ho ht (k H locs ls hl hP hD hS)
theorem x_tableOut (C : Cx κ nL lev cc own mnm) {dflt lo1 hi : Int} {offs : Array Int} {len : Nat} {x : Int32} {tgt : Nat} (hd : decode cc pc = .ok (.tableswitch dflt lo1 hi offs, len)) (h : x.toInt < lo1 ∨ hi < x.toInt) (ht : (pc : Int) + dflt = (tgt : Int)) (k : X κ nL ω tgt lo st σ) : X κ nL ω pc lo (.int x :: st) σ := by
  intro H locs ls hl hP hD hS
  exact lv_tableOut C.1 C.2.1 hd h ht (k H locs ls hl hP hD hS)
theorem x_tableIn (C : Cx κ nL lev cc own mnm) {dflt lo1 hi : Int} {offs : Array Int} {len : Nat} {x : Int32} {off : Int} {tgt : Nat} (hd : decode cc pc = .ok (.tableswitch dflt lo1 hi offs, len)) (h1 : ¬ x.toInt < lo1) (h2 : ¬ hi < x.toInt) (ho : offs[(x.toInt - lo1).toNat]? = some off) (ht : (pc : Int) + off = (tgt : Int)) (k : X κ nL ω tgt lo st σ) : X κ nL ω pc lo (.int x :: st) σ := by
  intro H locs ls hl hP hD hS
  exact lv_tableIn C.1 C.2.1 hd h1 h2 ho ht (k H locs ls hl hP hD hS)
end Rows
end
section
/-! reading and writing the heap by numbers; 'none' where the machine would throw -/
def gV (N : Nat) (σ : Hp) (i ci j : Nat) : Option Value := if i < N then (match σ i with
  | .inr o => if o.1 = ci then o.2[j]? else none
  | .inl _ => none) else none
def asI : Value → Option Int32
  | .int x => some x
  | _ => none
def asR : Value → Option Nat
  | .ref x => some x
  | _ => none
def asQ : Value → Option (Option Nat)
  | .ref x => some (some x)
  | .null => some none
  | _ => none
def gI (N : Nat) (σ : Hp) (i ci j : Nat) : Option Int32 := (gV N σ i ci j).bind asI
def gR (N : Nat) (σ : Hp) (i ci j : Nat) : Option Nat := (gV N σ i ci j).bind asR
def gQ (N : Nat) (σ : Hp) (i ci j : Nat) : Option (Option Nat) := (gV N σ i ci j).bind asQ
def pV (N : Nat) (σ : Hp) (i ci j : Nat) (v : Value) : Option Hp := if i < N then (match σ i with
  | .inr o => if o.1 = ci ∧ j < o.2.length then some (va_up σ i (.inr (ci, o.2.set j v))) else none
  | .inl _ => none) else none
def aI (t N : Nat) (σ : Hp) (i : Nat) (x : Int32) : Option Int32 := if i < N then (match σ i with
  | .inl (c, n, .inl f) => if c = t ∧ ¬ (x < 0 ∨ n ≤ x.toNatClampNeg) then some (f x.toNatClampNeg) else none
  | _ => none) else none
def aJ (N : Nat) (σ : Hp) (i : Nat) (x : Int32) : Option Int64 := if i < N then (match σ i with
  | .inl (c, n, .inr (.inl f)) => if c = 1 ∧ ¬ (x < 0 ∨ n ≤ x.toNatClampNeg) then some (f x.toNatClampNeg) else none
  | _ => none) else none
def aR (t N : Nat) (σ : Hp) (i : Nat) (x : Int32) : Option Nat := if i < N then (match σ i with
  | .inl (c, n, .inr (.inr (.inr (.inr f)))) => if c = t ∧ ¬ (x < 0 ∨ n ≤ x.toNatClampNeg) then f x.toNatClampNeg else none
  | _ => none) else none
def nar (t : Nat) (v : Int32) : Int32 := if t = 2 then vp_nar .byte v else if t = 3 then vp_nar .boolean v else v
def sI (t N : Nat) (σ : Hp) (i : Nat) (x v : Int32) : Option Hp := if i < N then (match σ i with
  | .inl (c, n, .inl f) => if c = t ∧ ¬ (x < 0 ∨ n ≤ x.toNatClampNeg) then some (va_up σ i (.inl (c, n, .inl (upd f x.toNatClampNeg (nar t v))))) else none
  | _ => none) else none
def sJ (N : Nat) (σ : Hp) (i : Nat) (x : Int32) (v : Int64) : Option Hp := if i < N then (match σ i with
  | .inl (c, n, .inr (.inl f)) => if c = 1 ∧ ¬ (x < 0 ∨ n ≤ x.toNatClampNeg) then some (va_up σ i (.inl (c, n, .inr (.inl (vp_updL f x.toNatClampNeg v))))) else none
  | _ => none) else none
def aN (N : Nat) (σ : Hp) (i : Nat) : Option Nat := if i < N then (match σ i with
  | .inl a => if a.1 < 6 then some a.2.1 else none
  | .inr _ => none) else none
theorem ob {α β : Type} {o : Option α} {f : α → Option β} {r : β} (h : o.bind f = some r) : ∃ x, o = some x ∧ f x = some r := by
  cases o with
  | none => cases h
  | some x => exact ⟨x, rfl, h⟩
def lt {α β : Type} (a : α) (f : α → β) : β := f a
theorem lt_e {α β : Type} {a : α} {f : α → β} {r : β} (h : lt a f = r) {x : α} (e : x = a) : f x = r := by subst e; exact h
theorem ifP {α : Type} {c : Prop} {d : Decidable c} {a b r : α} (h : @ite α c d a b = r) (hc : c) : a = r := by rw [if_pos hc] at h; exact h
theorem ifN {α : Type} {c : Prop} {d : Decidable c} {a b r : α} (h : @ite α c d a b = r) (hc : ¬ c) : b = r := by rw [if_neg hc] at h; exact h
theorem gV_spec {N : Nat} {σ : Hp} {i ci j : Nat} {v : Value} (h : gV N σ i ci j = some v) : i < N ∧ ∃ fs, σ i = .inr (ci, fs) ∧ fs[j]? = some v := by
  unfold gV at h
  split at h
  case isFalse => cases h
  case isTrue hi =>
    refine ⟨hi, ?_⟩
    split at h
    case h_2 => cases h
    case h_1 o ho =>
      split at h
      case isFalse => cases h
      case isTrue hc => exact ⟨o.2, by rw [ho, ← hc], h⟩
theorem gI_spec {N : Nat} {σ : Hp} {i ci j : Nat} {x : Int32} (h : gI N σ i ci j = some x) : gV N σ i ci j = some (.int x) := by
  obtain ⟨v, h1, h2⟩ := ob h
  cases v <;> simp [asI] at h2
  rw [h1, h2]
theorem gR_spec {N : Nat} {σ : Hp} {i ci j : Nat} {x : Nat} (h : gR N σ i ci j = some x) : gV N σ i ci j = some (.ref x) := by
  obtain ⟨v, h1, h2⟩ := ob h
  cases v <;> simp [asR] at h2
  rw [h1, h2]
theorem gQ_spec {N : Nat} {σ : Hp} {i ci j : Nat} {x : Option Nat} (h : gQ N σ i ci j = some x) : gV N σ i ci j = some (va_rf x) := by
  obtain ⟨v, h1, h2⟩ := ob h
  cases v <;> simp [asQ] at h2
  · rw [h1, ← h2]; rfl
  · rw [h1, ← h2]; rfl
theorem pV_spec {N : Nat} {σ σ' : Hp} {i ci j : Nat} {v : Value} (h : pV N σ i ci j v = some σ') : i < N ∧ ∃ fs, σ i = .inr (ci, fs) ∧ j < fs.length ∧ σ' = va_up σ i (.inr (ci, fs.set j v)) := by
  unfold pV at h
  split at h
  case isFalse => cases h
  case isTrue hi =>
    refine ⟨hi, ?_⟩
    split at h
    case h_2 => cases h
    case h_1 o ho =>
      split at h
      case isFalse => cases h
      case isTrue hc =>
        cases h
        exact ⟨o.2, by rw [ho, ← hc.1], hc.2, rfl⟩
theorem aI_spec {t N : Nat} {σ : Hp} {i : Nat} {x y : Int32} (h : aI t N σ i x = some y) : i < N ∧ ∃ n f, σ i = .inl (t, n, .inl f) ∧ vp_in x n ∧ y = f x.toNatClampNeg := by
  unfold aI at h
  split at h
  case isFalse => cases h
  case isTrue hi =>
    refine ⟨hi, ?_⟩
    split at h
    case h_2 => cases h
    case h_1 c n f ho =>
      split at h
      case isFalse => cases h
      case isTrue hc =>
        cases h
        exact ⟨n, f, by rw [ho, ← hc.1], hc.2, rfl⟩
theorem aJ_spec {N : Nat} {σ : Hp} {i : Nat} {x : Int32} {y : Int64} (h : aJ N σ i x = some y) : i < N ∧ ∃ n f, σ i = .inl (1, n, .inr (.inl f)) ∧ vp_in x n ∧ y = f x.toNatClampNeg := by
  unfold aJ at h
  split at h
  case isFalse => cases h
  case isTrue hi =>
    refine ⟨hi, ?_⟩
    split at h
    case h_2 => cases h
    case h_1 c n f ho =>
      split at h
      case isFalse => cases h
      case isTrue hc =>
        cases h
        exact ⟨n, f, by rw [ho, ← hc.1], hc.2, rfl⟩
theorem aR_spec {t N : Nat} {σ : Hp} {i : Nat} {x : Int32} {y : Nat} (h : aR t N σ i x = some y) : i < N ∧ ∃ n f, σ i = .inl (t, n, .inr (.inr (.inr (.inr f)))) ∧ vp_in x n ∧ f x.toNatClampNeg = some y := by
  unfold aR at h
  split at h
  case isFalse => cases h
  case isTrue hi =>
    refine ⟨hi, ?_⟩
    split at h
    case h_2 => cases h
    case h_1 c n f ho =>
      split at h
      case isFalse => cases h
      case isTrue hc =>
        exact ⟨n, f, by rw [ho, ← hc.1], hc.2, h⟩
theorem sI_spec {t N : Nat} {σ σ' : Hp} {i : Nat} {x v : Int32} (h : sI t N σ i x v = some σ') : i < N ∧ ∃ n f, σ i = .inl (t, n, .inl f) ∧ vp_in x n ∧ σ' = va_up σ i (.inl (t, n, .inl (upd f x.toNatClampNeg (nar t v)))) := by
  unfold sI at h
  split at h
  case isFalse => cases h
  case isTrue hi =>
    refine ⟨hi, ?_⟩
    split at h
    case h_2 => cases h
    case h_1 c n f ho =>
      split at h
      case isFalse => cases h
      case isTrue hc =>
        cases h
        exact ⟨n, f, by rw [ho, ← hc.1], hc.2, by rw [hc.1]⟩
theorem sJ_spec {N : Nat} {σ σ' : Hp} {i : Nat} {x : Int32} {v : Int64} (h : sJ N σ i x v = some σ') : i < N ∧ ∃ n f, σ i = .inl (1, n, .inr (.inl f)) ∧ vp_in x n ∧ σ' = va_up σ i (.inl (1, n, .inr (.inl (vp_updL f x.toNatClampNeg v)))) := by
  unfold sJ at h
  split at h
  case isFalse => cases h
  case isTrue hi =>
    refine ⟨hi, ?_⟩
    split at h
    case h_2 => cases h
    case h_1 c n f ho =>
      split at h
      case isFalse => cases h
      case isTrue hc =>
        cases h
        exact ⟨n, f, by rw [ho, ← hc.1], hc.2, by rw [hc.1]⟩
theorem aN_spec {N : Nat} {σ : Hp} {i n : Nat} (h : aN N σ i = some n) : i < N ∧ ∃ (c : Nat) (x : (Nat → Int32) ⊕ (Nat → Int64) ⊕ (Nat → UInt32) ⊕ (Nat → UInt64) ⊕ (Nat → Option Nat)), σ i = .inl (c, n, x) ∧ c < 6 := by
  unfold aN at h
  split at h
  case isFalse => cases h
  case isTrue hi =>
    refine ⟨hi, ?_⟩
    split at h
    case h_2 => cases h
    case h_1 a ho =>
      split at h
      case isFalse => cases h
      case isTrue hc => cases h; exact ⟨a.1, a.2.2, ho, hc⟩
/-! links: what the words say of a place of the pool -/
def CI (ci : Nat) (C : String) (T : u_T) (n : Nat) (ty : Nat → FieldType) : Prop := vwCl[ci]? = some (C, T, n) ∧ (∀ w ∈ u_ws C T n, w ∈ TB) ∧ (∀ k, k < n → parseFieldDescriptor (T k).2.2.1 = some (ty k)) ∧ (∀ a, a < n → ∀ b, b < n → a ≠ b → (T a).2.1 ≠ (T b).2.1)
def FL (own : String) (idx ci j : Nat) : Prop := ∃ C T n ty, CI ci C T n ty ∧ j < n ∧ (Cond.fieldLink own idx (T j).1 (T j).2.1 (T j).2.2.1 ∈ TB ∨ ∃ host, Cond.fieldLinkNest own idx (T j).1 (T j).2.1 (T j).2.2.1 host ∈ TB)
def PL (own : String) (idx ci j : Nat) (t : FieldType) : Prop := ∃ C T n ty, CI ci C T n ty ∧ j < n ∧ (Cond.fieldLink own idx (T j).1 (T j).2.1 (T j).2.2.1 ∈ TB ∨ ∃ host, Cond.fieldLinkNest own idx (T j).1 (T j).2.1 (T j).2.2.1 host ∈ TB) ∧ (T j).2.2.2 = false ∧ parseFieldDescriptor (T j).2.2.1 = some t
def PF (own : String) (idx ci j : Nat) (t : FieldType) : Prop := ∃ C T n ty, CI ci C T n ty ∧ j < n ∧ Cond.fieldLink own idx (T j).1 (T j).2.1 (T j).2.2.1 ∈ TB ∧ (T j).2.2.2 = true ∧ (T j).1 = own ∧ parseFieldDescriptor (T j).2.2.1 = some t
theorem cvV_rf (ad : Nat → Nat) (q : Option Nat) : cvV ad (va_rf q) = va_rf (q.map ad) := by cases q <;> rfl
section HeapRows
variable {κ : Kx} {nL lev : Nat} {cc : ByteArray} {own mnm : String} {ω : Om} {pc : Nat} {lo : List (Option Value)} {st : List Value} {σ : Hp}
theorem x_getV (C : Cx κ nL lev cc own mnm) {idx i ci j : Nat} {v : Value} (lk : FL own idx ci j) (hd : decode cc pc = .ok (.getfield idx, 3)) (hg : gV ω.1 σ i ci j = some v) (k : X κ nL ω (pc + 3) lo (v :: st) σ) : X κ nL ω pc lo (.ref i :: st) σ := by
  intro H locs ls hl hP hD hS
  obtain ⟨hi, fs, he, hf⟩ := gV_spec hg
  obtain ⟨Cn, T, n, ty, hci, hj, hlk⟩ := lk
  have hU : ∀ w ∈ TB, w.before κ.args κ.s = true := fun w h => C.2.2.2.2.1 w h _
  have hv : (fs.map (cvV ω.2.1))[j]? = some (cvV ω.2.1 v) := by rw [List.getElem?_map, hf]; rfl
  rcases hlk with h1 | ⟨host, h1⟩
  · exact va_get C.1 C.2.1 hU hci.2.1 C.2.2.2.1 C.2.2.2.2.2.1 hP i (wl_atE hi he) hci.1 j hj (hU _ h1) (fun _ h => h) hv hd (k H locs ls hl hP hD hS)
  · exact va_getN C.1 C.2.1 hU hci.2.1 C.2.2.2.1 C.2.2.2.2.2.1 hP i (wl_atE hi he) hci.1 j hj (hU _ h1) (fun _ h => h) hv hd (k H locs ls hl hP hD hS)
theorem x_getI (C : Cx κ nL lev cc own mnm) {idx i ci j : Nat} {x : Int32} (lk : FL own idx ci j) (hd : decode cc pc = .ok (.getfield idx, 3)) (hg : gI ω.1 σ i ci j = some x) (k : X κ nL ω (pc + 3) lo (.int x :: st) σ) : X κ nL ω pc lo (.ref i :: st) σ := x_getV C lk hd (gI_spec hg) k
theorem x_getR (C : Cx κ nL lev cc own mnm) {idx i ci j x : Nat} (lk : FL own idx ci j) (hd : decode cc pc = .ok (.getfield idx, 3)) (hg : gR ω.1 σ i ci j = some x) (k : X κ nL ω (pc + 3) lo (.ref x :: st) σ) : X κ nL ω pc lo (.ref i :: st) σ := x_getV C lk hd (gR_spec hg) k
theorem x_getQ (C : Cx κ nL lev cc own mnm) {idx i ci j : Nat} {x : Option Nat} (lk : FL own idx ci j) (hd : decode cc pc = .ok (.getfield idx, 3)) (hg : gQ ω.1 σ i ci j = some x) (k : X κ nL ω (pc + 3) lo (va_rf x :: st) σ) : X κ nL ω pc lo (.ref i :: st) σ := x_getV C lk hd (gQ_spec hg) k
theorem x_put (C : Cx κ nL lev cc own mnm) {idx i ci j : Nat} {t : FieldType} {v : Value} {σ' : Hp} (lk : PL own idx ci j t) (hd : decode cc pc = .ok (.putfield idx, 3)) (hn : ∀ ad, narrow t (cvV ad v) = cvV ad v ∧ fits t (cvV ad v) = true) (hg : pV ω.1 σ i ci j v = some σ') (k : X κ nL ω (pc + 3) lo st σ') : X κ nL ω pc lo (v :: .ref i :: st) σ := by
  intro H locs ls hl hP hD hS
  obtain ⟨hi, fs, he, hf, rfl⟩ := pV_spec hg
  obtain ⟨Cn, T, n, ty, hci, hj, hlk, hfin, hpd⟩ := lk
  have hU : ∀ w ∈ TB, w.before κ.args κ.s = true := fun w h => C.2.2.2.2.1 w h _
  have hs : (wl κ.cy ω.1 ω.2.1 σ).set i (ω.2.1 i, .inr (ci, (fs.map (cvV ω.2.1)).set j (cvV ω.2.1 v))) = wl κ.cy ω.1 ω.2.1 (va_up σ i (.inr (ci, fs.set j v))) := by
    rw [← wl_set _ hi]; simp only [cvE, List.map_set]
  rcases hlk with h1 | ⟨host, h1⟩
  · refine va_put C.1 C.2.1 hU hci.2.1 ty hci.2.2.1 hci.2.2.2 C.2.2.2.1 C.2.2.2.2.2.1 hP hD hS i (wl_atE hi he) hci.1 j hj (hU _ h1) (fun _ h => h) hfin hpd (hn _).1 (hn _).2 (by rw [List.length_map]; exact hf) hd (fun H1 locs1 hP hD hS => ?_)
    rw [hs] at hP hD
    exact k H1 locs1 ls hl hP hD hS
  · refine va_putN C.1 C.2.1 hU hci.2.1 ty hci.2.2.1 hci.2.2.2 C.2.2.2.1 C.2.2.2.2.2.1 hP hD hS i (wl_atE hi he) hci.1 j hj (hU _ h1) (fun _ h => h) hfin hpd (hn _).1 (hn _).2 (by rw [List.length_map]; exact hf) hd (fun H1 locs1 hP hD hS => ?_)
    rw [hs] at hP hD
    exact k H1 locs1 ls hl hP hD hS
theorem x_putF (C : Cx κ nL lev cc own "<init>") {idx i ci j : Nat} {t : FieldType} {v : Value} {σ' : Hp} (lk : PF own idx ci j t) (hd : decode cc pc = .ok (.putfield idx, 3)) (hn : ∀ ad, narrow t (cvV ad v) = cvV ad v ∧ fits t (cvV ad v) = true) (hg : pV ω.1 σ i ci j v = some σ') (k : X κ nL ω (pc + 3) lo st σ') : X κ nL ω pc lo (v :: .ref i :: st) σ := by
  intro H locs ls hl hP hD hS
  obtain ⟨hi, fs, he, hf, rfl⟩ := pV_spec hg
  obtain ⟨Cn, T, n, ty, hci, hj, h1, hfin, hdecl, hpd⟩ := lk
  have hU : ∀ w ∈ TB, w.before κ.args κ.s = true := fun w h => C.2.2.2.2.1 w h _
  have hs : (wl κ.cy ω.1 ω.2.1 σ).set i (ω.2.1 i, .inr (ci, (fs.map (cvV ω.2.1)).set j (cvV ω.2.1 v))) = wl κ.cy ω.1 ω.2.1 (va_up σ i (.inr (ci, fs.set j v))) := by
    rw [← wl_set _ hi]; simp only [cvE, List.map_set]
  refine va_putF C.1 C.2.1 hU hci.2.1 ty hci.2.2.1 hci.2.2.2 C.2.2.2.1 C.2.2.2.2.2.1 hP hD hS i (wl_atE hi he) hci.1 j hj (hU _ h1) (fun _ h => h) hfin C.2.2.2.2.2.2.2.2.2 hdecl hpd (hn _).1 (hn _).2 (by rw [List.length_map]; exact hf) hd (fun H1 locs1 hP hD hS => ?_)
  rw [hs] at hP hD
  exact k H1 locs1 ls hl hP hD hS
theorem x_iald (C : Cx κ nL lev cc own mnm) {i : Nat} {x y : Int32} (hd : decode cc pc = .ok (.iaload, 1)) (hg : aI 0 ω.1 σ i x = some y) (k : X κ nL ω (pc + 1) lo (.int y :: st) σ) : X κ nL ω pc lo (.int x :: .ref i :: st) σ := by
  intro H locs ls hl hP hD hS
  obtain ⟨hi, n, f, he, hin, rfl⟩ := aI_spec hg
  exact va_iald C.1 C.2.1 C.2.2.2.2.2.1 hP i 0 (wl_atE hi he) rfl hin hd (k H locs ls hl hP hD hS)
theorem x_bald (C : Cx κ nL lev cc own mnm) {i : Nat} {x y : Int32} (hd : decode cc pc = .ok (.baload, 1)) (hg : aI 2 ω.1 σ i x = some y) (k : X κ nL ω (pc + 1) lo (.int y :: st) σ) : X κ nL ω pc lo (.int x :: .ref i :: st) σ := by
  intro H locs ls hl hP hD hS
  obtain ⟨hi, n, f, he, hin, rfl⟩ := aI_spec hg
  exact va_bald C.1 C.2.1 C.2.2.2.2.2.1 hP i 2 (wl_atE hi he) rfl hin hd (k H locs ls hl hP hD hS)
theorem x_zald (C : Cx κ nL lev cc own mnm) {i : Nat} {x y : Int32} (hd : decode cc pc = .ok (.baload, 1)) (hg : aI 3 ω.1 σ i x = some y) (k : X κ nL ω (pc + 1) lo (.int y :: st) σ) : X κ nL ω pc lo (.int x :: .ref i :: st) σ := by
  intro H locs ls hl hP hD hS
  obtain ⟨hi, n, f, he, hin, rfl⟩ := aI_spec hg
  exact va_zald C.1 C.2.1 C.2.2.2.2.2.1 hP i 3 (wl_atE hi he) rfl hin hd (k H locs ls hl hP hD hS)
theorem x_lald (C : Cx κ nL lev cc own mnm) {i : Nat} {x : Int32} {y : Int64} (hd : decode cc pc = .ok (.laload, 1)) (hg : aJ ω.1 σ i x = some y) (k : X κ nL ω (pc + 1) lo (.long y :: st) σ) : X κ nL ω pc lo (.int x :: .ref i :: st) σ := by
  intro H locs ls hl hP hD hS
  obtain ⟨hi, n, f, he, hin, rfl⟩ := aJ_spec hg
  exact va_lald C.1 C.2.1 C.2.2.2.2.2.1 hP i 1 (wl_atE hi he) rfl hin hd (k H locs ls hl hP hD hS)
theorem x_aald4 (C : Cx κ nL lev cc own mnm) {i : Nat} {x : Int32} {y : Nat} (hd : decode cc pc = .ok (.aaload, 1)) (hg : aR 4 ω.1 σ i x = some y) (k : X κ nL ω (pc + 1) lo (.ref y :: st) σ) : X κ nL ω pc lo (.int x :: .ref i :: st) σ := by
  intro H locs ls hl hP hD hS
  obtain ⟨hi, n, f, he, hin, hy⟩ := aR_spec hg
  refine va_aldq C.1 C.2.1 C.2.2.2.2.2.1 hP i 4 (wl_atE hi he) rfl hin hd ?_
  rw [hy]
  exact k H locs ls hl hP hD hS
theorem x_aald5 (C : Cx κ nL lev cc own mnm) {i : Nat} {x : Int32} {y : Nat} (hd : decode cc pc = .ok (.aaload, 1)) (hg : aR 5 ω.1 σ i x = some y) (k : X κ nL ω (pc + 1) lo (.ref y :: st) σ) : X κ nL ω pc lo (.int x :: .ref i :: st) σ := by
  intro H locs ls hl hP hD hS
  obtain ⟨hi, n, f, he, hin, hy⟩ := aR_spec hg
  refine va_aldq C.1 C.2.1 C.2.2.2.2.2.1 hP i 5 (wl_atE hi he) rfl hin hd ?_
  rw [hy]
  exact k H locs ls hl hP hD hS
theorem x_iast (C : Cx κ nL lev cc own mnm) {i : Nat} {x v : Int32} {σ' : Hp} (hd : decode cc pc = .ok (.iastore, 1)) (hg : sI 0 ω.1 σ i x v = some σ') (k : X κ nL ω (pc + 1) lo st σ') : X κ nL ω pc lo (.int v :: .int x :: .ref i :: st) σ := by
  intro H locs ls hl hP hD hS
  obtain ⟨hi, n, f, he, hin, rfl⟩ := sI_spec hg
  refine va_iast C.1 C.2.1 C.2.2.2.2.2.1 hP hD hS i 0 (wl_atE hi he) rfl hin hd (fun H1 locs1 hP hD hS => ?_)
  have hs := wl_set (cy := κ.cy) (ad := ω.2.1) (σ := σ) (.inl (0, n, .inl (upd f x.toNatClampNeg v))) hi
  simp only [cvE] at hs
  rw [hs] at hP hD
  exact k H1 locs1 ls hl hP hD hS
theorem x_bast (C : Cx κ nL lev cc own mnm) {i : Nat} {x v : Int32} {σ' : Hp} (hd : decode cc pc = .ok (.bastore, 1)) (hg : sI 2 ω.1 σ i x v = some σ') (k : X κ nL ω (pc + 1) lo st σ') : X κ nL ω pc lo (.int v :: .int x :: .ref i :: st) σ := by
  intro H locs ls hl hP hD hS
  obtain ⟨hi, n, f, he, hin, rfl⟩ := sI_spec hg
  refine va_bast C.1 C.2.1 C.2.2.2.2.2.1 hP hD hS i 2 (wl_atE hi he) rfl hin hd (fun H1 locs1 hP hD hS => ?_)
  have hs := wl_set (cy := κ.cy) (ad := ω.2.1) (σ := σ) (.inl (2, n, .inl (upd f x.toNatClampNeg (vp_nar .byte v)))) hi
  simp only [cvE] at hs
  rw [hs] at hP hD
  exact k H1 locs1 ls hl hP hD hS
theorem x_zast (C : Cx κ nL lev cc own mnm) {i : Nat} {x v : Int32} {σ' : Hp} (hd : decode cc pc = .ok (.bastore, 1)) (hg : sI 3 ω.1 σ i x v = some σ') (k : X κ nL ω (pc + 1) lo st σ') : X κ nL ω pc lo (.int v :: .int x :: .ref i :: st) σ := by
  intro H locs ls hl hP hD hS
  obtain ⟨hi, n, f, he, hin, rfl⟩ := sI_spec hg
  refine va_zast C.1 C.2.1 C.2.2.2.2.2.1 hP hD hS i 3 (wl_atE hi he) rfl hin hd (fun H1 locs1 hP hD hS => ?_)
  have hs := wl_set (cy := κ.cy) (ad := ω.2.1) (σ := σ) (.inl (3, n, .inl (upd f x.toNatClampNeg (vp_nar .boolean v)))) hi
  simp only [cvE] at hs
  rw [hs] at hP hD
  exact k H1 locs1 ls hl hP hD hS
theorem x_last (C : Cx κ nL lev cc own mnm) {i : Nat} {x : Int32} {v : Int64} {σ' : Hp} (hd : decode cc pc = .ok (.lastore, 1)) (hg : sJ ω.1 σ i x v = some σ') (k : X κ nL ω (pc + 1) lo st σ') : X κ nL ω pc lo (.long v :: .int x :: .ref i :: st) σ := by
  intro H locs ls hl hP hD hS
  obtain ⟨hi, n, f, he, hin, rfl⟩ := sJ_spec hg
  refine va_last C.1 C.2.1 C.2.2.2.2.2.1 hP hD hS i 1 (wl_atE hi he) rfl hin hd (fun H1 locs1 hP hD hS => ?_)
  have hs := wl_set (cy := κ.cy) (ad := ω.2.1) (σ := σ) (.inl (1, n, .inr (.inl (vp_updL f x.toNatClampNeg v)))) hi
  simp only [cvE] at hs
  rw [hs] at hP hD
  exact k H1 locs1 ls hl hP hD hS
theorem x_alen (C : Cx κ nL lev cc own mnm) {i n : Nat} (hd : decode cc pc = .ok (.arraylength, 1)) (hg : aN ω.1 σ i = some n) (k : X κ nL ω (pc + 1) lo (.int (nI n) :: st) σ) : X κ nL ω pc lo (.ref i :: st) σ := by
  intro H locs ls hl hP hD hS
  obtain ⟨hi, c, x, he, hc⟩ := aN_spec hg
  obtain ⟨ty, hty⟩ : ∃ ty, (tyL κ.cy)[c]? = some (κ.cy c, ty) := by
    rcases (show c = 0 ∨ c = 1 ∨ c = 2 ∨ c = 3 ∨ c = 4 ∨ c = 5 by omega) with rfl | rfl | rfl | rfl | rfl | rfl <;> exact ⟨_, rfl⟩
  have hP' := wl_atE (cy := κ.cy) (ad := ω.2.1) hi he
  obtain f | f | f | f | f := x <;> exact va_alen C.1 C.2.1 C.2.2.2.2.2.1 hP i c hP' hty rfl hd (k H locs ls hl hP hD hS)
end HeapRows
end
section
/-! contracts of methods that make no cells: of every place ad of the cells -/
def rmL (k : Nat) : Room := { frames := k, cells := 0, slots := 0, locals := 40 * k }
def Pr (l : Launch) (D : va_G) (cy : Nat → Nat) (As : List Value) (N : Nat) (ad : Nat → Nat) (σ : Hp) (sz : Nat) : Array Value → State → Prop :=
  va_Pc (As.map (cvV ad)) (fun U => U.heap.size = sz ∧ Uni U ∧ va_K D vwCl (tyL cy) U ∧ va_P D vwCl (wl cy N ad σ) U.heap ∧ va_D (fun _ => True) (wl cy N ad σ))
def Po (D : va_G) (cy : Nat → Nat) (N : Nat) (ad : Nat → Nat) (σ : Hp) (sz : Nat) (Post : Option Value → Hp → Prop) : Array Value → State → Outcome → State → Prop := fun _ s0 oc t =>
  (∃ (v : Option Value) (σ' : Hp), oc = .returned (v.map (cvV ad)) ∧ Post v σ' ∧ va_P D vwCl (wl cy N ad σ') t.heap) ∧ va_F (va_A (wl cy N ad σ) sz) s0 t
def Ct (l : Launch) (D : va_G) (cy : Nat → Nat) (y : MethodName) (cc : ByteArray) (nL : Nat) (ret : Option FieldType) (lev : Nat) (As : List Value) (N : Nat) (σ : Hp) (Post : Option Value → Hp → Prop) : Prop :=
  ∀ (ad : Nat → Nat) (sz : Nat), Met l y [Cond.code y cc nL ret] (rmL lev) (Pr l D cy As N ad σ sz) (Po D cy N ad σ sz Post) 0 0 (va_A (wl cy N ad σ) sz)
/-- the end of a body: what is owed there -/
def Rt (κ : Kx) (ω : Om) (ret : Option FieldType) (Post : Option Value → Hp → Prop) : Prop :=
  κ.meth.sig.returnType = ret ∧ ∀ (H : Heap) (locs : List Loc) (v : Option Value) (σ : Hp), va_P κ.D vwCl (wl κ.cy ω.1 ω.2.1 σ) H → va_S κ.A κ.s.heap H locs → Post v σ →
    ∃ (Qc : Array Value → State → Outcome → State → Prop) (free : Addr → Prop), κ.Q = MQ κ.below Qc κ.args κ.s ω.2.2.1 ω.2.2.2 free ∧ (∀ t : State, t.heap = H → κ.s.WarmedH t.vm → Qc κ.args κ.s (.returned (v.map (cvV ω.2.1))) t) ∧ ∀ q ∈ locs, free q.base
def loE : List Value → List (Option Value)
  | [] => []
  | v :: vs => if v.category = 2 then some v :: none :: loE vs else some v :: loE vs
theorem loE_mem (ad : Nat → Nat) : ∀ (vs : List Value) (b i : Nat) (v : Value), (loE vs)[i]? = some (some v) → (b + i, cvV ad v) ∈ lv_args b (vs.map (cvV ad)) := by
  intro vs
  induction vs with
  | nil => intro b i v h; simp [loE] at h
  | cons w ws ih =>
    intro b i v h
    simp only [List.map_cons, lv_args, cvV_cat]
    unfold loE at h
    split at h
    case isTrue hc =>
      rw [if_pos hc]
      match i, h with
      | 0, h => simp at h; rw [h]; exact List.mem_cons_self
      | 1, h => simp at h
      | k + 2, h =>
        have := ih (b + 2) k v (by simpa using h)
        exact List.mem_cons_of_mem _ (by rw [show b + (k + 2) = b + 2 + k by omega]; exact this)
    case isFalse hc =>
      rw [if_neg hc]
      match i, h with
      | 0, h => simp at h; rw [h]; exact List.mem_cons_self
      | k + 1, h =>
        have := ih (b + 1) k v (by simpa using h)
        exact List.mem_cons_of_mem _ (by rw [show b + (k + 1) = b + 1 + k by omega]; exact this)
theorem loE_len (vs : List Value) (ad : Nat → Nat) : (lg_sl (vs.map (cvV ad))).length = (loE vs).length := by
  induction vs with
  | nil => rfl
  | cons w ws ih =>
    simp only [lg_sl, List.map_cons, List.flatMap_cons, List.length_append, cvV_cat] at ih ⊢
    unfold loE
    split <;> simp [ih] <;> omega
theorem Ct.intro {l : Launch} {D : va_G} {cy : Nat → Nat} {y : MethodName} {cc : ByteArray} {nL : Nat} {ret : Option FieldType} {lev : Nat} {As : List Value} {N : Nat} {σ : Hp} {Post : Option Value → Hp → Prop}
    (lo : List (Option Value)) (hy : plainName y.cls = true) (hlo : loE As ++ List.replicate (nL - (loE As).length) none = lo) (hln : (loE As).length ≤ nL)
    (body : ∀ (κ : Kx) (ω : Om), κ.l = l → κ.D = D → κ.cy = cy → ω.1 = N → Cx κ nL lev cc y.cls y.name → Rt κ ω ret Post → X κ nL ω 0 lo [] σ) : Ct l D cy y cc nL ret lev As N σ Post := by
  intro ad sz
  refine Met.ofW (cc := cc) (maxL := nL) (ret := ret) hy rfl ?_
  intro p e s m args below meth c s₁ B hml hv
  obtain ⟨rfl, hsz, hU, hK, hP, hD0⟩ := hv
  subst hsz
  have hD := hD0.self (sz := s.heap.size)
  have hl := lv_entry (As.map (cvV ad)) (n := nL) (by rw [loE_len]; exact hln)
  rw [lg_entry_eq]
  have hlh : lh ((lg_sl (As.map (cvV ad)) ++ List.replicate (nL - (lg_sl (As.map (cvV ad))).length) Slot.unset).toArray) nL ad lo := by
    refine ⟨hl.1, hl.2.1, fun i v hi => ?_⟩
    rw [← hlo] at hi
    have h2 : (loE As)[i]? = some (some v) := by
      rcases Nat.lt_or_ge i (loE As).length with h | h
      · rwa [List.getElem?_append_left h] at hi
      · rw [List.getElem?_append_right h] at hi
        have := List.mem_of_getElem? hi
        rw [List.mem_replicate] at this
        cases this.2
    have := loE_mem ad As 0 i v h2
    rw [Nat.zero_add] at this
    exact hl.2.2 _ this
  refine body (p, l, e, (headSpec [Cond.code y cc nL ret] (rmL lev)).room, s, m, (As.map (cvV ad)).toArray, below, meth, c, va_A (wl cy N ad σ) s.heap.size, D, cy, MQ below (Po D cy N ad σ s.heap.size Post) (As.map (cvV ad)).toArray s 0 0 (va_A (wl cy N ad σ) s.heap.size)) (N, ad, 0, 0) rfl rfl rfl rfl ?_ ?_ s.heap [] _ hlh hP hD va_S.rf
  · exact ⟨B.exec, B.bytes, hml, findClass_of_methodNamed B.named, hU, hK, B.notSynchronized, fun q h => Or.inr h, ⟨Nat.le_refl _, Nat.le_refl _⟩, (name_of_methodNamed B.named B.method).1⟩
  · refine ⟨B.returns, fun H locs v σ' hP' hS' hp => ⟨_, _, rfl, fun t ht hW => ⟨⟨v, σ', rfl, hp, by rw [ht]; exact hP'⟩, hS'.F ht⟩, hS'.2.2⟩⟩
section Ends
variable {κ : Kx} {nL lev : Nat} {cc : ByteArray} {own mnm : String} {ω : Om} {pc : Nat} {lo : List (Option Value)} {σ : Hp} {Post : Option Value → Hp → Prop}
theorem x_iret (C : Cx κ nL lev cc own mnm) (E : Rt κ ω (some .int) Post) {v : Int32} (hd : decode cc pc = .ok (.ireturn, 1)) (hp : Post (some (.int v)) σ) : X κ nL ω pc lo [.int v] σ := by
  intro H locs ls hl hP hD hS
  obtain ⟨Qc, free, hQ, h1, h2⟩ := E.2 H locs _ σ hP hS hp
  rw [hQ]
  exact W.iret C.1 C.2.1 E.1 h1 h2 hd C.2.2.2.2.2.2.1
theorem x_zret (C : Cx κ nL lev cc own mnm) (E : Rt κ ω (some .boolean) Post) {v : Int32} (hn : narrow .boolean (.int v) = .int v) (hd : decode cc pc = .ok (.ireturn, 1)) (hp : Post (some (.int v)) σ) : X κ nL ω pc lo [.int v] σ := by
  intro H locs ls hl hP hD hS
  obtain ⟨Qc, free, hQ, h1, h2⟩ := E.2 H locs _ σ hP hS hp
  rw [hQ]
  exact W.zret C.1 C.2.1 E.1 hn h1 h2 hd C.2.2.2.2.2.2.1
theorem x_lret (C : Cx κ nL lev cc own mnm) (E : Rt κ ω (some .long) Post) {v : Int64} (hd : decode cc pc = .ok (.lreturn, 1)) (hp : Post (some (.long v)) σ) : X κ nL ω pc lo [.long v] σ := by
  intro H locs ls hl hP hD hS
  obtain ⟨Qc, free, hQ, h1, h2⟩ := E.2 H locs _ σ hP hS hp
  rw [hQ]
  exact W.lret C.1 C.2.1 E.1 h1 h2 hd C.2.2.2.2.2.2.1
theorem x_vret (C : Cx κ nL lev cc own mnm) (E : Rt κ ω none Post) (hd : decode cc pc = .ok (.return_, 1)) (hp : Post none σ) : X κ nL ω pc lo [] σ := by
  intro H locs ls hl hP hD hS
  obtain ⟨Qc, free, hQ, h1, h2⟩ := E.2 H locs _ σ hP hS hp
  rw [hQ]
  exact W.vret C.1 C.2.1 E.1 h1 h2 hd C.2.2.2.2.2.2.1
theorem x_aretQ (C : Cx κ nL lev cc own mnm) {cn : String} (E : Rt κ ω (some (.object cn)) Post) {q : Option Nat} (hd : decode cc pc = .ok (.areturn, 1)) (hp : Post (some (va_rf q)) σ) : X κ nL ω pc lo [va_rf q] σ := by
  intro H locs ls hl hP hD hS
  obtain ⟨Qc, free, hQ, h1, h2⟩ := E.2 H locs _ σ hP hS hp
  rw [hQ]
  exact W.aret C.1 C.2.1 E.1 (Or.inl ⟨_, rfl⟩) (by cases q with | none => exact Or.inl rfl | some r => exact Or.inr ⟨_, rfl⟩) h1 h2 hd C.2.2.2.2.2.2.1
end Ends
/-! calls -/
theorem Pr.blind {l : Launch} {D : va_G} {cy : Nat → Nat} {As : List Value} {N : Nat} {ad : Nat → Nat} {σ : Hp} {sz : Nat} : FrameBlind (Pr l D cy As N ad σ sz) := by
  intro a U g mk h
  obtain ⟨h1, h2, h3, h4, h5, h6⟩ := h
  exact ⟨h1, h2, h3.warm (show U.WarmedH (U.calling g mk a).vm from State.WarmedH.refl U), va_K.moved (u := U) (U := U.calling g mk a) (Vm.Alike.refl U.vm) h4, h5, h6⟩
/-- a method that is called: its words -/
def MW (y : MethodName) (cc : ByteArray) (nL : Nat) (ret : Option FieldType) (n : Nat) : Prop := Cond.code y cc nL ret ∈ TB ∧ Cond.initialized y.cls ∈ TB ∧ (y.cls ≠ "java/lang/invoke/MethodHandle" ∧ y.cls ≠ "java/lang/invoke/VarHandle" ∧ (parseMethodDescriptor y.desc).map (fun d => d.parameters.length) = some n) ∧ nL ≤ 20
def MV (ci : Nat) (y : MethodName) (cc : ByteArray) (nL : Nat) (ret : Option FieldType) (n : Nat) : Prop := MW y cc nL ret n ∧ Cond.instanceMethod y ∈ TB ∧ Cond.selects y.cls y y ∈ TB ∧ ∃ T k, vwCl[ci]? = some (y.cls, T, k)
def MS (y : MethodName) (cc : ByteArray) (nL : Nat) (ret : Option FieldType) (n : Nat) : Prop := MW y cc nL ret n ∧ Cond.static y ∈ TB
/-- the link of a place of the pool to a method -/
def LK (own : String) (idx : Nat) (y : MethodName) : Prop := Cond.methodLink own idx y ∈ TB ∨ ∃ host, Cond.methodLinkNest own idx y host ∈ TB
/-- how a call's run goes on, the callee having made no cells -/
theorem x_after {κ : Kx} {nL : Nat} {ω : Om} {pc : Nat} {lo : List (Option Value)} {rest st : List Value} {σ : Hp} {Post : Option Value → Hp → Prop} {H : Heap} {locs : List Loc} {ls : Array Slot} {as : Array Value} {Qa : State → Outcome → State → Prop}
    (hr : va_Run κ.p κ.l κ.e κ.R κ.s κ.m κ.args κ.below κ.meth κ.c H locs ω.2.2.1 ω.2.2.2 0 0 (F0 κ.m pc ls (st.map (cvV ω.2.1))) (rest.map (cvV ω.2.1)) (Po κ.D κ.cy ω.1 ω.2.1 σ H.size Post as) (va_A (wl κ.cy ω.1 ω.2.1 σ) H.size))
    (hl : lh ls nL ω.2.1 lo) (hP : va_P κ.D vwCl (wl κ.cy ω.1 ω.2.1 σ) H) (hD : va_D κ.A (wl κ.cy ω.1 ω.2.1 σ)) (hS : va_S κ.A κ.s.heap H locs) (hA : ∀ q, κ.s.heap.size ≤ q → κ.A q)
    (k : ∀ (v : Option Value) (σ' : Hp), Post v σ' → X κ nL ω (pc + 3) lo (v.toList ++ rest) σ') :
    W κ.p κ.l κ.e κ.R κ.s κ.m κ.args κ.below κ.meth κ.c H locs ω.2.2.1 ω.2.2.2 κ.Q (F0 κ.m pc ls (st.map (cvV ω.2.1))) := by
  have hF : ∀ q, va_A (wl κ.cy ω.1 ω.2.1 σ) H.size q → κ.A q := by
    intro q h
    rcases h with ⟨i, e, h⟩ | h
    · exact hD.2 i _ h
    · exact hA q (Nat.le_trans hS.1 h)
  intro T hT X0
  obtain ⟨v, st₀, t, T', L, h0, X', hL, e1, e2, ⟨⟨v', σ', hv, hp, hP'⟩, hz, hk⟩, stp⟩ := hr T hT X0
  cases hv
  rw [h0] at hz hk
  have hS' : va_S κ.A κ.s.heap T'.heap (locs ++ L) := ⟨Nat.le_trans hS.1 (by rw [e1]; exact hz), fun q h1 h2 => by rw [e1, hk q (Nat.lt_of_lt_of_le h1 hS.1) (fun z => h2 (hF q z))]; exact hS.2.1 q h1 h2, fun q hq => by
    rcases List.mem_append.mp hq with h | h
    · exact hS.2.2 q h
    · exact hF _ (hL q h)⟩
  obtain ⟨t2, a1, b1⟩ := k v' σ' hp T'.heap (locs ++ L) ls hl (by rw [e1]; exact hP') (wl_D hD) hS' T' rfl X'
  refine ⟨t2, stp t2 ?_, b1⟩
  have e3 : (v'.toList ++ rest).map (cvV ω.2.1) = (v'.map (cvV ω.2.1)).toList ++ rest.map (cvV ω.2.1) := by cases v' <;> simp
  rw [e3] at a1
  exact a1
theorem cats (ad : Nat → Nat) (st : List Value) : ((st.map (cvV ad)).map fun v => v.category).sum = (st.map fun v => v.category).sum := by
  rw [List.map_map]; congr 1; apply List.map_congr_left; intro v _; exact cvV_cat ad v
section Calls
variable {κ : Kx} {nL lev : Nat} {cc : ByteArray} {own mnm : String} {ω : Om} {pc : Nat} {lo : List (Option Value)} {σ : Hp} {Post : Option Value → Hp → Prop}
theorem x_callV (C : Cx κ nL lev cc own mnm) {y : MethodName} {cc' : ByteArray} {nL' : Nat} {ret : Option FieldType} {lev' n idx ci b : Nat} {As rest st : List Value} (mv : MV ci y cc' nL' ret n) (lk : LK own idx y) (hM : Ct κ.l κ.D κ.cy y cc' nL' ret lev' (.ref b :: As) ω.1 σ Post) (hlev : lev' < lev) (hn : As.length = n) (hst : As.reverse ++ .ref b :: rest = st) (hrest : (rest.map fun v => v.category).sum ≤ 8)
    (hb : ∃ fs, b < ω.1 ∧ σ b = .inr (ci, fs)) (hd : decode cc pc = .ok (.invokevirtual idx, 3)) (hcs : ω.2.2.1 ≤ κ.R.cells ∧ ω.2.2.2 ≤ κ.R.slots) (k : ∀ (v : Option Value) (σ' : Hp), Post v σ' → X κ nL ω (pc + 3) lo (v.toList ++ rest) σ') : X κ nL ω pc lo st σ := by
  intro H locs ls hl hP hD hS
  have hU : ∀ w ∈ TB, w.before κ.args κ.s = true := fun w h => C.2.2.2.2.1 w h _
  obtain ⟨⟨hcode, hini, ⟨hy1, hy2, hy3⟩, hnl⟩, hinst, hsel, T, kc, hcl⟩ := mv
  have hG : GoodIn TB [Cond.code y cc' nL' ret] := fun w hw => by
    rw [List.mem_singleton.mp hw]; exact ⟨hcode, good_of_word (by first | rfl | exact (List.mem_filter.mp hcode).2)⟩
  have hR : (rmL lev').frames + 1 ≤ κ.R.frames ∧ 8 + (nL' + 11) + (rmL lev').locals ≤ κ.R.locals := by
    obtain ⟨h1, h2⟩ := C.2.2.2.2.2.2.2.2.1
    constructor
    · show lev' + 1 ≤ _; omega
    · show 8 + (nL' + 11) + 40 * lev' ≤ _; omega
  obtain ⟨fs, hbN, hbe⟩ := hb
  have hrecv := va_recv C.2.2.2.2.2.1 hP hcl (wl_atE hbN hbe)
  have hPre : ∀ U : State, U.heap = H → κ.s.WarmedH U.vm → Pr κ.l κ.D κ.cy (.ref b :: As) ω.1 ω.2.1 σ H.size (Value.ref (ω.2.1 b) :: As.map (cvV ω.2.1)).toArray U := fun U hUH hW => ⟨rfl, by rw [hUH], C.2.2.2.2.1.warm hW, va_K.moved hW.alike C.2.2.2.2.2.1, by rw [hUH]; exact hP, hD.weaken (fun _ _ _ _ => trivial)⟩
  have hstk : st.map (cvV ω.2.1) = (As.map (cvV ω.2.1)).reverse ++ Value.ref (ω.2.1 b) :: rest.map (cvV ω.2.1) := by rw [← hst]; simp [cvV]
  have hW : 2 * (F0 κ.m pc ls (st.map (cvV ω.2.1))).monitorRoom + ((rest.map (cvV ω.2.1)).map fun v => v.category).sum ≤ 8 := by
    rw [cats]; exact lv_room hrest
  rcases lk with h1 | ⟨host, h1⟩
  · exact x_after (va_runV ⟨C.1, C.2.1, C.2.2.1, C.2.2.2.1, hU⟩ (hM ω.2.1 H.size) ⟨callB_of n hU hG rfl rfl rfl (hU _ hini) (hU _ h1) ⟨hy1, hy2, hy3⟩ hR, hU _ hinst, hU _ hsel⟩ ⟨Pr.blind, hrecv, hPre⟩ rfl (by rw [List.length_map]; exact hn) hl.1 hstk hW hd (by simpa using hcs)) (Qa := fun _ _ _ => True) hl hP hD hS C.2.2.2.2.2.2.2.1 k
  · exact x_after (va_runVN ⟨C.1, C.2.1, C.2.2.1, C.2.2.2.1, hU⟩ (hM ω.2.1 H.size) ⟨va_cnB n hU hG rfl rfl rfl (va_Nw.of rfl (hU _ h1)) (hU _ hini) ⟨hy1, hy2, hy3⟩ hR, hU _ hinst, hU _ hsel⟩ ⟨Pr.blind, hrecv, hPre⟩ rfl (by rw [List.length_map]; exact hn) hl.1 hstk hW hd (by simpa using hcs)) (Qa := fun _ _ _ => True) hl hP hD hS C.2.2.2.2.2.2.2.1 k
theorem x_callS (C : Cx κ nL lev cc own mnm) {y : MethodName} {cc' : ByteArray} {nL' : Nat} {ret : Option FieldType} {lev' n idx : Nat} {As rest st : List Value} (mv : MS y cc' nL' ret n) (lk : LK own idx y) (hM : Ct κ.l κ.D κ.cy y cc' nL' ret lev' As ω.1 σ Post) (hlev : lev' < lev) (hn : As.length = n) (hst : As.reverse ++ rest = st) (hrest : (rest.map fun v => v.category).sum ≤ 8)
    (hd : decode cc pc = .ok (.invokestatic idx, 3)) (hcs : ω.2.2.1 ≤ κ.R.cells ∧ ω.2.2.2 ≤ κ.R.slots) (k : ∀ (v : Option Value) (σ' : Hp), Post v σ' → X κ nL ω (pc + 3) lo (v.toList ++ rest) σ') : X κ nL ω pc lo st σ := by
  intro H locs ls hl hP hD hS
  have hU : ∀ w ∈ TB, w.before κ.args κ.s = true := fun w h => C.2.2.2.2.1 w h _
  obtain ⟨⟨hcode, hini, ⟨hy1, hy2, hy3⟩, hnl⟩, hstat⟩ := mv
  have hG : GoodIn TB [Cond.code y cc' nL' ret] := fun w hw => by
    rw [List.mem_singleton.mp hw]; exact ⟨hcode, good_of_word (by first | rfl | exact (List.mem_filter.mp hcode).2)⟩
  have hR : (rmL lev').frames + 1 ≤ κ.R.frames ∧ 8 + (nL' + 11) + (rmL lev').locals ≤ κ.R.locals := by
    obtain ⟨h1, h2⟩ := C.2.2.2.2.2.2.2.2.1
    constructor
    · show lev' + 1 ≤ _; omega
    · show 8 + (nL' + 11) + 40 * lev' ≤ _; omega
  have hPre : ∀ U : State, U.heap = H → κ.s.WarmedH U.vm → Pr κ.l κ.D κ.cy As ω.1 ω.2.1 σ H.size (As.map (cvV ω.2.1)).toArray U := fun U hUH hW => ⟨rfl, by rw [hUH], C.2.2.2.2.1.warm hW, va_K.moved hW.alike C.2.2.2.2.2.1, by rw [hUH]; exact hP, hD.weaken (fun _ _ _ _ => trivial)⟩
  have hstk : st.map (cvV ω.2.1) = (As.map (cvV ω.2.1)).reverse ++ rest.map (cvV ω.2.1) := by rw [← hst]; simp
  have hW : 2 * (F0 κ.m pc ls (st.map (cvV ω.2.1))).monitorRoom + ((rest.map (cvV ω.2.1)).map fun v => v.category).sum ≤ 8 := by
    rw [cats]; exact lv_room hrest
  rcases lk with h1 | ⟨host, h1⟩
  · exact x_after (va_runS ⟨C.1, C.2.1, C.2.2.1, C.2.2.2.1, hU⟩ (hM ω.2.1 H.size) ⟨callB_of n hU hG rfl rfl rfl (hU _ hini) (hU _ h1) ⟨hy1, hy2, hy3⟩ hR, hU _ hstat⟩ ⟨Pr.blind, hPre⟩ rfl (by rw [List.length_map]; exact hn) hl.1 hstk hW hd (by simpa using hcs)) (Qa := fun _ _ _ => True) hl hP hD hS C.2.2.2.2.2.2.2.1 k
  · exact x_after (va_runSN ⟨C.1, C.2.1, C.2.2.1, C.2.2.2.1, hU⟩ (hM ω.2.1 H.size) ⟨va_cnB n hU hG rfl rfl rfl (va_Nw.of rfl (hU _ h1)) (hU _ hini) ⟨hy1, hy2, hy3⟩ hR, hU _ hstat, trivial⟩ ⟨Pr.blind, hPre⟩ rfl (by rw [List.length_map]; exact hn) hl.1 hstk hW hd (by simpa using hcs)) (Qa := fun _ _ _ => True) hl hP hD hS C.2.2.2.2.2.2.2.1 k
end Calls
end
