section
-- ===== PART A: goes FIRST, ahead of the names: the tables' words, and 'selects' of the private methods out of them =====
/-- a private method of a class that the tables say can be made, by its rows of tables_1 -/
def lw_okq (q : MethodName × Nat) : Prop := (q.1.cls ≠ "java/lang/invoke/MethodHandle" ∧ q.1.cls ≠ "java/lang/invoke/VarHandle") ∧ Cond.instantiable q.1.cls q.2 ∈ tables_1 ∧ Cond.privateMethod q.1 ∈ tables_1 ∧ Cond.instanceMethod q.1 ∈ tables_1
theorem lw_p0 : lw_okq (⟨"PegDiscs", "rowAt", "(I)LPegDiscs$Row;"⟩, 12) := ⟨⟨by decide +kernel, by decide +kernel⟩, List.mem_of_getElem? (i := 15) (by decide +kernel), List.mem_of_getElem? (i := 190) (by decide +kernel), List.mem_of_getElem? (i := 191) (by decide +kernel)⟩
theorem lw_p1 : lw_okq (⟨"PegDiscs", "found", "(I)I"⟩, 12) := ⟨⟨by decide +kernel, by decide +kernel⟩, List.mem_of_getElem? (i := 15) (by decide +kernel), List.mem_of_getElem? (i := 195) (by decide +kernel), List.mem_of_getElem? (i := 196) (by decide +kernel)⟩
theorem lw_p2 : lw_okq (⟨"PegDiscs$Row", "begin", "(II)V"⟩, 3) := ⟨⟨by decide +kernel, by decide +kernel⟩, List.mem_of_getElem? (i := 131) (by decide +kernel), List.mem_of_getElem? (i := 200) (by decide +kernel), List.mem_of_getElem? (i := 201) (by decide +kernel)⟩
theorem lw_p3 : lw_okq (⟨"PegDiscs", "well", "(I)I"⟩, 12) := ⟨⟨by decide +kernel, by decide +kernel⟩, List.mem_of_getElem? (i := 15) (by decide +kernel), List.mem_of_getElem? (i := 207) (by decide +kernel), List.mem_of_getElem? (i := 208) (by decide +kernel)⟩
theorem lw_p4 : lw_okq (⟨"PegDiscs$Row", "flaw", "(II)I"⟩, 3) := ⟨⟨by decide +kernel, by decide +kernel⟩, List.mem_of_getElem? (i := 131) (by decide +kernel), List.mem_of_getElem? (i := 215) (by decide +kernel), List.mem_of_getElem? (i := 216) (by decide +kernel)⟩
theorem lw_p5 : lw_okq (⟨"PegDiscs$Row", "isMissing", "()Z"⟩, 3) := ⟨⟨by decide +kernel, by decide +kernel⟩, List.mem_of_getElem? (i := 131) (by decide +kernel), List.mem_of_getElem? (i := 219) (by decide +kernel), List.mem_of_getElem? (i := 220) (by decide +kernel)⟩
theorem lw_p6 : lw_okq (⟨"PegDiscs$Row", "store", "(II)I"⟩, 3) := ⟨⟨by decide +kernel, by decide +kernel⟩, List.mem_of_getElem? (i := 131) (by decide +kernel), List.mem_of_getElem? (i := 223) (by decide +kernel), List.mem_of_getElem? (i := 224) (by decide +kernel)⟩
theorem lw_p7 : lw_okq (⟨"PegDiscs$Row", "end", "()I"⟩, 3) := ⟨⟨by decide +kernel, by decide +kernel⟩, List.mem_of_getElem? (i := 131) (by decide +kernel), List.mem_of_getElem? (i := 239) (by decide +kernel), List.mem_of_getElem? (i := 240) (by decide +kernel)⟩
theorem lw_p8 : lw_okq (⟨"PegDiscs$Tape", "take", "(I)Z"⟩, 5) := ⟨⟨by decide +kernel, by decide +kernel⟩, List.mem_of_getElem? (i := 25) (by decide +kernel), List.mem_of_getElem? (i := 247) (by decide +kernel), List.mem_of_getElem? (i := 248) (by decide +kernel)⟩
theorem lw_p9 : lw_okq (⟨"PegDiscs$Tape", "readInto", "(LPegDiscs$Board;)Z"⟩, 5) := ⟨⟨by decide +kernel, by decide +kernel⟩, List.mem_of_getElem? (i := 25) (by decide +kernel), List.mem_of_getElem? (i := 256) (by decide +kernel), List.mem_of_getElem? (i := 257) (by decide +kernel)⟩
theorem lw_p10 : lw_okq (⟨"PegDiscs$Board", "clear", "()V"⟩, 6) := ⟨⟨by decide +kernel, by decide +kernel⟩, List.mem_of_getElem? (i := 51) (by decide +kernel), List.mem_of_getElem? (i := 260) (by decide +kernel), List.mem_of_getElem? (i := 261) (by decide +kernel)⟩
theorem lw_p11 : lw_okq (⟨"PegDiscs$Tape", "readLaw", "(LPegDiscs$Board;)Z"⟩, 5) := ⟨⟨by decide +kernel, by decide +kernel⟩, List.mem_of_getElem? (i := 25) (by decide +kernel), List.mem_of_getElem? (i := 264) (by decide +kernel), List.mem_of_getElem? (i := 265) (by decide +kernel)⟩
theorem lw_p12 : lw_okq (⟨"PegDiscs$Tape", "passes", "(I)Z"⟩, 5) := ⟨⟨by decide +kernel, by decide +kernel⟩, List.mem_of_getElem? (i := 25) (by decide +kernel), List.mem_of_getElem? (i := 268) (by decide +kernel), List.mem_of_getElem? (i := 269) (by decide +kernel)⟩
theorem lw_p13 : lw_okq (⟨"PegDiscs$Tape", "byteAt", "(I)I"⟩, 5) := ⟨⟨by decide +kernel, by decide +kernel⟩, List.mem_of_getElem? (i := 25) (by decide +kernel), List.mem_of_getElem? (i := 272) (by decide +kernel), List.mem_of_getElem? (i := 273) (by decide +kernel)⟩
theorem lw_p14 : lw_okq (⟨"PegDiscs$Tape", "faulty", "(I)Z"⟩, 5) := ⟨⟨by decide +kernel, by decide +kernel⟩, List.mem_of_getElem? (i := 25) (by decide +kernel), List.mem_of_getElem? (i := 276) (by decide +kernel), List.mem_of_getElem? (i := 277) (by decide +kernel)⟩
theorem lw_p15 : lw_okq (⟨"PegDiscs$Tape", "readNumber", "(II)Z"⟩, 5) := ⟨⟨by decide +kernel, by decide +kernel⟩, List.mem_of_getElem? (i := 25) (by decide +kernel), List.mem_of_getElem? (i := 280) (by decide +kernel), List.mem_of_getElem? (i := 281) (by decide +kernel)⟩
def lw_privs_1 : List (MethodName × Nat) := [(⟨"PegDiscs", "rowAt", "(I)LPegDiscs$Row;"⟩, 12), (⟨"PegDiscs", "found", "(I)I"⟩, 12), (⟨"PegDiscs$Row", "begin", "(II)V"⟩, 3), (⟨"PegDiscs", "well", "(I)I"⟩, 12), (⟨"PegDiscs$Row", "flaw", "(II)I"⟩, 3), (⟨"PegDiscs$Row", "isMissing", "()Z"⟩, 3), (⟨"PegDiscs$Row", "store", "(II)I"⟩, 3), (⟨"PegDiscs$Row", "end", "()I"⟩, 3), (⟨"PegDiscs$Tape", "take", "(I)Z"⟩, 5), (⟨"PegDiscs$Tape", "readInto", "(LPegDiscs$Board;)Z"⟩, 5), (⟨"PegDiscs$Board", "clear", "()V"⟩, 6), (⟨"PegDiscs$Tape", "readLaw", "(LPegDiscs$Board;)Z"⟩, 5), (⟨"PegDiscs$Tape", "passes", "(I)Z"⟩, 5), (⟨"PegDiscs$Tape", "byteAt", "(I)I"⟩, 5), (⟨"PegDiscs$Tape", "faulty", "(I)Z"⟩, 5), (⟨"PegDiscs$Tape", "readNumber", "(II)Z"⟩, 5)]
theorem lw_r1 : ∀ q ∈ lw_privs_1, lw_okq q := List.forall_mem_cons.mpr ⟨lw_p0, List.forall_mem_cons.mpr ⟨lw_p1, List.forall_mem_cons.mpr ⟨lw_p2, List.forall_mem_cons.mpr ⟨lw_p3, List.forall_mem_cons.mpr ⟨lw_p4, List.forall_mem_cons.mpr ⟨lw_p5, List.forall_mem_cons.mpr ⟨lw_p6, List.forall_mem_cons.mpr ⟨lw_p7, List.forall_mem_cons.mpr ⟨lw_p8, List.forall_mem_cons.mpr ⟨lw_p9, List.forall_mem_cons.mpr ⟨lw_p10, List.forall_mem_cons.mpr ⟨lw_p11, List.forall_mem_cons.mpr ⟨lw_p12, List.forall_mem_cons.mpr ⟨lw_p13, List.forall_mem_cons.mpr ⟨lw_p14, List.forall_mem_cons.mpr ⟨lw_p15, fun _ h => absurd h List.not_mem_nil⟩⟩⟩⟩⟩⟩⟩⟩⟩⟩⟩⟩⟩⟩⟩⟩
theorem lw_p16 : lw_okq (⟨"PegDiscs$Tape", "readDisc", "(LPegDiscs$Board;)Z"⟩, 5) := ⟨⟨by decide +kernel, by decide +kernel⟩, List.mem_of_getElem? (i := 25) (by decide +kernel), List.mem_of_getElem? (i := 287) (by decide +kernel), List.mem_of_getElem? (i := 288) (by decide +kernel)⟩
theorem lw_p17 : lw_okq (⟨"PegDiscs$Board", "sortAs", "(II)V"⟩, 6) := ⟨⟨by decide +kernel, by decide +kernel⟩, List.mem_of_getElem? (i := 51) (by decide +kernel), List.mem_of_getElem? (i := 294) (by decide +kernel), List.mem_of_getElem? (i := 295) (by decide +kernel)⟩
theorem lw_p18 : lw_okq (⟨"PegDiscs$Board", "layBy", "(II)V"⟩, 6) := ⟨⟨by decide +kernel, by decide +kernel⟩, List.mem_of_getElem? (i := 51) (by decide +kernel), List.mem_of_getElem? (i := 298) (by decide +kernel), List.mem_of_getElem? (i := 299) (by decide +kernel)⟩
theorem lw_p19 : lw_okq (⟨"PegDiscs$Board", "take", "(LPegDiscs$Board;)V"⟩, 6) := ⟨⟨by decide +kernel, by decide +kernel⟩, List.mem_of_getElem? (i := 51) (by decide +kernel), List.mem_of_getElem? (i := 303) (by decide +kernel), List.mem_of_getElem? (i := 304) (by decide +kernel)⟩
theorem lw_p20 : lw_okq (⟨"PegDiscs$Acts", "forget", "()V"⟩, 3) := ⟨⟨by decide +kernel, by decide +kernel⟩, List.mem_of_getElem? (i := 87) (by decide +kernel), List.mem_of_getElem? (i := 307) (by decide +kernel), List.mem_of_getElem? (i := 308) (by decide +kernel)⟩
theorem lw_p21 : lw_okq (⟨"PegDiscs$Board", "hasPeg", "(I)Z"⟩, 6) := ⟨⟨by decide +kernel, by decide +kernel⟩, List.mem_of_getElem? (i := 51) (by decide +kernel), List.mem_of_getElem? (i := 319) (by decide +kernel), List.mem_of_getElem? (i := 320) (by decide +kernel)⟩
theorem lw_p22 : lw_okq (⟨"PegDiscs$Board", "allows", "(I)Z"⟩, 6) := ⟨⟨by decide +kernel, by decide +kernel⟩, List.mem_of_getElem? (i := 51) (by decide +kernel), List.mem_of_getElem? (i := 323) (by decide +kernel), List.mem_of_getElem? (i := 324) (by decide +kernel)⟩
theorem lw_p23 : lw_okq (⟨"PegDiscs$Board", "movesNow", "()I"⟩, 6) := ⟨⟨by decide +kernel, by decide +kernel⟩, List.mem_of_getElem? (i := 51) (by decide +kernel), List.mem_of_getElem? (i := 327) (by decide +kernel), List.mem_of_getElem? (i := 328) (by decide +kernel)⟩
theorem lw_p24 : lw_okq (⟨"PegDiscs$Board", "movesFrom", "(IZ)I"⟩, 6) := ⟨⟨by decide +kernel, by decide +kernel⟩, List.mem_of_getElem? (i := 51) (by decide +kernel), List.mem_of_getElem? (i := 331) (by decide +kernel), List.mem_of_getElem? (i := 332) (by decide +kernel)⟩
theorem lw_p25 : lw_okq (⟨"PegDiscs$Board", "lyingIn", "(I)I"⟩, 6) := ⟨⟨by decide +kernel, by decide +kernel⟩, List.mem_of_getElem? (i := 51) (by decide +kernel), List.mem_of_getElem? (i := 335) (by decide +kernel), List.mem_of_getElem? (i := 336) (by decide +kernel)⟩
theorem lw_p26 : lw_okq (⟨"PegDiscs$Board", "mayGo", "(IIIZ)Z"⟩, 6) := ⟨⟨by decide +kernel, by decide +kernel⟩, List.mem_of_getElem? (i := 51) (by decide +kernel), List.mem_of_getElem? (i := 348) (by decide +kernel), List.mem_of_getElem? (i := 349) (by decide +kernel)⟩
theorem lw_p27 : lw_okq (⟨"PegDiscs$Board", "kindOf", "(I)I"⟩, 6) := ⟨⟨by decide +kernel, by decide +kernel⟩, List.mem_of_getElem? (i := 51) (by decide +kernel), List.mem_of_getElem? (i := 352) (by decide +kernel), List.mem_of_getElem? (i := 353) (by decide +kernel)⟩
theorem lw_p28 : lw_okq (⟨"PegDiscs$Board", "topOf", "(I)I"⟩, 6) := ⟨⟨by decide +kernel, by decide +kernel⟩, List.mem_of_getElem? (i := 51) (by decide +kernel), List.mem_of_getElem? (i := 357) (by decide +kernel), List.mem_of_getElem? (i := 358) (by decide +kernel)⟩
theorem lw_p29 : lw_okq (⟨"PegDiscs$Board", "lyingOn", "(I)I"⟩, 6) := ⟨⟨by decide +kernel, by decide +kernel⟩, List.mem_of_getElem? (i := 51) (by decide +kernel), List.mem_of_getElem? (i := 361) (by decide +kernel), List.mem_of_getElem? (i := 362) (by decide +kernel)⟩
theorem lw_p30 : lw_okq (⟨"PegDiscs$Acts", "keep", "(LPegDiscs$Board;)V"⟩, 3) := ⟨⟨by decide +kernel, by decide +kernel⟩, List.mem_of_getElem? (i := 87) (by decide +kernel), List.mem_of_getElem? (i := 365) (by decide +kernel), List.mem_of_getElem? (i := 366) (by decide +kernel)⟩
theorem lw_p31 : lw_okq (⟨"PegDiscs$Board", "carryOut", "(I)V"⟩, 6) := ⟨⟨by decide +kernel, by decide +kernel⟩, List.mem_of_getElem? (i := 51) (by decide +kernel), List.mem_of_getElem? (i := 370) (by decide +kernel), List.mem_of_getElem? (i := 371) (by decide +kernel)⟩
def lw_privs_2 : List (MethodName × Nat) := [(⟨"PegDiscs$Tape", "readDisc", "(LPegDiscs$Board;)Z"⟩, 5), (⟨"PegDiscs$Board", "sortAs", "(II)V"⟩, 6), (⟨"PegDiscs$Board", "layBy", "(II)V"⟩, 6), (⟨"PegDiscs$Board", "take", "(LPegDiscs$Board;)V"⟩, 6), (⟨"PegDiscs$Acts", "forget", "()V"⟩, 3), (⟨"PegDiscs$Board", "hasPeg", "(I)Z"⟩, 6), (⟨"PegDiscs$Board", "allows", "(I)Z"⟩, 6), (⟨"PegDiscs$Board", "movesNow", "()I"⟩, 6), (⟨"PegDiscs$Board", "movesFrom", "(IZ)I"⟩, 6), (⟨"PegDiscs$Board", "lyingIn", "(I)I"⟩, 6), (⟨"PegDiscs$Board", "mayGo", "(IIIZ)Z"⟩, 6), (⟨"PegDiscs$Board", "kindOf", "(I)I"⟩, 6), (⟨"PegDiscs$Board", "topOf", "(I)I"⟩, 6), (⟨"PegDiscs$Board", "lyingOn", "(I)I"⟩, 6), (⟨"PegDiscs$Acts", "keep", "(LPegDiscs$Board;)V"⟩, 3), (⟨"PegDiscs$Board", "carryOut", "(I)V"⟩, 6)]
theorem lw_r2 : ∀ q ∈ lw_privs_2, lw_okq q := List.forall_mem_cons.mpr ⟨lw_p16, List.forall_mem_cons.mpr ⟨lw_p17, List.forall_mem_cons.mpr ⟨lw_p18, List.forall_mem_cons.mpr ⟨lw_p19, List.forall_mem_cons.mpr ⟨lw_p20, List.forall_mem_cons.mpr ⟨lw_p21, List.forall_mem_cons.mpr ⟨lw_p22, List.forall_mem_cons.mpr ⟨lw_p23, List.forall_mem_cons.mpr ⟨lw_p24, List.forall_mem_cons.mpr ⟨lw_p25, List.forall_mem_cons.mpr ⟨lw_p26, List.forall_mem_cons.mpr ⟨lw_p27, List.forall_mem_cons.mpr ⟨lw_p28, List.forall_mem_cons.mpr ⟨lw_p29, List.forall_mem_cons.mpr ⟨lw_p30, List.forall_mem_cons.mpr ⟨lw_p31, fun _ h => absurd h List.not_mem_nil⟩⟩⟩⟩⟩⟩⟩⟩⟩⟩⟩⟩⟩⟩⟩⟩
theorem lw_p32 : lw_okq (⟨"PegDiscs$Board", "behind", "(II)I"⟩, 6) := ⟨⟨by decide +kernel, by decide +kernel⟩, List.mem_of_getElem? (i := 51) (by decide +kernel), List.mem_of_getElem? (i := 374) (by decide +kernel), List.mem_of_getElem? (i := 375) (by decide +kernel)⟩
theorem lw_p33 : lw_okq (⟨"PegDiscs$Board", "hasDisc", "(I)Z"⟩, 6) := ⟨⟨by decide +kernel, by decide +kernel⟩, List.mem_of_getElem? (i := 51) (by decide +kernel), List.mem_of_getElem? (i := 382) (by decide +kernel), List.mem_of_getElem? (i := 383) (by decide +kernel)⟩
theorem lw_p34 : lw_okq (⟨"PegDiscs$Board", "pegOf", "(I)I"⟩, 6) := ⟨⟨by decide +kernel, by decide +kernel⟩, List.mem_of_getElem? (i := 51) (by decide +kernel), List.mem_of_getElem? (i := 386) (by decide +kernel), List.mem_of_getElem? (i := 387) (by decide +kernel)⟩
theorem lw_p35 : lw_okq (⟨"PegDiscs$Board", "isNone", "()Z"⟩, 6) := ⟨⟨by decide +kernel, by decide +kernel⟩, List.mem_of_getElem? (i := 51) (by decide +kernel), List.mem_of_getElem? (i := 395) (by decide +kernel), List.mem_of_getElem? (i := 396) (by decide +kernel)⟩
theorem lw_p36 : lw_okq (⟨"PegDiscs$Acts", "takeBack", "(LPegDiscs$Board;)Z"⟩, 3) := ⟨⟨by decide +kernel, by decide +kernel⟩, List.mem_of_getElem? (i := 87) (by decide +kernel), List.mem_of_getElem? (i := 403) (by decide +kernel), List.mem_of_getElem? (i := 404) (by decide +kernel)⟩
theorem lw_p37 : lw_okq (⟨"PegDiscs$Board", "arrangedBy", "(LPegDiscs$Row;I)I"⟩, 6) := ⟨⟨by decide +kernel, by decide +kernel⟩, List.mem_of_getElem? (i := 51) (by decide +kernel), List.mem_of_getElem? (i := 427) (by decide +kernel), List.mem_of_getElem? (i := 428) (by decide +kernel)⟩
theorem lw_p38 : lw_okq (⟨"PegDiscs$Row", "itemAt", "(I)I"⟩, 3) := ⟨⟨by decide +kernel, by decide +kernel⟩, List.mem_of_getElem? (i := 131) (by decide +kernel), List.mem_of_getElem? (i := 431) (by decide +kernel), List.mem_of_getElem? (i := 432) (by decide +kernel)⟩
theorem lw_p39 : lw_okq (⟨"PegDiscs", "searched", "()LPegDiscs$Search;"⟩, 12) := ⟨⟨by decide +kernel, by decide +kernel⟩, List.mem_of_getElem? (i := 15) (by decide +kernel), List.mem_of_getElem? (i := 437) (by decide +kernel), List.mem_of_getElem? (i := 438) (by decide +kernel)⟩
theorem lw_p40 : lw_okq (⟨"PegDiscs$Board", "hasFutureOf", "(LPegDiscs$Board;)Z"⟩, 6) := ⟨⟨by decide +kernel, by decide +kernel⟩, List.mem_of_getElem? (i := 51) (by decide +kernel), List.mem_of_getElem? (i := 489) (by decide +kernel), List.mem_of_getElem? (i := 490) (by decide +kernel)⟩
theorem lw_p41 : lw_okq (⟨"PegDiscs$Board", "hasLawOf", "(LPegDiscs$Board;)Z"⟩, 6) := ⟨⟨by decide +kernel, by decide +kernel⟩, List.mem_of_getElem? (i := 51) (by decide +kernel), List.mem_of_getElem? (i := 493) (by decide +kernel), List.mem_of_getElem? (i := 494) (by decide +kernel)⟩
theorem lw_p42 : lw_okq (⟨"PegDiscs$Search", "begin", "(LPegDiscs$Board;)V"⟩, 11) := ⟨⟨by decide +kernel, by decide +kernel⟩, List.mem_of_getElem? (i := 441) (by decide +kernel), List.mem_of_getElem? (i := 497) (by decide +kernel), List.mem_of_getElem? (i := 498) (by decide +kernel)⟩
theorem lw_p43 : lw_okq (⟨"PegDiscs", "netNow", "()LPegDiscs$Net;"⟩, 12) := ⟨⟨by decide +kernel, by decide +kernel⟩, List.mem_of_getElem? (i := 15) (by decide +kernel), List.mem_of_getElem? (i := 504) (by decide +kernel), List.mem_of_getElem? (i := 505) (by decide +kernel)⟩
theorem lw_p44 : lw_okq (⟨"PegDiscs$Net", "lookAt", "(LPegDiscs$Board;)V"⟩, 3) := ⟨⟨by decide +kernel, by decide +kernel⟩, List.mem_of_getElem? (i := 508) (by decide +kernel), List.mem_of_getElem? (i := 528) (by decide +kernel), List.mem_of_getElem? (i := 529) (by decide +kernel)⟩
theorem lw_p45 : lw_okq (⟨"PegDiscs$Board", "hasFrail", "()Z"⟩, 6) := ⟨⟨by decide +kernel, by decide +kernel⟩, List.mem_of_getElem? (i := 51) (by decide +kernel), List.mem_of_getElem? (i := 534) (by decide +kernel), List.mem_of_getElem? (i := 535) (by decide +kernel)⟩
theorem lw_p46 : lw_okq (⟨"PegDiscs$Search", "spread", "(LPegDiscs$Net;)V"⟩, 11) := ⟨⟨by decide +kernel, by decide +kernel⟩, List.mem_of_getElem? (i := 441) (by decide +kernel), List.mem_of_getElem? (i := 539) (by decide +kernel), List.mem_of_getElem? (i := 540) (by decide +kernel)⟩
theorem lw_p47 : lw_okq (⟨"PegDiscs$Net", "start", "()I"⟩, 3) := ⟨⟨by decide +kernel, by decide +kernel⟩, List.mem_of_getElem? (i := 508) (by decide +kernel), List.mem_of_getElem? (i := 543) (by decide +kernel), List.mem_of_getElem? (i := 544) (by decide +kernel)⟩
def lw_privs_3 : List (MethodName × Nat) := [(⟨"PegDiscs$Board", "behind", "(II)I"⟩, 6), (⟨"PegDiscs$Board", "hasDisc", "(I)Z"⟩, 6), (⟨"PegDiscs$Board", "pegOf", "(I)I"⟩, 6), (⟨"PegDiscs$Board", "isNone", "()Z"⟩, 6), (⟨"PegDiscs$Acts", "takeBack", "(LPegDiscs$Board;)Z"⟩, 3), (⟨"PegDiscs$Board", "arrangedBy", "(LPegDiscs$Row;I)I"⟩, 6), (⟨"PegDiscs$Row", "itemAt", "(I)I"⟩, 3), (⟨"PegDiscs", "searched", "()LPegDiscs$Search;"⟩, 12), (⟨"PegDiscs$Board", "hasFutureOf", "(LPegDiscs$Board;)Z"⟩, 6), (⟨"PegDiscs$Board", "hasLawOf", "(LPegDiscs$Board;)Z"⟩, 6), (⟨"PegDiscs$Search", "begin", "(LPegDiscs$Board;)V"⟩, 11), (⟨"PegDiscs", "netNow", "()LPegDiscs$Net;"⟩, 12), (⟨"PegDiscs$Net", "lookAt", "(LPegDiscs$Board;)V"⟩, 3), (⟨"PegDiscs$Board", "hasFrail", "()Z"⟩, 6), (⟨"PegDiscs$Search", "spread", "(LPegDiscs$Net;)V"⟩, 11), (⟨"PegDiscs$Net", "start", "()I"⟩, 3)]
theorem lw_r3 : ∀ q ∈ lw_privs_3, lw_okq q := List.forall_mem_cons.mpr ⟨lw_p32, List.forall_mem_cons.mpr ⟨lw_p33, List.forall_mem_cons.mpr ⟨lw_p34, List.forall_mem_cons.mpr ⟨lw_p35, List.forall_mem_cons.mpr ⟨lw_p36, List.forall_mem_cons.mpr ⟨lw_p37, List.forall_mem_cons.mpr ⟨lw_p38, List.forall_mem_cons.mpr ⟨lw_p39, List.forall_mem_cons.mpr ⟨lw_p40, List.forall_mem_cons.mpr ⟨lw_p41, List.forall_mem_cons.mpr ⟨lw_p42, List.forall_mem_cons.mpr ⟨lw_p43, List.forall_mem_cons.mpr ⟨lw_p44, List.forall_mem_cons.mpr ⟨lw_p45, List.forall_mem_cons.mpr ⟨lw_p46, List.forall_mem_cons.mpr ⟨lw_p47, fun _ h => absurd h List.not_mem_nil⟩⟩⟩⟩⟩⟩⟩⟩⟩⟩⟩⟩⟩⟩⟩⟩
theorem lw_p48 : lw_okq (⟨"PegDiscs$Net", "movesAt", "(I)I"⟩, 3) := ⟨⟨by decide +kernel, by decide +kernel⟩, List.mem_of_getElem? (i := 508) (by decide +kernel), List.mem_of_getElem? (i := 547) (by decide +kernel), List.mem_of_getElem? (i := 548) (by decide +kernel)⟩
theorem lw_p49 : lw_okq (⟨"PegDiscs$Search", "noteArrangement", "(II)V"⟩, 11) := ⟨⟨by decide +kernel, by decide +kernel⟩, List.mem_of_getElem? (i := 441) (by decide +kernel), List.mem_of_getElem? (i := 552) (by decide +kernel), List.mem_of_getElem? (i := 553) (by decide +kernel)⟩
theorem lw_p50 : lw_okq (⟨"PegDiscs$Net", "stateBehind", "(II)I"⟩, 3) := ⟨⟨by decide +kernel, by decide +kernel⟩, List.mem_of_getElem? (i := 508) (by decide +kernel), List.mem_of_getElem? (i := 556) (by decide +kernel), List.mem_of_getElem? (i := 557) (by decide +kernel)⟩
theorem lw_p51 : lw_okq (⟨"PegDiscs$Search", "comeTo", "(III)V"⟩, 11) := ⟨⟨by decide +kernel, by decide +kernel⟩, List.mem_of_getElem? (i := 441) (by decide +kernel), List.mem_of_getElem? (i := 561) (by decide +kernel), List.mem_of_getElem? (i := 562) (by decide +kernel)⟩
theorem lw_p52 : lw_okq (⟨"PegDiscs$Search", "fewest", "(II)I"⟩, 11) := ⟨⟨by decide +kernel, by decide +kernel⟩, List.mem_of_getElem? (i := 441) (by decide +kernel), List.mem_of_getElem? (i := 565) (by decide +kernel), List.mem_of_getElem? (i := 566) (by decide +kernel)⟩
theorem lw_p53 : lw_okq (⟨"PegDiscs$Search", "soonestOf", "(I)I"⟩, 11) := ⟨⟨by decide +kernel, by decide +kernel⟩, List.mem_of_getElem? (i := 441) (by decide +kernel), List.mem_of_getElem? (i := 569) (by decide +kernel), List.mem_of_getElem? (i := 570) (by decide +kernel)⟩
theorem lw_p54 : lw_okq (⟨"PegDiscs$Board", "allOn", "(I)I"⟩, 6) := ⟨⟨by decide +kernel, by decide +kernel⟩, List.mem_of_getElem? (i := 51) (by decide +kernel), List.mem_of_getElem? (i := 577) (by decide +kernel), List.mem_of_getElem? (i := 578) (by decide +kernel)⟩
theorem lw_p55 : lw_okq (⟨"PegDiscs$Board", "codeOf", "(I)I"⟩, 6) := ⟨⟨by decide +kernel, by decide +kernel⟩, List.mem_of_getElem? (i := 51) (by decide +kernel), List.mem_of_getElem? (i := 585) (by decide +kernel), List.mem_of_getElem? (i := 586) (by decide +kernel)⟩
theorem lw_p56 : lw_okq (⟨"PegDiscs", "layered", "()LPegDiscs$Layers;"⟩, 12) := ⟨⟨by decide +kernel, by decide +kernel⟩, List.mem_of_getElem? (i := 15) (by decide +kernel), List.mem_of_getElem? (i := 599) (by decide +kernel), List.mem_of_getElem? (i := 600) (by decide +kernel)⟩
theorem lw_p57 : lw_okq (⟨"PegDiscs$Layers", "begin", "()V"⟩, 4) := ⟨⟨by decide +kernel, by decide +kernel⟩, List.mem_of_getElem? (i := 603) (by decide +kernel), List.mem_of_getElem? (i := 623) (by decide +kernel), List.mem_of_getElem? (i := 624) (by decide +kernel)⟩
theorem lw_p58 : lw_okq (⟨"PegDiscs$Layers", "rowsTo", "(II)J"⟩, 4) := ⟨⟨by decide +kernel, by decide +kernel⟩, List.mem_of_getElem? (i := 603) (by decide +kernel), List.mem_of_getElem? (i := 631) (by decide +kernel), List.mem_of_getElem? (i := 632) (by decide +kernel)⟩
theorem lw_p59 : lw_okq (⟨"PegDiscs$Layers", "goOn", "(Z)V"⟩, 4) := ⟨⟨by decide +kernel, by decide +kernel⟩, List.mem_of_getElem? (i := 603) (by decide +kernel), List.mem_of_getElem? (i := 635) (by decide +kernel), List.mem_of_getElem? (i := 636) (by decide +kernel)⟩
theorem lw_p60 : lw_okq (⟨"PegDiscs$Board", "arrangements", "()I"⟩, 6) := ⟨⟨by decide +kernel, by decide +kernel⟩, List.mem_of_getElem? (i := 51) (by decide +kernel), List.mem_of_getElem? (i := 639) (by decide +kernel), List.mem_of_getElem? (i := 640) (by decide +kernel)⟩
theorem lw_p61 : lw_okq (⟨"PegDiscs$Layers", "hand", "(IIJ)V"⟩, 4) := ⟨⟨by decide +kernel, by decide +kernel⟩, List.mem_of_getElem? (i := 603) (by decide +kernel), List.mem_of_getElem? (i := 645) (by decide +kernel), List.mem_of_getElem? (i := 646) (by decide +kernel)⟩
theorem lw_p62 : lw_okq (⟨"PegDiscs$Board", "firstWrong", "(LPegDiscs$Row;II)I"⟩, 6) := ⟨⟨by decide +kernel, by decide +kernel⟩, List.mem_of_getElem? (i := 51) (by decide +kernel), List.mem_of_getElem? (i := 654) (by decide +kernel), List.mem_of_getElem? (i := 655) (by decide +kernel)⟩
theorem lw_p63 : lw_okq (⟨"PegDiscs$Board", "numberOf", "(I)I"⟩, 6) := ⟨⟨by decide +kernel, by decide +kernel⟩, List.mem_of_getElem? (i := 51) (by decide +kernel), List.mem_of_getElem? (i := 658) (by decide +kernel), List.mem_of_getElem? (i := 659) (by decide +kernel)⟩
def lw_privs_4 : List (MethodName × Nat) := [(⟨"PegDiscs$Net", "movesAt", "(I)I"⟩, 3), (⟨"PegDiscs$Search", "noteArrangement", "(II)V"⟩, 11), (⟨"PegDiscs$Net", "stateBehind", "(II)I"⟩, 3), (⟨"PegDiscs$Search", "comeTo", "(III)V"⟩, 11), (⟨"PegDiscs$Search", "fewest", "(II)I"⟩, 11), (⟨"PegDiscs$Search", "soonestOf", "(I)I"⟩, 11), (⟨"PegDiscs$Board", "allOn", "(I)I"⟩, 6), (⟨"PegDiscs$Board", "codeOf", "(I)I"⟩, 6), (⟨"PegDiscs", "layered", "()LPegDiscs$Layers;"⟩, 12), (⟨"PegDiscs$Layers", "begin", "()V"⟩, 4), (⟨"PegDiscs$Layers", "rowsTo", "(II)J"⟩, 4), (⟨"PegDiscs$Layers", "goOn", "(Z)V"⟩, 4), (⟨"PegDiscs$Board", "arrangements", "()I"⟩, 6), (⟨"PegDiscs$Layers", "hand", "(IIJ)V"⟩, 4), (⟨"PegDiscs$Board", "firstWrong", "(LPegDiscs$Row;II)I"⟩, 6), (⟨"PegDiscs$Board", "numberOf", "(I)I"⟩, 6)]
theorem lw_r4 : ∀ q ∈ lw_privs_4, lw_okq q := List.forall_mem_cons.mpr ⟨lw_p48, List.forall_mem_cons.mpr ⟨lw_p49, List.forall_mem_cons.mpr ⟨lw_p50, List.forall_mem_cons.mpr ⟨lw_p51, List.forall_mem_cons.mpr ⟨lw_p52, List.forall_mem_cons.mpr ⟨lw_p53, List.forall_mem_cons.mpr ⟨lw_p54, List.forall_mem_cons.mpr ⟨lw_p55, List.forall_mem_cons.mpr ⟨lw_p56, List.forall_mem_cons.mpr ⟨lw_p57, List.forall_mem_cons.mpr ⟨lw_p58, List.forall_mem_cons.mpr ⟨lw_p59, List.forall_mem_cons.mpr ⟨lw_p60, List.forall_mem_cons.mpr ⟨lw_p61, List.forall_mem_cons.mpr ⟨lw_p62, List.forall_mem_cons.mpr ⟨lw_p63, fun _ h => absurd h List.not_mem_nil⟩⟩⟩⟩⟩⟩⟩⟩⟩⟩⟩⟩⟩⟩⟩⟩
theorem lw_p64 : lw_okq (⟨"PegDiscs", "suppose", "(III)Z"⟩, 12) := ⟨⟨by decide +kernel, by decide +kernel⟩, List.mem_of_getElem? (i := 15) (by decide +kernel), List.mem_of_getElem? (i := 669) (by decide +kernel), List.mem_of_getElem? (i := 670) (by decide +kernel)⟩
theorem lw_p65 : lw_okq (⟨"PegDiscs$Layers", "partsOn", "(III)J"⟩, 4) := ⟨⟨by decide +kernel, by decide +kernel⟩, List.mem_of_getElem? (i := 603) (by decide +kernel), List.mem_of_getElem? (i := 678) (by decide +kernel), List.mem_of_getElem? (i := 679) (by decide +kernel)⟩
theorem lw_p66 : lw_okq (⟨"PegDiscs$Layers", "weightsOn", "(IIZ)J"⟩, 4) := ⟨⟨by decide +kernel, by decide +kernel⟩, List.mem_of_getElem? (i := 603) (by decide +kernel), List.mem_of_getElem? (i := 683) (by decide +kernel), List.mem_of_getElem? (i := 684) (by decide +kernel)⟩
theorem lw_p67 : lw_okq (⟨"PegDiscs$Layers", "partsOfAll", "(I)J"⟩, 4) := ⟨⟨by decide +kernel, by decide +kernel⟩, List.mem_of_getElem? (i := 603) (by decide +kernel), List.mem_of_getElem? (i := 687) (by decide +kernel), List.mem_of_getElem? (i := 688) (by decide +kernel)⟩
theorem lw_p68 : lw_okq (⟨"PegDiscs$Board", "spendEvening", "(II)I"⟩, 6) := ⟨⟨by decide +kernel, by decide +kernel⟩, List.mem_of_getElem? (i := 51) (by decide +kernel), List.mem_of_getElem? (i := 699) (by decide +kernel), List.mem_of_getElem? (i := 700) (by decide +kernel)⟩
theorem lw_p69 : lw_okq (⟨"PegDiscs$Asker", "answer", "(LPegDiscs$Board;II)I"⟩, 6) := ⟨⟨by decide +kernel, by decide +kernel⟩, List.mem_of_getElem? (i := 107) (by decide +kernel), List.mem_of_getElem? (i := 732) (by decide +kernel), List.mem_of_getElem? (i := 733) (by decide +kernel)⟩
theorem lw_p70 : lw_okq (⟨"PegDiscs$Asker", "give", "(II)I"⟩, 6) := ⟨⟨by decide +kernel, by decide +kernel⟩, List.mem_of_getElem? (i := 107) (by decide +kernel), List.mem_of_getElem? (i := 744) (by decide +kernel), List.mem_of_getElem? (i := 745) (by decide +kernel)⟩
theorem lw_p71 : lw_okq (⟨"PegDiscs$Asker", "leaveNumber", "(I)V"⟩, 6) := ⟨⟨by decide +kernel, by decide +kernel⟩, List.mem_of_getElem? (i := 107) (by decide +kernel), List.mem_of_getElem? (i := 748) (by decide +kernel), List.mem_of_getElem? (i := 749) (by decide +kernel)⟩
theorem lw_p72 : lw_okq (⟨"PegDiscs$Asker", "tracedAt", "(I)I"⟩, 6) := ⟨⟨by decide +kernel, by decide +kernel⟩, List.mem_of_getElem? (i := 107) (by decide +kernel), List.mem_of_getElem? (i := 756) (by decide +kernel), List.mem_of_getElem? (i := 757) (by decide +kernel)⟩
theorem lw_p73 : lw_okq (⟨"PegDiscs", "rowsThere", "()I"⟩, 12) := ⟨⟨by decide +kernel, by decide +kernel⟩, List.mem_of_getElem? (i := 15) (by decide +kernel), List.mem_of_getElem? (i := 765) (by decide +kernel), List.mem_of_getElem? (i := 766) (by decide +kernel)⟩
theorem lw_p74 : lw_okq (⟨"PegDiscsModel", "finds", "(I)I"⟩, 24) := ⟨⟨by decide +kernel, by decide +kernel⟩, List.mem_of_getElem? (i := 773) (by decide +kernel), List.mem_of_getElem? (i := 867) (by decide +kernel), List.mem_of_getElem? (i := 868) (by decide +kernel)⟩
theorem lw_p75 : lw_okq (⟨"PegDiscsModel", "good", "(I)I"⟩, 24) := ⟨⟨by decide +kernel, by decide +kernel⟩, List.mem_of_getElem? (i := 773) (by decide +kernel), List.mem_of_getElem? (i := 872) (by decide +kernel), List.mem_of_getElem? (i := 873) (by decide +kernel)⟩
theorem lw_p76 : lw_okq (⟨"PegDiscsModel", "isWithin", "(III)Z"⟩, 24) := ⟨⟨by decide +kernel, by decide +kernel⟩, List.mem_of_getElem? (i := 773) (by decide +kernel), List.mem_of_getElem? (i := 887) (by decide +kernel), List.mem_of_getElem? (i := 888) (by decide +kernel)⟩
theorem lw_p77 : lw_okq (⟨"PegDiscsModel", "sign", "(I)V"⟩, 24) := ⟨⟨by decide +kernel, by decide +kernel⟩, List.mem_of_getElem? (i := 773) (by decide +kernel), List.mem_of_getElem? (i := 905) (by decide +kernel), List.mem_of_getElem? (i := 906) (by decide +kernel)⟩
theorem lw_p78 : lw_okq (⟨"PegDiscsModel", "byteAt", "(I)I"⟩, 24) := ⟨⟨by decide +kernel, by decide +kernel⟩, List.mem_of_getElem? (i := 773) (by decide +kernel), List.mem_of_getElem? (i := 909) (by decide +kernel), List.mem_of_getElem? (i := 910) (by decide +kernel)⟩
theorem lw_p79 : lw_okq (⟨"PegDiscsModel", "fails", "(II)V"⟩, 24) := ⟨⟨by decide +kernel, by decide +kernel⟩, List.mem_of_getElem? (i := 773) (by decide +kernel), List.mem_of_getElem? (i := 913) (by decide +kernel), List.mem_of_getElem? (i := 914) (by decide +kernel)⟩
def lw_privs_5 : List (MethodName × Nat) := [(⟨"PegDiscs", "suppose", "(III)Z"⟩, 12), (⟨"PegDiscs$Layers", "partsOn", "(III)J"⟩, 4), (⟨"PegDiscs$Layers", "weightsOn", "(IIZ)J"⟩, 4), (⟨"PegDiscs$Layers", "partsOfAll", "(I)J"⟩, 4), (⟨"PegDiscs$Board", "spendEvening", "(II)I"⟩, 6), (⟨"PegDiscs$Asker", "answer", "(LPegDiscs$Board;II)I"⟩, 6), (⟨"PegDiscs$Asker", "give", "(II)I"⟩, 6), (⟨"PegDiscs$Asker", "leaveNumber", "(I)V"⟩, 6), (⟨"PegDiscs$Asker", "tracedAt", "(I)I"⟩, 6), (⟨"PegDiscs", "rowsThere", "()I"⟩, 12), (⟨"PegDiscsModel", "finds", "(I)I"⟩, 24), (⟨"PegDiscsModel", "good", "(I)I"⟩, 24), (⟨"PegDiscsModel", "isWithin", "(III)Z"⟩, 24), (⟨"PegDiscsModel", "sign", "(I)V"⟩, 24), (⟨"PegDiscsModel", "byteAt", "(I)I"⟩, 24), (⟨"PegDiscsModel", "fails", "(II)V"⟩, 24)]
theorem lw_r5 : ∀ q ∈ lw_privs_5, lw_okq q := List.forall_mem_cons.mpr ⟨lw_p64, List.forall_mem_cons.mpr ⟨lw_p65, List.forall_mem_cons.mpr ⟨lw_p66, List.forall_mem_cons.mpr ⟨lw_p67, List.forall_mem_cons.mpr ⟨lw_p68, List.forall_mem_cons.mpr ⟨lw_p69, List.forall_mem_cons.mpr ⟨lw_p70, List.forall_mem_cons.mpr ⟨lw_p71, List.forall_mem_cons.mpr ⟨lw_p72, List.forall_mem_cons.mpr ⟨lw_p73, List.forall_mem_cons.mpr ⟨lw_p74, List.forall_mem_cons.mpr ⟨lw_p75, List.forall_mem_cons.mpr ⟨lw_p76, List.forall_mem_cons.mpr ⟨lw_p77, List.forall_mem_cons.mpr ⟨lw_p78, List.forall_mem_cons.mpr ⟨lw_p79, fun _ h => absurd h List.not_mem_nil⟩⟩⟩⟩⟩⟩⟩⟩⟩⟩⟩⟩⟩⟩⟩⟩
theorem lw_p80 : lw_okq (⟨"PegDiscsModel", "number", "(III)I"⟩, 24) := ⟨⟨by decide +kernel, by decide +kernel⟩, List.mem_of_getElem? (i := 773) (by decide +kernel), List.mem_of_getElem? (i := 917) (by decide +kernel), List.mem_of_getElem? (i := 918) (by decide +kernel)⟩
theorem lw_p81 : lw_okq (⟨"PegDiscsModel", "discItem", "(I)V"⟩, 24) := ⟨⟨by decide +kernel, by decide +kernel⟩, List.mem_of_getElem? (i := 773) (by decide +kernel), List.mem_of_getElem? (i := 923) (by decide +kernel), List.mem_of_getElem? (i := 924) (by decide +kernel)⟩
theorem lw_p82 : lw_okq (⟨"PegDiscsModel", "copies", "(II)V"⟩, 24) := ⟨⟨by decide +kernel, by decide +kernel⟩, List.mem_of_getElem? (i := 773) (by decide +kernel), List.mem_of_getElem? (i := 934) (by decide +kernel), List.mem_of_getElem? (i := 935) (by decide +kernel)⟩
theorem lw_p83 : lw_okq (⟨"PegDiscsModel", "isPeg", "(I)Z"⟩, 24) := ⟨⟨by decide +kernel, by decide +kernel⟩, List.mem_of_getElem? (i := 773) (by decide +kernel), List.mem_of_getElem? (i := 946) (by decide +kernel), List.mem_of_getElem? (i := 947) (by decide +kernel)⟩
theorem lw_p84 : lw_okq (⟨"PegDiscsModel", "asTold", "()V"⟩, 24) := ⟨⟨by decide +kernel, by decide +kernel⟩, List.mem_of_getElem? (i := 773) (by decide +kernel), List.mem_of_getElem? (i := 950) (by decide +kernel), List.mem_of_getElem? (i := 951) (by decide +kernel)⟩
theorem lw_p85 : lw_okq (⟨"PegDiscsModel", "state", "()I"⟩, 24) := ⟨⟨by decide +kernel, by decide +kernel⟩, List.mem_of_getElem? (i := 773) (by decide +kernel), List.mem_of_getElem? (i := 954) (by decide +kernel), List.mem_of_getElem? (i := 955) (by decide +kernel)⟩
theorem lw_p86 : lw_okq (⟨"PegDiscsModel", "mover", "(III)I"⟩, 24) := ⟨⟨by decide +kernel, by decide +kernel⟩, List.mem_of_getElem? (i := 773) (by decide +kernel), List.mem_of_getElem? (i := 958) (by decide +kernel), List.mem_of_getElem? (i := 959) (by decide +kernel)⟩
theorem lw_p87 : lw_okq (⟨"PegDiscsModel", "lying", "(II)I"⟩, 24) := ⟨⟨by decide +kernel, by decide +kernel⟩, List.mem_of_getElem? (i := 773) (by decide +kernel), List.mem_of_getElem? (i := 962) (by decide +kernel), List.mem_of_getElem? (i := 963) (by decide +kernel)⟩
theorem lw_p88 : lw_okq (⟨"PegDiscsModel", "kindTold", "(I)I"⟩, 24) := ⟨⟨by decide +kernel, by decide +kernel⟩, List.mem_of_getElem? (i := 773) (by decide +kernel), List.mem_of_getElem? (i := 975) (by decide +kernel), List.mem_of_getElem? (i := 976) (by decide +kernel)⟩
theorem lw_p89 : lw_okq (⟨"PegDiscsModel", "known", "()V"⟩, 24) := ⟨⟨by decide +kernel, by decide +kernel⟩, List.mem_of_getElem? (i := 773) (by decide +kernel), List.mem_of_getElem? (i := 983) (by decide +kernel), List.mem_of_getElem? (i := 984) (by decide +kernel)⟩
theorem lw_p90 : lw_okq (⟨"PegDiscsModel", "isDisc", "(I)Z"⟩, 24) := ⟨⟨by decide +kernel, by decide +kernel⟩, List.mem_of_getElem? (i := 773) (by decide +kernel), List.mem_of_getElem? (i := 991) (by decide +kernel), List.mem_of_getElem? (i := 992) (by decide +kernel)⟩
theorem lw_p91 : lw_okq (⟨"PegDiscsModel", "isBoard", "()Z"⟩, 24) := ⟨⟨by decide +kernel, by decide +kernel⟩, List.mem_of_getElem? (i := 773) (by decide +kernel), List.mem_of_getElem? (i := 999) (by decide +kernel), List.mem_of_getElem? (i := 1000) (by decide +kernel)⟩
theorem lw_p92 : lw_okq (⟨"PegDiscsModel", "movesOf", "(I)I"⟩, 24) := ⟨⟨by decide +kernel, by decide +kernel⟩, List.mem_of_getElem? (i := 773) (by decide +kernel), List.mem_of_getElem? (i := 1021) (by decide +kernel), List.mem_of_getElem? (i := 1022) (by decide +kernel)⟩
theorem lw_p93 : lw_okq (⟨"PegDiscsModel", "wrongOf", "(III)I"⟩, 24) := ⟨⟨by decide +kernel, by decide +kernel⟩, List.mem_of_getElem? (i := 773) (by decide +kernel), List.mem_of_getElem? (i := 1029) (by decide +kernel), List.mem_of_getElem? (i := 1030) (by decide +kernel)⟩
theorem lw_p94 : lw_okq (⟨"PegDiscsModel", "told", "(II)I"⟩, 24) := ⟨⟨by decide +kernel, by decide +kernel⟩, List.mem_of_getElem? (i := 773) (by decide +kernel), List.mem_of_getElem? (i := 1033) (by decide +kernel), List.mem_of_getElem? (i := 1034) (by decide +kernel)⟩
theorem lw_p95 : lw_okq (⟨"PegDiscsModel", "leastTo", "(II)I"⟩, 24) := ⟨⟨by decide +kernel, by decide +kernel⟩, List.mem_of_getElem? (i := 773) (by decide +kernel), List.mem_of_getElem? (i := 1037) (by decide +kernel), List.mem_of_getElem? (i := 1038) (by decide +kernel)⟩
def lw_privs_6 : List (MethodName × Nat) := [(⟨"PegDiscsModel", "number", "(III)I"⟩, 24), (⟨"PegDiscsModel", "discItem", "(I)V"⟩, 24), (⟨"PegDiscsModel", "copies", "(II)V"⟩, 24), (⟨"PegDiscsModel", "isPeg", "(I)Z"⟩, 24), (⟨"PegDiscsModel", "asTold", "()V"⟩, 24), (⟨"PegDiscsModel", "state", "()I"⟩, 24), (⟨"PegDiscsModel", "mover", "(III)I"⟩, 24), (⟨"PegDiscsModel", "lying", "(II)I"⟩, 24), (⟨"PegDiscsModel", "kindTold", "(I)I"⟩, 24), (⟨"PegDiscsModel", "known", "()V"⟩, 24), (⟨"PegDiscsModel", "isDisc", "(I)Z"⟩, 24), (⟨"PegDiscsModel", "isBoard", "()Z"⟩, 24), (⟨"PegDiscsModel", "movesOf", "(I)I"⟩, 24), (⟨"PegDiscsModel", "wrongOf", "(III)I"⟩, 24), (⟨"PegDiscsModel", "told", "(II)I"⟩, 24), (⟨"PegDiscsModel", "leastTo", "(II)I"⟩, 24)]
theorem lw_r6 : ∀ q ∈ lw_privs_6, lw_okq q := List.forall_mem_cons.mpr ⟨lw_p80, List.forall_mem_cons.mpr ⟨lw_p81, List.forall_mem_cons.mpr ⟨lw_p82, List.forall_mem_cons.mpr ⟨lw_p83, List.forall_mem_cons.mpr ⟨lw_p84, List.forall_mem_cons.mpr ⟨lw_p85, List.forall_mem_cons.mpr ⟨lw_p86, List.forall_mem_cons.mpr ⟨lw_p87, List.forall_mem_cons.mpr ⟨lw_p88, List.forall_mem_cons.mpr ⟨lw_p89, List.forall_mem_cons.mpr ⟨lw_p90, List.forall_mem_cons.mpr ⟨lw_p91, List.forall_mem_cons.mpr ⟨lw_p92, List.forall_mem_cons.mpr ⟨lw_p93, List.forall_mem_cons.mpr ⟨lw_p94, List.forall_mem_cons.mpr ⟨lw_p95, fun _ h => absurd h List.not_mem_nil⟩⟩⟩⟩⟩⟩⟩⟩⟩⟩⟩⟩⟩⟩⟩⟩
theorem lw_p96 : lw_okq (⟨"PegDiscsModel", "spreads", "()V"⟩, 24) := ⟨⟨by decide +kernel, by decide +kernel⟩, List.mem_of_getElem? (i := 773) (by decide +kernel), List.mem_of_getElem? (i := 1041) (by decide +kernel), List.mem_of_getElem? (i := 1042) (by decide +kernel)⟩
theorem lw_p97 : lw_okq (⟨"PegDiscsModel", "behind", "(II)I"⟩, 24) := ⟨⟨by decide +kernel, by decide +kernel⟩, List.mem_of_getElem? (i := 773) (by decide +kernel), List.mem_of_getElem? (i := 1045) (by decide +kernel), List.mem_of_getElem? (i := 1046) (by decide +kernel)⟩
theorem lw_p98 : lw_okq (⟨"PegDiscsModel", "farTo", "(I)I"⟩, 24) := ⟨⟨by decide +kernel, by decide +kernel⟩, List.mem_of_getElem? (i := 773) (by decide +kernel), List.mem_of_getElem? (i := 1052) (by decide +kernel), List.mem_of_getElem? (i := 1053) (by decide +kernel)⟩
theorem lw_p99 : lw_okq (⟨"PegDiscsModel", "kth", "(III)I"⟩, 24) := ⟨⟨by decide +kernel, by decide +kernel⟩, List.mem_of_getElem? (i := 773) (by decide +kernel), List.mem_of_getElem? (i := 1056) (by decide +kernel), List.mem_of_getElem? (i := 1057) (by decide +kernel)⟩
theorem lw_p100 : lw_okq (⟨"PegDiscsModel", "codeOf", "(I)I"⟩, 24) := ⟨⟨by decide +kernel, by decide +kernel⟩, List.mem_of_getElem? (i := 773) (by decide +kernel), List.mem_of_getElem? (i := 1069) (by decide +kernel), List.mem_of_getElem? (i := 1070) (by decide +kernel)⟩
theorem lw_p101 : lw_okq (⟨"PegDiscsModel", "beginsWays", "()V"⟩, 24) := ⟨⟨by decide +kernel, by decide +kernel⟩, List.mem_of_getElem? (i := 773) (by decide +kernel), List.mem_of_getElem? (i := 1087) (by decide +kernel), List.mem_of_getElem? (i := 1088) (by decide +kernel)⟩
theorem lw_p102 : lw_okq (⟨"PegDiscsModel", "stepWays", "(Z)V"⟩, 24) := ⟨⟨by decide +kernel, by decide +kernel⟩, List.mem_of_getElem? (i := 773) (by decide +kernel), List.mem_of_getElem? (i := 1091) (by decide +kernel), List.mem_of_getElem? (i := 1092) (by decide +kernel)⟩
theorem lw_p103 : lw_okq (⟨"PegDiscsModel", "judged", "(IIII)I"⟩, 24) := ⟨⟨by decide +kernel, by decide +kernel⟩, List.mem_of_getElem? (i := 773) (by decide +kernel), List.mem_of_getElem? (i := 1101) (by decide +kernel), List.mem_of_getElem? (i := 1102) (by decide +kernel)⟩
theorem lw_p104 : lw_okq (⟨"PegDiscsModel", "plainMark", "(I)I"⟩, 24) := ⟨⟨by decide +kernel, by decide +kernel⟩, List.mem_of_getElem? (i := 773) (by decide +kernel), List.mem_of_getElem? (i := 1144) (by decide +kernel), List.mem_of_getElem? (i := 1145) (by decide +kernel)⟩
theorem lw_p105 : lw_okq (⟨"PegDiscsModel", "body24", "(I)I"⟩, 24) := ⟨⟨by decide +kernel, by decide +kernel⟩, List.mem_of_getElem? (i := 773) (by decide +kernel), List.mem_of_getElem? (i := 1148) (by decide +kernel), List.mem_of_getElem? (i := 1149) (by decide +kernel)⟩
theorem lw_p106 : lw_okq (⟨"PegDiscsModel", "leaves", "(I)V"⟩, 24) := ⟨⟨by decide +kernel, by decide +kernel⟩, List.mem_of_getElem? (i := 773) (by decide +kernel), List.mem_of_getElem? (i := 1152) (by decide +kernel), List.mem_of_getElem? (i := 1153) (by decide +kernel)⟩
theorem lw_p107 : lw_okq (⟨"PegDiscsModel", "body21", "(I)I"⟩, 24) := ⟨⟨by decide +kernel, by decide +kernel⟩, List.mem_of_getElem? (i := 773) (by decide +kernel), List.mem_of_getElem? (i := 1156) (by decide +kernel), List.mem_of_getElem? (i := 1157) (by decide +kernel)⟩
theorem lw_p108 : lw_okq (⟨"PegDiscsModel", "body20", "(I)I"⟩, 24) := ⟨⟨by decide +kernel, by decide +kernel⟩, List.mem_of_getElem? (i := 773) (by decide +kernel), List.mem_of_getElem? (i := 1160) (by decide +kernel), List.mem_of_getElem? (i := 1161) (by decide +kernel)⟩
theorem lw_p109 : lw_okq (⟨"PegDiscsModel", "many", "(I)I"⟩, 24) := ⟨⟨by decide +kernel, by decide +kernel⟩, List.mem_of_getElem? (i := 773) (by decide +kernel), List.mem_of_getElem? (i := 1164) (by decide +kernel), List.mem_of_getElem? (i := 1165) (by decide +kernel)⟩
theorem lw_p110 : lw_okq (⟨"PegDiscsModel", "body22", "(I)I"⟩, 24) := ⟨⟨by decide +kernel, by decide +kernel⟩, List.mem_of_getElem? (i := 773) (by decide +kernel), List.mem_of_getElem? (i := 1168) (by decide +kernel), List.mem_of_getElem? (i := 1169) (by decide +kernel)⟩
theorem lw_p111 : lw_okq (⟨"PegDiscsModel", "body23", "(I)I"⟩, 24) := ⟨⟨by decide +kernel, by decide +kernel⟩, List.mem_of_getElem? (i := 773) (by decide +kernel), List.mem_of_getElem? (i := 1172) (by decide +kernel), List.mem_of_getElem? (i := 1173) (by decide +kernel)⟩
def lw_privs_7 : List (MethodName × Nat) := [(⟨"PegDiscsModel", "spreads", "()V"⟩, 24), (⟨"PegDiscsModel", "behind", "(II)I"⟩, 24), (⟨"PegDiscsModel", "farTo", "(I)I"⟩, 24), (⟨"PegDiscsModel", "kth", "(III)I"⟩, 24), (⟨"PegDiscsModel", "codeOf", "(I)I"⟩, 24), (⟨"PegDiscsModel", "beginsWays", "()V"⟩, 24), (⟨"PegDiscsModel", "stepWays", "(Z)V"⟩, 24), (⟨"PegDiscsModel", "judged", "(IIII)I"⟩, 24), (⟨"PegDiscsModel", "plainMark", "(I)I"⟩, 24), (⟨"PegDiscsModel", "body24", "(I)I"⟩, 24), (⟨"PegDiscsModel", "leaves", "(I)V"⟩, 24), (⟨"PegDiscsModel", "body21", "(I)I"⟩, 24), (⟨"PegDiscsModel", "body20", "(I)I"⟩, 24), (⟨"PegDiscsModel", "many", "(I)I"⟩, 24), (⟨"PegDiscsModel", "body22", "(I)I"⟩, 24), (⟨"PegDiscsModel", "body23", "(I)I"⟩, 24)]
theorem lw_r7 : ∀ q ∈ lw_privs_7, lw_okq q := List.forall_mem_cons.mpr ⟨lw_p96, List.forall_mem_cons.mpr ⟨lw_p97, List.forall_mem_cons.mpr ⟨lw_p98, List.forall_mem_cons.mpr ⟨lw_p99, List.forall_mem_cons.mpr ⟨lw_p100, List.forall_mem_cons.mpr ⟨lw_p101, List.forall_mem_cons.mpr ⟨lw_p102, List.forall_mem_cons.mpr ⟨lw_p103, List.forall_mem_cons.mpr ⟨lw_p104, List.forall_mem_cons.mpr ⟨lw_p105, List.forall_mem_cons.mpr ⟨lw_p106, List.forall_mem_cons.mpr ⟨lw_p107, List.forall_mem_cons.mpr ⟨lw_p108, List.forall_mem_cons.mpr ⟨lw_p109, List.forall_mem_cons.mpr ⟨lw_p110, List.forall_mem_cons.mpr ⟨lw_p111, fun _ h => absurd h List.not_mem_nil⟩⟩⟩⟩⟩⟩⟩⟩⟩⟩⟩⟩⟩⟩⟩⟩
theorem lw_p112 : lw_okq (⟨"PegDiscsModel", "glassSize", "(I)I"⟩, 24) := ⟨⟨by decide +kernel, by decide +kernel⟩, List.mem_of_getElem? (i := 773) (by decide +kernel), List.mem_of_getElem? (i := 1176) (by decide +kernel), List.mem_of_getElem? (i := 1177) (by decide +kernel)⟩
theorem lw_p113 : lw_okq (⟨"PegDiscsModel", "body14", "(I)I"⟩, 24) := ⟨⟨by decide +kernel, by decide +kernel⟩, List.mem_of_getElem? (i := 773) (by decide +kernel), List.mem_of_getElem? (i := 1180) (by decide +kernel), List.mem_of_getElem? (i := 1181) (by decide +kernel)⟩
theorem lw_p114 : lw_okq (⟨"PegDiscsModel", "body13", "(I)I"⟩, 24) := ⟨⟨by decide +kernel, by decide +kernel⟩, List.mem_of_getElem? (i := 773) (by decide +kernel), List.mem_of_getElem? (i := 1184) (by decide +kernel), List.mem_of_getElem? (i := 1185) (by decide +kernel)⟩
theorem lw_p115 : lw_okq (⟨"PegDiscsModel", "body10", "(I)I"⟩, 24) := ⟨⟨by decide +kernel, by decide +kernel⟩, List.mem_of_getElem? (i := 773) (by decide +kernel), List.mem_of_getElem? (i := 1188) (by decide +kernel), List.mem_of_getElem? (i := 1189) (by decide +kernel)⟩
theorem lw_p116 : lw_okq (⟨"PegDiscsModel", "body12", "(I)I"⟩, 24) := ⟨⟨by decide +kernel, by decide +kernel⟩, List.mem_of_getElem? (i := 773) (by decide +kernel), List.mem_of_getElem? (i := 1192) (by decide +kernel), List.mem_of_getElem? (i := 1193) (by decide +kernel)⟩
theorem lw_p117 : lw_okq (⟨"PegDiscsModel", "body11", "(I)I"⟩, 24) := ⟨⟨by decide +kernel, by decide +kernel⟩, List.mem_of_getElem? (i := 773) (by decide +kernel), List.mem_of_getElem? (i := 1196) (by decide +kernel), List.mem_of_getElem? (i := 1197) (by decide +kernel)⟩
def lw_privs_8 : List (MethodName × Nat) := [(⟨"PegDiscsModel", "glassSize", "(I)I"⟩, 24), (⟨"PegDiscsModel", "body14", "(I)I"⟩, 24), (⟨"PegDiscsModel", "body13", "(I)I"⟩, 24), (⟨"PegDiscsModel", "body10", "(I)I"⟩, 24), (⟨"PegDiscsModel", "body12", "(I)I"⟩, 24), (⟨"PegDiscsModel", "body11", "(I)I"⟩, 24)]
theorem lw_r8 : ∀ q ∈ lw_privs_8, lw_okq q := List.forall_mem_cons.mpr ⟨lw_p112, List.forall_mem_cons.mpr ⟨lw_p113, List.forall_mem_cons.mpr ⟨lw_p114, List.forall_mem_cons.mpr ⟨lw_p115, List.forall_mem_cons.mpr ⟨lw_p116, List.forall_mem_cons.mpr ⟨lw_p117, fun _ h => absurd h List.not_mem_nil⟩⟩⟩⟩⟩⟩
def lw_privs : List (MethodName × Nat) := lw_privs_1 ++ (lw_privs_2 ++ (lw_privs_3 ++ (lw_privs_4 ++ (lw_privs_5 ++ (lw_privs_6 ++ (lw_privs_7 ++ (lw_privs_8)))))))
def lw_tbl : List Cond := k2_sels lw_privs ++ tables_1
theorem lw_privs_ok : ∀ q ∈ lw_privs, lw_okq q := by
  show ∀ q ∈ lw_privs_1 ++ (lw_privs_2 ++ (lw_privs_3 ++ (lw_privs_4 ++ (lw_privs_5 ++ (lw_privs_6 ++ (lw_privs_7 ++ (lw_privs_8))))))), lw_okq q
  exact List.forall_mem_append.mpr ⟨lw_r1, List.forall_mem_append.mpr ⟨lw_r2, List.forall_mem_append.mpr ⟨lw_r3, List.forall_mem_append.mpr ⟨lw_r4, List.forall_mem_append.mpr ⟨lw_r5, List.forall_mem_append.mpr ⟨lw_r6, List.forall_mem_append.mpr ⟨lw_r7, lw_r8⟩⟩⟩⟩⟩⟩⟩
-- ===== end of PART A; then your names; then what follows =====
end
section
def RX0 : String := "PegDiscs$Acts"
def TX0 : u_T := fun k => match k with
  | 0 => ("PegDiscs$Acts", "before", "[LPegDiscs$Board;", true)
  | 1 => ("PegDiscs$Acts", "next", "I", false)
  | _ => ("PegDiscs$Acts", "kept", "I", false)
def tyX0 : Nat → FieldType := fun k => match k with
  | 0 => .array (.object "PegDiscs$Board")
  | 1 => .int
  | _ => .int
theorem nmX0 : ∀ a, a < 3 → ∀ b, b < 3 → a ≠ b → (TX0 a).2.1 ≠ (TX0 b).2.1 := by decide +kernel
theorem tyX0_ok : ∀ k, k < 3 → parseFieldDescriptor (TX0 k).2.2.1 = some (tyX0 k) := by decide +kernel
abbrev cX0_init : ByteArray := prog_2_method_1_code
def yX0_init : MethodName := ⟨RX0, "<init>", "()V"⟩
abbrev cX0_keep : ByteArray := prog_2_method_2_code
def yX0_keep : MethodName := ⟨RX0, "keep", "(LPegDiscs$Board;)V"⟩
abbrev cX0_takeBack : ByteArray := prog_2_method_3_code
def yX0_takeBack : MethodName := ⟨RX0, "takeBack", "(LPegDiscs$Board;)Z"⟩
abbrev cX0_forget : ByteArray := prog_2_method_4_code
def yX0_forget : MethodName := ⟨RX0, "forget", "()V"⟩
def RX1 : String := "PegDiscs$Asker"
def TX1 : u_T := fun k => match k with
  | 0 => ("PegDiscs$Asker", "traced", "[I", true)
  | 1 => ("PegDiscs$Asker", "length", "I", false)
  | 2 => ("PegDiscs$Asker", "number", "I", false)
  | 3 => ("PegDiscs$Asker", "sort", "I", false)
  | 4 => ("PegDiscs$Asker", "on", "I", false)
  | _ => ("PegDiscs$Asker", "beside", "I", false)
def tyX1 : Nat → FieldType := fun k => match k with
  | 0 => .array .int
  | 1 => .int
  | 2 => .int
  | 3 => .int
  | 4 => .int
  | _ => .int
theorem nmX1 : ∀ a, a < 6 → ∀ b, b < 6 → a ≠ b → (TX1 a).2.1 ≠ (TX1 b).2.1 := by decide +kernel
theorem tyX1_ok : ∀ k, k < 6 → parseFieldDescriptor (TX1 k).2.2.1 = some (tyX1 k) := by decide +kernel
abbrev cX1_init : ByteArray := prog_3_method_1_code
def yX1_init : MethodName := ⟨RX1, "<init>", "()V"⟩
abbrev cX1_answer : ByteArray := prog_3_method_2_code
def yX1_answer : MethodName := ⟨RX1, "answer", "(LPegDiscs$Board;II)I"⟩
abbrev cX1_tracedAt : ByteArray := prog_3_method_3_code
def yX1_tracedAt : MethodName := ⟨RX1, "tracedAt", "(I)I"⟩
abbrev cX1_give : ByteArray := prog_3_method_4_code
def yX1_give : MethodName := ⟨RX1, "give", "(II)I"⟩
abbrev cX1_leaveNumber : ByteArray := prog_3_method_5_code
def yX1_leaveNumber : MethodName := ⟨RX1, "leaveNumber", "(I)V"⟩
def RX2 : String := "PegDiscs$Board"
def TX2 : u_T := fun k => match k with
  | 0 => ("PegDiscs$Board", "pegs", "I", false)
  | 1 => ("PegDiscs$Board", "discs", "I", false)
  | 2 => ("PegDiscs$Board", "high", "I", false)
  | 3 => ("PegDiscs$Board", "moves", "I", false)
  | 4 => ("PegDiscs$Board", "kinds", "I", false)
  | _ => ("PegDiscs$Board", "arranged", "I", false)
def tyX2 : Nat → FieldType := fun k => match k with
  | 0 => .int
  | 1 => .int
  | 2 => .int
  | 3 => .int
  | 4 => .int
  | _ => .int
theorem nmX2 : ∀ a, a < 6 → ∀ b, b < 6 → a ≠ b → (TX2 a).2.1 ≠ (TX2 b).2.1 := by decide +kernel
theorem tyX2_ok : ∀ k, k < 6 → parseFieldDescriptor (TX2 k).2.2.1 = some (tyX2 k) := by decide +kernel
abbrev cX2_init : ByteArray := prog_4_method_1_code
def yX2_init : MethodName := ⟨RX2, "<init>", "()V"⟩
abbrev cX2_clear : ByteArray := prog_4_method_2_code
def yX2_clear : MethodName := ⟨RX2, "clear", "()V"⟩
abbrev cX2_take : ByteArray := prog_4_method_3_code
def yX2_take : MethodName := ⟨RX2, "take", "(LPegDiscs$Board;)V"⟩
abbrev cX2_isNone : ByteArray := prog_4_method_4_code
def yX2_isNone : MethodName := ⟨RX2, "isNone", "()Z"⟩
abbrev cX2_hasPeg : ByteArray := prog_4_method_5_code
def yX2_hasPeg : MethodName := ⟨RX2, "hasPeg", "(I)Z"⟩
abbrev cX2_hasDisc : ByteArray := prog_4_method_6_code
def yX2_hasDisc : MethodName := ⟨RX2, "hasDisc", "(I)Z"⟩
abbrev cX2_pegOf : ByteArray := prog_4_method_7_code
def yX2_pegOf : MethodName := ⟨RX2, "pegOf", "(I)I"⟩
abbrev cX2_kindOf : ByteArray := prog_4_method_8_code
def yX2_kindOf : MethodName := ⟨RX2, "kindOf", "(I)I"⟩
abbrev cX2_layBy : ByteArray := prog_4_method_9_code
def yX2_layBy : MethodName := ⟨RX2, "layBy", "(II)V"⟩
abbrev cX2_sortAs : ByteArray := prog_4_method_10_code
def yX2_sortAs : MethodName := ⟨RX2, "sortAs", "(II)V"⟩
abbrev cX2_hasLawOf : ByteArray := prog_4_method_11_code
def yX2_hasLawOf : MethodName := ⟨RX2, "hasLawOf", "(LPegDiscs$Board;)Z"⟩
abbrev cX2_hasFutureOf : ByteArray := prog_4_method_12_code
def yX2_hasFutureOf : MethodName := ⟨RX2, "hasFutureOf", "(LPegDiscs$Board;)Z"⟩
abbrev cX2_hasFrail : ByteArray := prog_4_method_13_code
def yX2_hasFrail : MethodName := ⟨RX2, "hasFrail", "()Z"⟩
abbrev cX2_arrangements : ByteArray := prog_4_method_14_code
def yX2_arrangements : MethodName := ⟨RX2, "arrangements", "()I"⟩
abbrev cX2_allOn : ByteArray := prog_4_method_15_code
def yX2_allOn : MethodName := ⟨RX2, "allOn", "(I)I"⟩
abbrev cX2_arrangedBy : ByteArray := prog_4_method_16_code
def yX2_arrangedBy : MethodName := ⟨RX2, "arrangedBy", "(LPegDiscs$Row;I)I"⟩
abbrev cX2_codeOf : ByteArray := prog_4_method_17_code
def yX2_codeOf : MethodName := ⟨RX2, "codeOf", "(I)I"⟩
abbrev cX2_lyingOn : ByteArray := prog_4_method_18_code
def yX2_lyingOn : MethodName := ⟨RX2, "lyingOn", "(I)I"⟩
abbrev cX2_topOf : ByteArray := prog_4_method_19_code
def yX2_topOf : MethodName := ⟨RX2, "topOf", "(I)I"⟩
abbrev cX2_lyingIn : ByteArray := prog_4_method_20_code
def yX2_lyingIn : MethodName := ⟨RX2, "lyingIn", "(I)I"⟩
abbrev cX2_movesNow : ByteArray := prog_4_method_21_code
def yX2_movesNow : MethodName := ⟨RX2, "movesNow", "()I"⟩
abbrev cX2_allows : ByteArray := prog_4_method_22_code
def yX2_allows : MethodName := ⟨RX2, "allows", "(I)Z"⟩
abbrev cX2_movesFrom : ByteArray := prog_4_method_23_code
def yX2_movesFrom : MethodName := ⟨RX2, "movesFrom", "(IZ)I"⟩
abbrev cX2_mayGo : ByteArray := prog_4_method_24_code
def yX2_mayGo : MethodName := ⟨RX2, "mayGo", "(IIIZ)Z"⟩
abbrev cX2_behind : ByteArray := prog_4_method_25_code
def yX2_behind : MethodName := ⟨RX2, "behind", "(II)I"⟩
abbrev cX2_carryOut : ByteArray := prog_4_method_26_code
def yX2_carryOut : MethodName := ⟨RX2, "carryOut", "(I)V"⟩
abbrev cX2_firstWrong : ByteArray := prog_4_method_27_code
def yX2_firstWrong : MethodName := ⟨RX2, "firstWrong", "(LPegDiscs$Row;II)I"⟩
abbrev cX2_numberOf : ByteArray := prog_4_method_28_code
def yX2_numberOf : MethodName := ⟨RX2, "numberOf", "(I)I"⟩
abbrev cX2_spendEvening : ByteArray := prog_4_method_29_code
def yX2_spendEvening : MethodName := ⟨RX2, "spendEvening", "(II)I"⟩
abbrev cX2_pick : ByteArray := prog_4_method_30_code
def yX2_pick : MethodName := ⟨RX2, "pick", "(II)I"⟩
abbrev cX2_leastOf : ByteArray := prog_4_method_31_code
def yX2_leastOf : MethodName := ⟨RX2, "leastOf", "(I)I"⟩
def RX3 : String := "PegDiscs$Layers"
def TX3 : u_T := fun k => match k with
  | 0 => ("PegDiscs$Layers", "weights", "[J", false)
  | 1 => ("PegDiscs$Layers", "coming", "[J", false)
  | 2 => ("PegDiscs$Layers", "net", "LPegDiscs$Net;", true)
  | _ => ("PegDiscs$Layers", "odd", "I", false)
def tyX3 : Nat → FieldType := fun k => match k with
  | 0 => .array .long
  | 1 => .array .long
  | 2 => .object "PegDiscs$Net"
  | _ => .int
theorem nmX3 : ∀ a, a < 4 → ∀ b, b < 4 → a ≠ b → (TX3 a).2.1 ≠ (TX3 b).2.1 := by decide +kernel
theorem tyX3_ok : ∀ k, k < 4 → parseFieldDescriptor (TX3 k).2.2.1 = some (tyX3 k) := by decide +kernel
abbrev cX3_init : ByteArray := prog_5_method_1_code
def yX3_init : MethodName := ⟨RX3, "<init>", "(LPegDiscs$Net;)V"⟩
abbrev cX3_begin : ByteArray := prog_5_method_2_code
def yX3_begin : MethodName := ⟨RX3, "begin", "()V"⟩
abbrev cX3_rowsTo : ByteArray := prog_5_method_3_code
def yX3_rowsTo : MethodName := ⟨RX3, "rowsTo", "(II)J"⟩
abbrev cX3_partsOn : ByteArray := prog_5_method_4_code
def yX3_partsOn : MethodName := ⟨RX3, "partsOn", "(III)J"⟩
abbrev cX3_partsOfAll : ByteArray := prog_5_method_5_code
def yX3_partsOfAll : MethodName := ⟨RX3, "partsOfAll", "(I)J"⟩
abbrev cX3_weightsOn : ByteArray := prog_5_method_6_code
def yX3_weightsOn : MethodName := ⟨RX3, "weightsOn", "(IIZ)J"⟩
abbrev cX3_goOn : ByteArray := prog_5_method_7_code
def yX3_goOn : MethodName := ⟨RX3, "goOn", "(Z)V"⟩
abbrev cX3_hand : ByteArray := prog_5_method_8_code
def yX3_hand : MethodName := ⟨RX3, "hand", "(IIJ)V"⟩
def RX4 : String := "PegDiscs$Net"
def TX4 : u_T := fun k => match k with
  | 0 => ("PegDiscs$Net", "law", "LPegDiscs$Board;", true)
  | 1 => ("PegDiscs$Net", "known", "[I", true)
  | _ => ("PegDiscs$Net", "turning", "I", false)
def tyX4 : Nat → FieldType := fun k => match k with
  | 0 => .object "PegDiscs$Board"
  | 1 => .array .int
  | _ => .int
theorem nmX4 : ∀ a, a < 3 → ∀ b, b < 3 → a ≠ b → (TX4 a).2.1 ≠ (TX4 b).2.1 := by decide +kernel
theorem tyX4_ok : ∀ k, k < 3 → parseFieldDescriptor (TX4 k).2.2.1 = some (tyX4 k) := by decide +kernel
abbrev cX4_init : ByteArray := prog_6_method_1_code
def yX4_init : MethodName := ⟨RX4, "<init>", "()V"⟩
abbrev cX4_lookAt : ByteArray := prog_6_method_2_code
def yX4_lookAt : MethodName := ⟨RX4, "lookAt", "(LPegDiscs$Board;)V"⟩
abbrev cX4_start : ByteArray := prog_6_method_3_code
def yX4_start : MethodName := ⟨RX4, "start", "()I"⟩
abbrev cX4_movesAt : ByteArray := prog_6_method_4_code
def yX4_movesAt : MethodName := ⟨RX4, "movesAt", "(I)I"⟩
abbrev cX4_stateBehind : ByteArray := prog_6_method_5_code
def yX4_stateBehind : MethodName := ⟨RX4, "stateBehind", "(II)I"⟩
def RX5 : String := "PegDiscs$Row"
def TX5 : u_T := fun k => match k with
  | 0 => ("PegDiscs$Row", "lane", "I", false)
  | 1 => ("PegDiscs$Row", "size", "I", false)
  | _ => ("PegDiscs$Row", "items", "[I", true)
def tyX5 : Nat → FieldType := fun k => match k with
  | 0 => .int
  | 1 => .int
  | _ => .array .int
theorem nmX5 : ∀ a, a < 3 → ∀ b, b < 3 → a ≠ b → (TX5 a).2.1 ≠ (TX5 b).2.1 := by decide +kernel
theorem tyX5_ok : ∀ k, k < 3 → parseFieldDescriptor (TX5 k).2.2.1 = some (tyX5 k) := by decide +kernel
abbrev cX5_init : ByteArray := prog_7_method_1_code
def yX5_init : MethodName := ⟨RX5, "<init>", "()V"⟩
abbrev cX5_isMissing : ByteArray := prog_7_method_2_code
def yX5_isMissing : MethodName := ⟨RX5, "isMissing", "()Z"⟩
abbrev cX5_begin : ByteArray := prog_7_method_3_code
def yX5_begin : MethodName := ⟨RX5, "begin", "(II)V"⟩
abbrev cX5_end : ByteArray := prog_7_method_4_code
def yX5_end : MethodName := ⟨RX5, "end", "()I"⟩
abbrev cX5_flaw : ByteArray := prog_7_method_5_code
def yX5_flaw : MethodName := ⟨RX5, "flaw", "(II)I"⟩
abbrev cX5_store : ByteArray := prog_7_method_6_code
def yX5_store : MethodName := ⟨RX5, "store", "(II)I"⟩
abbrev cX5_itemAt : ByteArray := prog_7_method_7_code
def yX5_itemAt : MethodName := ⟨RX5, "itemAt", "(I)I"⟩
def RX6 : String := "PegDiscs$Search"
def TX6 : u_T := fun k => match k with
  | 0 => ("PegDiscs$Search", "of", "LPegDiscs$Board;", true)
  | 1 => ("PegDiscs$Search", "queue", "[I", true)
  | 2 => ("PegDiscs$Search", "steps", "[I", true)
  | 3 => ("PegDiscs$Search", "lastMove", "[I", true)
  | 4 => ("PegDiscs$Search", "ahead", "[I", true)
  | 5 => ("PegDiscs$Search", "queued", "I", false)
  | 6 => ("PegDiscs$Search", "reached", "I", false)
  | 7 => ("PegDiscs$Search", "farSteps", "I", false)
  | 8 => ("PegDiscs$Search", "farthest", "I", false)
  | 9 => ("PegDiscs$Search", "dead", "I", false)
  | _ => ("PegDiscs$Search", "back", "I", false)
def tyX6 : Nat → FieldType := fun k => match k with
  | 0 => .object "PegDiscs$Board"
  | 1 => .array .int
  | 2 => .array .int
  | 3 => .array .int
  | 4 => .array .int
  | 5 => .int
  | 6 => .int
  | 7 => .int
  | 8 => .int
  | 9 => .int
  | _ => .int
theorem nmX6 : ∀ a, a < 11 → ∀ b, b < 11 → a ≠ b → (TX6 a).2.1 ≠ (TX6 b).2.1 := by decide +kernel
theorem tyX6_ok : ∀ k, k < 11 → parseFieldDescriptor (TX6 k).2.2.1 = some (tyX6 k) := by decide +kernel
abbrev cX6_init : ByteArray := prog_8_method_1_code
def yX6_init : MethodName := ⟨RX6, "<init>", "()V"⟩
abbrev cX6_begin : ByteArray := prog_8_method_2_code
def yX6_begin : MethodName := ⟨RX6, "begin", "(LPegDiscs$Board;)V"⟩
abbrev cX6_spread : ByteArray := prog_8_method_3_code
def yX6_spread : MethodName := ⟨RX6, "spread", "(LPegDiscs$Net;)V"⟩
abbrev cX6_noteArrangement : ByteArray := prog_8_method_4_code
def yX6_noteArrangement : MethodName := ⟨RX6, "noteArrangement", "(II)V"⟩
abbrev cX6_comeTo : ByteArray := prog_8_method_5_code
def yX6_comeTo : MethodName := ⟨RX6, "comeTo", "(III)V"⟩
abbrev cX6_fewest : ByteArray := prog_8_method_6_code
def yX6_fewest : MethodName := ⟨RX6, "fewest", "(II)I"⟩
abbrev cX6_soonestOf : ByteArray := prog_8_method_7_code
def yX6_soonestOf : MethodName := ⟨RX6, "soonestOf", "(I)I"⟩
def RX7 : String := "PegDiscs$Tape"
def TX7 : u_T := fun k => match k with
  | 0 => ("PegDiscs$Tape", "bytes", "[I", true)
  | 1 => ("PegDiscs$Tape", "length", "I", false)
  | 2 => ("PegDiscs$Tape", "at", "I", false)
  | 3 => ("PegDiscs$Tape", "faultNumber", "I", false)
  | _ => ("PegDiscs$Tape", "value", "I", false)
def tyX7 : Nat → FieldType := fun k => match k with
  | 0 => .array .int
  | 1 => .int
  | 2 => .int
  | 3 => .int
  | _ => .int
theorem nmX7 : ∀ a, a < 5 → ∀ b, b < 5 → a ≠ b → (TX7 a).2.1 ≠ (TX7 b).2.1 := by decide +kernel
theorem tyX7_ok : ∀ k, k < 5 → parseFieldDescriptor (TX7 k).2.2.1 = some (tyX7 k) := by decide +kernel
abbrev cX7_init : ByteArray := prog_9_method_1_code
def yX7_init : MethodName := ⟨RX7, "<init>", "()V"⟩
abbrev cX7_take : ByteArray := prog_9_method_2_code
def yX7_take : MethodName := ⟨RX7, "take", "(I)Z"⟩
abbrev cX7_readInto : ByteArray := prog_9_method_3_code
def yX7_readInto : MethodName := ⟨RX7, "readInto", "(LPegDiscs$Board;)Z"⟩
abbrev cX7_readLaw : ByteArray := prog_9_method_4_code
def yX7_readLaw : MethodName := ⟨RX7, "readLaw", "(LPegDiscs$Board;)Z"⟩
abbrev cX7_readDisc : ByteArray := prog_9_method_5_code
def yX7_readDisc : MethodName := ⟨RX7, "readDisc", "(LPegDiscs$Board;)Z"⟩
abbrev cX7_passes : ByteArray := prog_9_method_6_code
def yX7_passes : MethodName := ⟨RX7, "passes", "(I)Z"⟩
abbrev cX7_readNumber : ByteArray := prog_9_method_7_code
def yX7_readNumber : MethodName := ⟨RX7, "readNumber", "(II)Z"⟩
abbrev cX7_faulty : ByteArray := prog_9_method_8_code
def yX7_faulty : MethodName := ⟨RX7, "faulty", "(I)Z"⟩
abbrev cX7_byteAt : ByteArray := prog_9_method_9_code
def yX7_byteAt : MethodName := ⟨RX7, "byteAt", "(I)I"⟩
abbrev cX7_isFigure : ByteArray := prog_9_method_10_code
def yX7_isFigure : MethodName := ⟨RX7, "isFigure", "(I)Z"⟩
abbrev cX7_sortOf : ByteArray := prog_9_method_11_code
def yX7_sortOf : MethodName := ⟨RX7, "sortOf", "(I)I"⟩
def RX8 : String := "PegDiscs"
def TX8 : u_T := fun k => match k with
  | 0 => ("PegDiscs", "rows", "[LPegDiscs$Row;", true)
  | 1 => ("PegDiscs", "tape", "LPegDiscs$Tape;", true)
  | 2 => ("PegDiscs", "board", "LPegDiscs$Board;", true)
  | 3 => ("PegDiscs", "trial", "LPegDiscs$Board;", true)
  | 4 => ("PegDiscs", "acts", "LPegDiscs$Acts;", true)
  | 5 => ("PegDiscs", "images", "[LPegDiscs$Board;", true)
  | 6 => ("PegDiscs", "asker", "LPegDiscs$Asker;", true)
  | 7 => ("PegDiscs", "net", "LPegDiscs$Net;", false)
  | 8 => ("PegDiscs", "search", "LPegDiscs$Search;", false)
  | 9 => ("PegDiscs", "layers", "LPegDiscs$Layers;", false)
  | 10 => ("PegDiscs", "latestFault", "I", false)
  | _ => ("PegDiscs", "finding", "I", false)
def tyX8 : Nat → FieldType := fun k => match k with
  | 0 => .array (.object "PegDiscs$Row")
  | 1 => .object "PegDiscs$Tape"
  | 2 => .object "PegDiscs$Board"
  | 3 => .object "PegDiscs$Board"
  | 4 => .object "PegDiscs$Acts"
  | 5 => .array (.object "PegDiscs$Board")
  | 6 => .object "PegDiscs$Asker"
  | 7 => .object "PegDiscs$Net"
  | 8 => .object "PegDiscs$Search"
  | 9 => .object "PegDiscs$Layers"
  | 10 => .int
  | _ => .int
theorem nmX8 : ∀ a, a < 12 → ∀ b, b < 12 → a ≠ b → (TX8 a).2.1 ≠ (TX8 b).2.1 := by decide +kernel
theorem tyX8_ok : ∀ k, k < 12 → parseFieldDescriptor (TX8 k).2.2.1 = some (tyX8 k) := by decide +kernel
abbrev cX8_init : ByteArray := prog_1_method_1_code
def yX8_init : MethodName := ⟨RX8, "<init>", "()V"⟩
abbrev cX8_row : ByteArray := prog_1_method_2_code
def yX8_row : MethodName := ⟨RX8, "row", "(III)I"⟩
abbrev cX8_set : ByteArray := prog_1_method_3_code
def yX8_set : MethodName := ⟨RX8, "set", "(III)I"⟩
abbrev cX8_copy : ByteArray := prog_1_method_4_code
def yX8_copy : MethodName := ⟨RX8, "copy", "(IIIII)I"⟩
abbrev cX8_drop : ByteArray := prog_1_method_5_code
def yX8_drop : MethodName := ⟨RX8, "drop", "(I)I"⟩
abbrev cX8_feed : ByteArray := prog_1_method_6_code
def yX8_feed : MethodName := ⟨RX8, "feed", "(I)I"⟩
abbrev cX8_board : ByteArray := prog_1_method_7_code
def yX8_board : MethodName := ⟨RX8, "board", "()I"⟩
abbrev cX8_fault : ByteArray := prog_1_method_8_code
def yX8_fault : MethodName := ⟨RX8, "fault", "()I"⟩
abbrev cX8_move : ByteArray := prog_1_method_9_code
def yX8_move : MethodName := ⟨RX8, "move", "(II)I"⟩
abbrev cX8_put : ByteArray := prog_1_method_10_code
def yX8_put : MethodName := ⟨RX8, "put", "(II)I"⟩
abbrev cX8_high : ByteArray := prog_1_method_11_code
def yX8_high : MethodName := ⟨RX8, "high", "(I)I"⟩
abbrev cX8_undo : ByteArray := prog_1_method_12_code
def yX8_undo : MethodName := ⟨RX8, "undo", "()I"⟩
abbrev cX8_disc : ByteArray := prog_1_method_13_code
def yX8_disc : MethodName := ⟨RX8, "disc", "(II)I"⟩
abbrev cX8_peg : ByteArray := prog_1_method_14_code
def yX8_peg : MethodName := ⟨RX8, "peg", "(II)I"⟩
abbrev cX8_can : ByteArray := prog_1_method_15_code
def yX8_can : MethodName := ⟨RX8, "can", "()I"⟩
abbrev cX8_least : ByteArray := prog_1_method_16_code
def yX8_least : MethodName := ⟨RX8, "least", "(III)I"⟩
abbrev cX8_tower : ByteArray := prog_1_method_17_code
def yX8_tower : MethodName := ⟨RX8, "tower", "(II)I"⟩
abbrev cX8_world : ByteArray := prog_1_method_18_code
def yX8_world : MethodName := ⟨RX8, "world", "(I)I"⟩
abbrev cX8_ring : ByteArray := prog_1_method_19_code
def yX8_ring : MethodName := ⟨RX8, "ring", "()I"⟩
abbrev cX8_ways : ByteArray := prog_1_method_20_code
def yX8_ways : MethodName := ⟨RX8, "ways", "(III)J"⟩
abbrev cX8_judge : ByteArray := prog_1_method_21_code
def yX8_judge : MethodName := ⟨RX8, "judge", "(III)I"⟩
abbrev cX8_fits : ByteArray := prog_1_method_22_code
def yX8_fits : MethodName := ⟨RX8, "fits", "(IIIII)I"⟩
abbrev cX8_chance : ByteArray := prog_1_method_23_code
def yX8_chance : MethodName := ⟨RX8, "chance", "(IIII)J"⟩
abbrev cX8_drawn : ByteArray := prog_1_method_24_code
def yX8_drawn : MethodName := ⟨RX8, "drawn", "(III)I"⟩
abbrev cX8_image : ByteArray := prog_1_method_25_code
def yX8_image : MethodName := ⟨RX8, "image", "(I)I"⟩
abbrev cX8_restore : ByteArray := prog_1_method_26_code
def yX8_restore : MethodName := ⟨RX8, "restore", "(I)I"⟩
abbrev cX8_kind : ByteArray := prog_1_method_27_code
def yX8_kind : MethodName := ⟨RX8, "kind", "(I)I"⟩
abbrev cX8_as : ByteArray := prog_1_method_28_code
def yX8_as : MethodName := ⟨RX8, "as", "(II)I"⟩
abbrev cX8_ask : ByteArray := prog_1_method_29_code
def yX8_ask : MethodName := ⟨RX8, "ask", "(II)I"⟩
abbrev cX8_trace : ByteArray := prog_1_method_30_code
def yX8_trace : MethodName := ⟨RX8, "trace", "(I)I"⟩
abbrev cX8_count : ByteArray := prog_1_method_31_code
def yX8_count : MethodName := ⟨RX8, "count", "(I)I"⟩
abbrev cX8_status : ByteArray := prog_1_method_32_code
def yX8_status : MethodName := ⟨RX8, "status", "()I"⟩
abbrev cX8_rowAt : ByteArray := prog_1_method_33_code
def yX8_rowAt : MethodName := ⟨RX8, "rowAt", "(I)LPegDiscs$Row;"⟩
abbrev cX8_found : ByteArray := prog_1_method_34_code
def yX8_found : MethodName := ⟨RX8, "found", "(I)I"⟩
abbrev cX8_well : ByteArray := prog_1_method_35_code
def yX8_well : MethodName := ⟨RX8, "well", "(I)I"⟩
abbrev cX8_rowsThere : ByteArray := prog_1_method_36_code
def yX8_rowsThere : MethodName := ⟨RX8, "rowsThere", "()I"⟩
abbrev cX8_suppose : ByteArray := prog_1_method_37_code
def yX8_suppose : MethodName := ⟨RX8, "suppose", "(III)Z"⟩
abbrev cX8_netNow : ByteArray := prog_1_method_38_code
def yX8_netNow : MethodName := ⟨RX8, "netNow", "()LPegDiscs$Net;"⟩
abbrev cX8_searched : ByteArray := prog_1_method_39_code
def yX8_searched : MethodName := ⟨RX8, "searched", "()LPegDiscs$Search;"⟩
abbrev cX8_layered : ByteArray := prog_1_method_40_code
def yX8_layered : MethodName := ⟨RX8, "layered", "()LPegDiscs$Layers;"⟩
abbrev cX8_commonOf : ByteArray := prog_1_method_41_code
def yX8_commonOf : MethodName := ⟨RX8, "commonOf", "(JJ)J"⟩
def RX9 : String := "PegDiscsModel"
def TX9 : u_T := fun k => match k with
  | 0 => ("PegDiscsModel", "items", "[I", true)
  | 1 => ("PegDiscsModel", "lane", "[I", true)
  | 2 => ("PegDiscsModel", "size", "[I", true)
  | 3 => ("PegDiscsModel", "found", "I", false)
  | 4 => ("PegDiscsModel", "length", "I", false)
  | 5 => ("PegDiscsModel", "tape", "[B", true)
  | 6 => ("PegDiscsModel", "faulted", "I", false)
  | 7 => ("PegDiscsModel", "at", "I", false)
  | 8 => ("PegDiscsModel", "wrongAt", "I", false)
  | 9 => ("PegDiscsModel", "wrong", "I", false)
  | 10 => ("PegDiscsModel", "w", "[I", true)
  | 11 => ("PegDiscsModel", "acts", "I", false)
  | 12 => ("PegDiscsModel", "isKept", "[Z", true)
  | 13 => ("PegDiscsModel", "far", "[I", true)
  | 14 => ("PegDiscsModel", "queue", "[I", true)
  | 15 => ("PegDiscsModel", "isGood", "[Z", true)
  | 16 => ("PegDiscsModel", "reached", "I", false)
  | 17 => ("PegDiscsModel", "rows", "[J", true)
  | 18 => ("PegDiscsModel", "more", "[J", true)
  | 19 => ("PegDiscsModel", "kindTried", "I", false)
  | 20 => ("PegDiscsModel", "discTried", "I", false)
  | 21 => ("PegDiscsModel", "highTried", "I", false)
  | 22 => ("PegDiscsModel", "traced", "[I", true)
  | _ => ("PegDiscsModel", "traces", "I", false)
def tyX9 : Nat → FieldType := fun k => match k with
  | 0 => .array .int
  | 1 => .array .int
  | 2 => .array .int
  | 3 => .int
  | 4 => .int
  | 5 => .array .byte
  | 6 => .int
  | 7 => .int
  | 8 => .int
  | 9 => .int
  | 10 => .array .int
  | 11 => .int
  | 12 => .array .boolean
  | 13 => .array .int
  | 14 => .array .int
  | 15 => .array .boolean
  | 16 => .int
  | 17 => .array .long
  | 18 => .array .long
  | 19 => .int
  | 20 => .int
  | 21 => .int
  | 22 => .array .int
  | _ => .int
theorem nmX9 : ∀ a, a < 24 → ∀ b, b < 24 → a ≠ b → (TX9 a).2.1 ≠ (TX9 b).2.1 := by decide +kernel
theorem tyX9_ok : ∀ k, k < 24 → parseFieldDescriptor (TX9 k).2.2.1 = some (tyX9 k) := by decide +kernel
abbrev cX9_init : ByteArray := prog_11_method_1_code
def yX9_init : MethodName := ⟨RX9, "<init>", "()V"⟩
abbrev cX9_in : ByteArray := prog_11_method_2_code
def yX9_in : MethodName := ⟨RX9, "in", "(JJJ)Z"⟩
abbrev cX9_has : ByteArray := prog_11_method_3_code
def yX9_has : MethodName := ⟨RX9, "has", "(II)Z"⟩
abbrev cX9_larger : ByteArray := prog_11_method_4_code
def yX9_larger : MethodName := ⟨RX9, "larger", "(II)I"⟩
abbrev cX9_smaller : ByteArray := prog_11_method_5_code
def yX9_smaller : MethodName := ⟨RX9, "smaller", "(II)I"⟩
abbrev cX9_finds : ByteArray := prog_11_method_6_code
def yX9_finds : MethodName := ⟨RX9, "finds", "(I)I"⟩
abbrev cX9_good : ByteArray := prog_11_method_7_code
def yX9_good : MethodName := ⟨RX9, "good", "(I)I"⟩
abbrev cX9_isRow : ByteArray := prog_11_method_8_code
def yX9_isRow : MethodName := ⟨RX9, "isRow", "(I)Z"⟩
abbrev cX9_row : ByteArray := prog_11_method_9_code
def yX9_row : MethodName := ⟨RX9, "row", "(III)I"⟩
abbrev cX9_cut : ByteArray := prog_11_method_10_code
def yX9_cut : MethodName := ⟨RX9, "cut", "(II)I"⟩
abbrev cX9_set : ByteArray := prog_11_method_11_code
def yX9_set : MethodName := ⟨RX9, "set", "(III)I"⟩
abbrev cX9_isWithin : ByteArray := prog_11_method_12_code
def yX9_isWithin : MethodName := ⟨RX9, "isWithin", "(III)Z"⟩
abbrev cX9_copy : ByteArray := prog_11_method_13_code
def yX9_copy : MethodName := ⟨RX9, "copy", "(IIIII)I"⟩
abbrev cX9_drop : ByteArray := prog_11_method_14_code
def yX9_drop : MethodName := ⟨RX9, "drop", "(I)I"⟩
abbrev cX9_feed : ByteArray := prog_11_method_15_code
def yX9_feed : MethodName := ⟨RX9, "feed", "(I)I"⟩
abbrev cX9_byteAt : ByteArray := prog_11_method_16_code
def yX9_byteAt : MethodName := ⟨RX9, "byteAt", "(I)I"⟩
abbrev cX9_fails : ByteArray := prog_11_method_17_code
def yX9_fails : MethodName := ⟨RX9, "fails", "(II)V"⟩
abbrev cX9_sign : ByteArray := prog_11_method_18_code
def yX9_sign : MethodName := ⟨RX9, "sign", "(I)V"⟩
abbrev cX9_number : ByteArray := prog_11_method_19_code
def yX9_number : MethodName := ⟨RX9, "number", "(III)I"⟩
abbrev cX9_sortOf : ByteArray := prog_11_method_20_code
def yX9_sortOf : MethodName := ⟨RX9, "sortOf", "(I)I"⟩
abbrev cX9_discItem : ByteArray := prog_11_method_21_code
def yX9_discItem : MethodName := ⟨RX9, "discItem", "(I)V"⟩
abbrev cX9_copies : ByteArray := prog_11_method_22_code
def yX9_copies : MethodName := ⟨RX9, "copies", "(II)V"⟩
abbrev cX9_board : ByteArray := prog_11_method_23_code
def yX9_board : MethodName := ⟨RX9, "board", "()I"⟩
abbrev cX9_fault : ByteArray := prog_11_method_24_code
def yX9_fault : MethodName := ⟨RX9, "fault", "()I"⟩
abbrev cX9_isBoard : ByteArray := prog_11_method_25_code
def yX9_isBoard : MethodName := ⟨RX9, "isBoard", "()Z"⟩
abbrev cX9_isPeg : ByteArray := prog_11_method_26_code
def yX9_isPeg : MethodName := ⟨RX9, "isPeg", "(I)Z"⟩
abbrev cX9_isDisc : ByteArray := prog_11_method_27_code
def yX9_isDisc : MethodName := ⟨RX9, "isDisc", "(I)Z"⟩
abbrev cX9_state : ByteArray := prog_11_method_28_code
def yX9_state : MethodName := ⟨RX9, "state", "()I"⟩
abbrev cX9_pegIn : ByteArray := prog_11_method_29_code
def yX9_pegIn : MethodName := ⟨RX9, "pegIn", "(II)I"⟩
abbrev cX9_codeOf : ByteArray := prog_11_method_30_code
def yX9_codeOf : MethodName := ⟨RX9, "codeOf", "(I)I"⟩
abbrev cX9_lying : ByteArray := prog_11_method_31_code
def yX9_lying : MethodName := ⟨RX9, "lying", "(II)I"⟩
abbrev cX9_bits : ByteArray := prog_11_method_32_code
def yX9_bits : MethodName := ⟨RX9, "bits", "(I)I"⟩
abbrev cX9_lowest : ByteArray := prog_11_method_33_code
def yX9_lowest : MethodName := ⟨RX9, "lowest", "(I)I"⟩
abbrev cX9_kindTold : ByteArray := prog_11_method_34_code
def yX9_kindTold : MethodName := ⟨RX9, "kindTold", "(I)I"⟩
abbrev cX9_mover : ByteArray := prog_11_method_35_code
def yX9_mover : MethodName := ⟨RX9, "mover", "(III)I"⟩
abbrev cX9_moved : ByteArray := prog_11_method_36_code
def yX9_moved : MethodName := ⟨RX9, "moved", "(III)I"⟩
abbrev cX9_asTold : ByteArray := prog_11_method_37_code
def yX9_asTold : MethodName := ⟨RX9, "asTold", "()V"⟩
abbrev cX9_known : ByteArray := prog_11_method_38_code
def yX9_known : MethodName := ⟨RX9, "known", "()V"⟩
abbrev cX9_move : ByteArray := prog_11_method_39_code
def yX9_move : MethodName := ⟨RX9, "move", "(II)I"⟩
abbrev cX9_put : ByteArray := prog_11_method_40_code
def yX9_put : MethodName := ⟨RX9, "put", "(II)I"⟩
abbrev cX9_high : ByteArray := prog_11_method_41_code
def yX9_high : MethodName := ⟨RX9, "high", "(I)I"⟩
abbrev cX9_undo : ByteArray := prog_11_method_42_code
def yX9_undo : MethodName := ⟨RX9, "undo", "()I"⟩
abbrev cX9_disc : ByteArray := prog_11_method_43_code
def yX9_disc : MethodName := ⟨RX9, "disc", "(II)I"⟩
abbrev cX9_many : ByteArray := prog_11_method_44_code
def yX9_many : MethodName := ⟨RX9, "many", "(I)I"⟩
abbrev cX9_peg : ByteArray := prog_11_method_45_code
def yX9_peg : MethodName := ⟨RX9, "peg", "(II)I"⟩
abbrev cX9_movesOf : ByteArray := prog_11_method_46_code
def yX9_movesOf : MethodName := ⟨RX9, "movesOf", "(I)I"⟩
abbrev cX9_can : ByteArray := prog_11_method_47_code
def yX9_can : MethodName := ⟨RX9, "can", "()I"⟩
abbrev cX9_behind : ByteArray := prog_11_method_48_code
def yX9_behind : MethodName := ⟨RX9, "behind", "(II)I"⟩
abbrev cX9_spreads : ByteArray := prog_11_method_49_code
def yX9_spreads : MethodName := ⟨RX9, "spreads", "()V"⟩
abbrev cX9_farTo : ByteArray := prog_11_method_50_code
def yX9_farTo : MethodName := ⟨RX9, "farTo", "(I)I"⟩
abbrev cX9_kth : ByteArray := prog_11_method_51_code
def yX9_kth : MethodName := ⟨RX9, "kth", "(III)I"⟩
abbrev cX9_leastTo : ByteArray := prog_11_method_52_code
def yX9_leastTo : MethodName := ⟨RX9, "leastTo", "(II)I"⟩
abbrev cX9_wrongOf : ByteArray := prog_11_method_53_code
def yX9_wrongOf : MethodName := ⟨RX9, "wrongOf", "(III)I"⟩
abbrev cX9_told : ByteArray := prog_11_method_54_code
def yX9_told : MethodName := ⟨RX9, "told", "(II)I"⟩
abbrev cX9_least : ByteArray := prog_11_method_55_code
def yX9_least : MethodName := ⟨RX9, "least", "(III)I"⟩
abbrev cX9_tower : ByteArray := prog_11_method_56_code
def yX9_tower : MethodName := ⟨RX9, "tower", "(II)I"⟩
abbrev cX9_world : ByteArray := prog_11_method_57_code
def yX9_world : MethodName := ⟨RX9, "world", "(I)I"⟩
abbrev cX9_ring : ByteArray := prog_11_method_58_code
def yX9_ring : MethodName := ⟨RX9, "ring", "()I"⟩
abbrev cX9_beginsWays : ByteArray := prog_11_method_59_code
def yX9_beginsWays : MethodName := ⟨RX9, "beginsWays", "()V"⟩
abbrev cX9_stepWays : ByteArray := prog_11_method_60_code
def yX9_stepWays : MethodName := ⟨RX9, "stepWays", "(Z)V"⟩
abbrev cX9_ways : ByteArray := prog_11_method_61_code
def yX9_ways : MethodName := ⟨RX9, "ways", "(III)J"⟩
abbrev cX9_judged : ByteArray := prog_11_method_62_code
def yX9_judged : MethodName := ⟨RX9, "judged", "(IIII)I"⟩
abbrev cX9_judge : ByteArray := prog_11_method_63_code
def yX9_judge : MethodName := ⟨RX9, "judge", "(III)I"⟩
abbrev cX9_fits : ByteArray := prog_11_method_64_code
def yX9_fits : MethodName := ⟨RX9, "fits", "(IIIII)I"⟩
abbrev cX9_chance : ByteArray := prog_11_method_65_code
def yX9_chance : MethodName := ⟨RX9, "chance", "(IIII)J"⟩
abbrev cX9_drawn : ByteArray := prog_11_method_66_code
def yX9_drawn : MethodName := ⟨RX9, "drawn", "(III)I"⟩
abbrev cX9_image : ByteArray := prog_11_method_67_code
def yX9_image : MethodName := ⟨RX9, "image", "(I)I"⟩
abbrev cX9_restore : ByteArray := prog_11_method_68_code
def yX9_restore : MethodName := ⟨RX9, "restore", "(I)I"⟩
abbrev cX9_kind : ByteArray := prog_11_method_69_code
def yX9_kind : MethodName := ⟨RX9, "kind", "(I)I"⟩
abbrev cX9_isOf : ByteArray := prog_11_method_70_code
def yX9_isOf : MethodName := ⟨RX9, "isOf", "(II)Z"⟩
abbrev cX9_as : ByteArray := prog_11_method_71_code
def yX9_as : MethodName := ⟨RX9, "as", "(II)I"⟩
abbrev cX9_leaves : ByteArray := prog_11_method_72_code
def yX9_leaves : MethodName := ⟨RX9, "leaves", "(I)V"⟩
abbrev cX9_body20 : ByteArray := prog_11_method_73_code
def yX9_body20 : MethodName := ⟨RX9, "body20", "(I)I"⟩
abbrev cX9_body21 : ByteArray := prog_11_method_74_code
def yX9_body21 : MethodName := ⟨RX9, "body21", "(I)I"⟩
abbrev cX9_body22 : ByteArray := prog_11_method_75_code
def yX9_body22 : MethodName := ⟨RX9, "body22", "(I)I"⟩
abbrev cX9_body23 : ByteArray := prog_11_method_76_code
def yX9_body23 : MethodName := ⟨RX9, "body23", "(I)I"⟩
abbrev cX9_body24 : ByteArray := prog_11_method_77_code
def yX9_body24 : MethodName := ⟨RX9, "body24", "(I)I"⟩
abbrev cX9_body10 : ByteArray := prog_11_method_78_code
def yX9_body10 : MethodName := ⟨RX9, "body10", "(I)I"⟩
abbrev cX9_body13 : ByteArray := prog_11_method_79_code
def yX9_body13 : MethodName := ⟨RX9, "body13", "(I)I"⟩
abbrev cX9_body14 : ByteArray := prog_11_method_80_code
def yX9_body14 : MethodName := ⟨RX9, "body14", "(I)I"⟩
abbrev cX9_glassSize : ByteArray := prog_11_method_81_code
def yX9_glassSize : MethodName := ⟨RX9, "glassSize", "(I)I"⟩
abbrev cX9_plainMark : ByteArray := prog_11_method_82_code
def yX9_plainMark : MethodName := ⟨RX9, "plainMark", "(I)I"⟩
abbrev cX9_body11 : ByteArray := prog_11_method_83_code
def yX9_body11 : MethodName := ⟨RX9, "body11", "(I)I"⟩
abbrev cX9_body12 : ByteArray := prog_11_method_84_code
def yX9_body12 : MethodName := ⟨RX9, "body12", "(I)I"⟩
abbrev cX9_ask : ByteArray := prog_11_method_85_code
def yX9_ask : MethodName := ⟨RX9, "ask", "(II)I"⟩
abbrev cX9_trace : ByteArray := prog_11_method_86_code
def yX9_trace : MethodName := ⟨RX9, "trace", "(I)I"⟩
abbrev cX9_count : ByteArray := prog_11_method_87_code
def yX9_count : MethodName := ⟨RX9, "count", "(I)I"⟩
abbrev cX9_status : ByteArray := prog_11_method_88_code
def yX9_status : MethodName := ⟨RX9, "status", "()I"⟩
def RJ6 : String := "java/lang/Integer"
def TJ6 : u_T := fun k => match k with
  | _ => ("", "", "", false)
def tyJ6 : Nat → FieldType := fun k => match k with
  | _ => .int
theorem nmJ6 : ∀ a, a < 0 → ∀ b, b < 0 → a ≠ b → (TJ6 a).2.1 ≠ (TJ6 b).2.1 := by decide +kernel
theorem tyJ6_ok : ∀ k, k < 0 → parseFieldDescriptor (TJ6 k).2.2.1 = some (tyJ6 k) := by decide +kernel
abbrev cJ6_bitCount_0f7a4 : ByteArray := prog_12_method_49_code
def yJ6_bitCount_0f7a4 : MethodName := ⟨RJ6, "bitCount", "(I)I"⟩
def RJ10 : String := "java/lang/System"
def TJ10 : u_T := fun k => match k with
  | _ => ("", "", "", false)
def tyJ10 : Nat → FieldType := fun k => match k with
  | _ => .int
theorem nmJ10 : ∀ a, a < 0 → ∀ b, b < 0 → a ≠ b → (TJ10 a).2.1 ≠ (TJ10 b).2.1 := by decide +kernel
theorem tyJ10_ok : ∀ k, k < 0 → parseFieldDescriptor (TJ10 k).2.2.1 = some (tyJ10 k) := by decide +kernel
def RJ7 : String := "java/util/Arrays"
def TJ7 : u_T := fun k => match k with
  | _ => ("", "", "", false)
def tyJ7 : Nat → FieldType := fun k => match k with
  | _ => .int
theorem nmJ7 : ∀ a, a < 0 → ∀ b, b < 0 → a ≠ b → (TJ7 a).2.1 ≠ (TJ7 b).2.1 := by decide +kernel
theorem tyJ7_ok : ∀ k, k < 0 → parseFieldDescriptor (TJ7 k).2.2.1 = some (tyJ7 k) := by decide +kernel
abbrev cJ7_fill_d0a16 : ByteArray := prog_14_method_101_code
def yJ7_fill_d0a16 : MethodName := ⟨RJ7, "fill", "([JJ)V"⟩
abbrev cJ7_fill_53178 : ByteArray := prog_14_method_103_code
def yJ7_fill_53178 : MethodName := ⟨RJ7, "fill", "([II)V"⟩
def RL : String := "PegDiscsLaw"
abbrev cL_law : ByteArray := code
def yL_law : MethodName := ⟨RL, "law", "([I)Z"⟩
abbrev vwCl : List vw_C := [(RX0, TX0, 3), (RX1, TX1, 6), (RX2, TX2, 6), (RX3, TX3, 4), (RX4, TX4, 3), (RX5, TX5, 3), (RX6, TX6, 11), (RX7, TX7, 5), (RX8, TX8, 12), (RX9, TX9, 24)]
end
section
/-! the words, of whatever arguments; warm states keep them -/
def okW : Cond → Bool
  | .fieldLinkNest _ _ _ _ _ _ => true
  | .methodLinkNest _ _ _ _ => true
  | .arrayOver (.object _) => true
  | w => goodWord w
def TB : List Cond := lw_tbl.filter okW
def Uni (U : State) : Prop := ∀ w ∈ TB, ∀ a : Array Value, w.before a U = true
theorem Uni.warm {s U : State} (hW : s.WarmedH U.vm) (h : Uni s) : Uni U := by
  intro w hw a
  have hk := (List.mem_filter.mp hw).2
  have hs := h w hw #[]
  cases w with
  | fieldLinkNest => exact va_Nw.use rfl (va_Nw.warmF hW hs)
  | methodLinkNest => exact va_Nw.use rfl (va_Nw.warmM hW hs)
  | arrayOver t =>
    cases t with
    | object C => exact va_AO.use (va_AO.moved hW.alike (va_AO.of hs))
    | _ => exact word_at hW (good_of_word hk) hs
  | _ => exact word_at hW (good_of_word hk) hs
theorem Uni.of {s : State} {a0 : Array Value} (h : ∀ w ∈ lw_tbl, w.before a0 s = true) : Uni s := by
  intro w hw a
  have hk := (List.mem_filter.mp hw).2
  have hs := h w (List.mem_filter.mp hw).1
  cases w with
  | fieldLinkNest => exact va_Nw.use rfl (va_Nw.of rfl hs)
  | methodLinkNest => exact va_Nw.use rfl (va_Nw.of rfl hs)
  | arrayOver t =>
    cases t with
    | object C => exact va_AO.use (va_AO.of hs)
    | _ => exact word_at (State.WarmedH.refl s) (good_of_word hk) hs
  | _ => exact word_at (State.WarmedH.refl s) (good_of_word hk) hs
/-! the heap by numbers: a cell's number, what it holds; references are numbers too; ad: where they lie -/
def cvV (ad : Nat → Nat) : Value → Value
  | .ref i => .ref (ad i)
  | v => v
def cvE (cy ad : Nat → Nat) : va_E → va_E
  | .inl (c, n, .inl f) => .inl (cy c, n, .inl f)
  | .inl (c, n, .inr (.inl f)) => .inl (cy c, n, .inr (.inl f))
  | .inl (c, n, .inr (.inr (.inl f))) => .inl (cy c, n, .inr (.inr (.inl f)))
  | .inl (c, n, .inr (.inr (.inr (.inl f)))) => .inl (cy c, n, .inr (.inr (.inr (.inl f))))
  | .inl (c, n, .inr (.inr (.inr (.inr f)))) => .inl (cy c, n, .inr (.inr (.inr (.inr (fun k => (f k).map ad)))))
  | .inr (ci, fs) => .inr (ci, fs.map (cvV ad))
abbrev Hp : Type := Nat → va_E
def wl (cy : Nat → Nat) (N : Nat) (ad : Nat → Nat) (σ : Hp) : va_W := (List.range N).map (fun i => (ad i, cvE cy ad (σ i)))
theorem wl_at {cy : Nat → Nat} {N : Nat} {ad : Nat → Nat} {σ : Hp} {i : Nat} (h : i < N) : (wl cy N ad σ)[i]? = some (ad i, cvE cy ad (σ i)) := by simp [wl, h]
theorem wl_atE {cy : Nat → Nat} {N : Nat} {ad : Nat → Nat} {σ : Hp} {i : Nat} {c : va_E} (h : i < N) (hc : σ i = c) : (wl cy N ad σ)[i]? = some (ad i, cvE cy ad c) := by rw [wl_at h, hc]
theorem wl_set {cy : Nat → Nat} {N : Nat} {ad : Nat → Nat} {σ : Hp} {i : Nat} (c : va_E) (h : i < N) : (wl cy N ad σ).set i (ad i, cvE cy ad c) = wl cy N ad (va_up σ i c) := by
  apply List.ext_getElem?
  intro j
  by_cases hj : j = i
  · subst hj
    simp [wl, h, va_up]
  · rw [List.getElem?_set_ne (fun q => hj q.symm)]
    by_cases hN : j < N
    · simp [wl, hN, va_up, hj]
    · simp [wl, hN]
theorem wl_D {cy : Nat → Nat} {N : Nat} {ad : Nat → Nat} {σ σ' : Hp} {A : Nat → Prop} (h : va_D A (wl cy N ad σ)) : va_D A (wl cy N ad σ') := by
  have key : ∀ (i : Nat) (p : Nat × va_E), (wl cy N ad σ')[i]? = some p → i < N ∧ p.1 = ad i := by
    intro i p hp
    by_cases hN : i < N
    · rw [wl_at hN] at hp; cases hp; exact ⟨hN, rfl⟩
    · simp [wl, hN] at hp
  refine ⟨fun i j p q hp hq e => ?_, fun k q hq => ?_⟩
  · obtain ⟨h1, e1⟩ := key i p hp
    obtain ⟨h2, e2⟩ := key j q hq
    exact h.1 i j _ _ (wl_at h1) (wl_at h2) (by rw [← e1, ← e2]; exact e)
  · obtain ⟨h1, e1⟩ := key k q hq
    rw [e1]; exact h.2 k _ (wl_at h1)
theorem wl_A {cy : Nat → Nat} {N : Nat} {ad : Nat → Nat} {σ σ' : Hp} {sz : Nat} : va_A (wl cy N ad σ) sz = va_A (wl cy N ad σ') sz := by
  funext q
  have key : ∀ σ : Hp, (∃ (k : Nat) (e : va_E), (wl cy N ad σ)[k]? = some (q, e)) ↔ ∃ k, k < N ∧ ad k = q := by
    intro σ
    constructor
    · rintro ⟨k, e, h⟩
      by_cases hN : k < N
      · rw [wl_at hN] at h; cases h; exact ⟨k, hN, rfl⟩
      · simp [wl, hN] at h
    · rintro ⟨k, hN, rfl⟩
      exact ⟨k, _, wl_at hN⟩
  show (_ ∨ _) = (_ ∨ _)
  rw [propext (key σ), propext (key σ')]
abbrev tyL (cy : Nat → Nat) : List (ClassId × FieldType) := [(cy 0, .int), (cy 1, .long), (cy 2, .byte), (cy 3, .boolean), (cy 4, .object "PegDiscs$Board"), (cy 5, .object "PegDiscs$Row")]
/-! the locals -/
def lh (ls : Array Slot) (nL : Nat) (ad : Nat → Nat) (lo : List (Option Value)) : Prop := ls.size = nL ∧ lv_wf ls ∧ ∀ (i : Nat) (v : Value), lo[i]? = some (some v) → ls[i]? = some (.val (cvV ad v))
def loA (ad : Nat → Nat) (lo : List (Option Value)) : List (Nat × Value) := (List.range lo.length).filterMap (fun j => match lo[j]? with
  | some (some v) => some (j, cvV ad v)
  | _ => none)
theorem loA_mem {ad : Nat → Nat} {lo : List (Option Value)} {j : Nat} {u : Value} : (j, u) ∈ loA ad lo ↔ ∃ v, lo[j]? = some (some v) ∧ u = cvV ad v := by
  constructor
  · intro h
    obtain ⟨k, hk, h2⟩ := List.mem_filterMap.mp h
    revert h2
    cases hq : lo[k]? with
    | none => intro h2; cases h2
    | some o =>
      cases o with
      | none => intro h2; cases h2
      | some v => intro h2; cases h2; exact ⟨v, hq, rfl⟩
  · rintro ⟨v, hv, rfl⟩
    refine List.mem_filterMap.mpr ⟨j, ?_, ?_⟩
    · exact List.mem_range.mpr (List.getElem?_eq_some_iff.mp hv).1
    · rw [hv]
theorem lh.has {ls : Array Slot} {nL : Nat} {ad : Nat → Nat} {lo : List (Option Value)} (h : lh ls nL ad lo) : lv_has ls nL (loA ad lo) := by
  refine ⟨h.1, h.2.1, fun q hq => ?_⟩
  obtain ⟨v, h1, h2⟩ := loA_mem.mp (show (q.1, q.2) ∈ loA ad lo from hq)
  rw [h2]; exact h.2.2 _ _ h1
def isW : Option Value → Bool
  | some (.long _) => true
  | some (.double _) => true
  | _ => false
def stOK (lo : List (Option Value)) : Nat → Bool
  | 0 => true
  | k + 1 => match lo[k]? with
    | some o => !isW o
    | none => true
theorem cvV_cat (ad : Nat → Nat) (v : Value) : (cvV ad v).category = v.category := by cases v <;> rfl
theorem isW_of {v : Value} (h : v.category = 2) : isW (some v) = true := by cases v <;> first | rfl | (simp [Value.category] at h)
theorem lh_st1 {ls : Array Slot} {nL : Nat} {ad : Nat → Nat} {lo : List (Option Value)} {i : Nat} {v : Value} (hok : stOK lo i = true) (h : lv_has ls nL ((i, cvV ad v) :: (loA ad lo).filter (fun q => !(q.1 == i) && !(q.1 + 1 == i && q.2.category == 2)))) : lh ls nL ad (lo.set i (some v)) := by
  refine ⟨h.1, h.2.1, fun j w hj => ?_⟩
  by_cases hji : j = i
  · subst hji
    have : w = v := by
      rw [List.getElem?_set_self' ] at hj
      cases hq : lo[j]? with
      | none => rw [hq] at hj; cases hj
      | some o => rw [hq] at hj; simpa using hj.symm
    subst this
    exact h.2.2 (j, cvV ad w) List.mem_cons_self
  · rw [List.getElem?_set_ne (fun q => hji q.symm)] at hj
    refine h.2.2 (j, cvV ad w) (List.mem_cons_of_mem _ (List.mem_filter.mpr ⟨loA_mem.mpr ⟨w, hj, rfl⟩, ?_⟩))
    simp only [Bool.and_eq_true, Bool.not_eq_true', beq_eq_false_iff_ne, ne_eq, hji, not_false_eq_true, true_and, Bool.and_eq_false_iff]
    by_cases hc : j + 1 = i
    · right
      subst hc
      simp only [stOK, hj, Bool.not_eq_true'] at hok
      rw [cvV_cat]
      cases hw : (w.category == 2) with
      | false => simpa using hw
      | true => rw [isW_of (by simpa using hw)] at hok; cases hok
    · left; simpa using hc
theorem lh_st2 {ls : Array Slot} {nL : Nat} {ad : Nat → Nat} {lo : List (Option Value)} {i : Nat} {v : Value} (hok : stOK lo i = true) (h : lv_has ls nL ((i, cvV ad v) :: (loA ad lo).filter (fun q => !(q.1 == i) && (!(q.1 == i + 1) && !(q.1 + 1 == i && q.2.category == 2))))) : lh ls nL ad ((lo.set i (some v)).set (i + 1) none) := by
  refine ⟨h.1, h.2.1, fun j w hj => ?_⟩
  by_cases hji1 : j = i + 1
  · subst hji1
    rw [List.getElem?_set_self'] at hj
    cases hq : (lo.set i (some v))[i + 1]? with
    | none => rw [hq] at hj; cases hj
    | some o => rw [hq] at hj; simp at hj
  rw [List.getElem?_set_ne (fun q => hji1 q.symm)] at hj
  by_cases hji : j = i
  · subst hji
    have : w = v := by
      rw [List.getElem?_set_self' ] at hj
      cases hq : lo[j]? with
      | none => rw [hq] at hj; cases hj
      | some o => rw [hq] at hj; simpa using hj.symm
    subst this
    exact h.2.2 (j, cvV ad w) List.mem_cons_self
  · rw [List.getElem?_set_ne (fun q => hji q.symm)] at hj
    refine h.2.2 (j, cvV ad w) (List.mem_cons_of_mem _ (List.mem_filter.mpr ⟨loA_mem.mpr ⟨w, hj, rfl⟩, ?_⟩))
    simp only [Bool.and_eq_true, Bool.not_eq_true', beq_eq_false_iff_ne, ne_eq, hji, hji1, not_false_eq_true, true_and, Bool.and_eq_false_iff]
    by_cases hc : j + 1 = i
    · right
      subst hc
      simp only [stOK, hj, Bool.not_eq_true'] at hok
      rw [cvV_cat]
      cases hw : (w.category == 2) with
      | false => simpa using hw
      | true => rw [isW_of (by simpa using hw)] at hok; cases hok
    · left; simpa using hc
/-! what a method's body stands in: p l e R s m args below meth c, A, D, cy, Q -/
abbrev Kx : Type := Program × Launch × Env × Room × State × MethodId × Array Value × List Frame × Method × Code × (Nat → Prop) × va_G × (Nat → Nat) × (State → Prop)
abbrev Kx.p (κ : Kx) : Program := κ.1
abbrev Kx.l (κ : Kx) : Launch := κ.2.1
abbrev Kx.e (κ : Kx) : Env := κ.2.2.1
abbrev Kx.R (κ : Kx) : Room := κ.2.2.2.1
abbrev Kx.s (κ : Kx) : State := κ.2.2.2.2.1
abbrev Kx.m (κ : Kx) : MethodId := κ.2.2.2.2.2.1
abbrev Kx.args (κ : Kx) : Array Value := κ.2.2.2.2.2.2.1
abbrev Kx.below (κ : Kx) : List Frame := κ.2.2.2.2.2.2.2.1
abbrev Kx.meth (κ : Kx) : Method := κ.2.2.2.2.2.2.2.2.1
abbrev Kx.c (κ : Kx) : Code := κ.2.2.2.2.2.2.2.2.2.1
abbrev Kx.A (κ : Kx) : Nat → Prop := κ.2.2.2.2.2.2.2.2.2.2.1
abbrev Kx.D (κ : Kx) : va_G := κ.2.2.2.2.2.2.2.2.2.2.2.1
abbrev Kx.cy (κ : Kx) : Nat → Nat := κ.2.2.2.2.2.2.2.2.2.2.2.2.1
abbrev Kx.Q (κ : Kx) : State → Prop := κ.2.2.2.2.2.2.2.2.2.2.2.2.2
/-- the number of cells, where they lie, the room taken -/
abbrev Om : Type := Nat × (Nat → Nat) × Nat × Nat
/-- from here (pc, locals, stack, heap) the method comes to its end -/
def X (κ : Kx) (nL : Nat) (ω : Om) (pc : Nat) (lo : List (Option Value)) (st : List Value) (σ : Hp) : Prop :=
  ∀ (H : Heap) (locs : List Loc) (ls : Array Slot), lh ls nL ω.2.1 lo → va_P κ.D vwCl (wl κ.cy ω.1 ω.2.1 σ) H → va_D κ.A (wl κ.cy ω.1 ω.2.1 σ) → va_S κ.A κ.s.heap H locs →
    W κ.p κ.l κ.e κ.R κ.s κ.m κ.args κ.below κ.meth κ.c H locs ω.2.2.1 ω.2.2.2 κ.Q (F0 κ.m pc ls (st.map (cvV ω.2.1)))
/-- the machine, the code, the names: what each row needs -/
def Cx (κ : Kx) (nL lev : Nat) (cc : ByteArray) (own mnm : String) : Prop :=
  κ.p.tables.exec = Jvm.exec ∧ κ.c.code = cc ∧ κ.c.maxLocals = nL ∧ κ.s.vm.findClass own = some κ.m.cls ∧ Uni κ.s ∧ va_K κ.D vwCl (tyL κ.cy) κ.s ∧ κ.meth.locks = false ∧ (∀ q, κ.s.heap.size ≤ q → κ.A q) ∧ (lev ≤ κ.R.frames ∧ 40 * lev ≤ κ.R.locals) ∧ κ.meth.name = mnm
end
section
section Rows
variable {κ : Kx} {nL lev : Nat} {cc : ByteArray} {own mnm : String} {ω : Om} {pc : Nat} {lo : List (Option Value)} {st : List Value} {σ : Hp}
theorem x_iconst (C : Cx κ nL lev cc own mnm) {n : Int} {v : Int32} (hd : decode cc pc = .ok (.iconst n, 1)) (hv : Int32.ofInt n = v) (k : X κ nL ω (pc + 1) lo (.int v :: st) σ) : X κ nL ω (pc) lo (st) σ := by
  intro H locs ls hl hP hD hS
  exact lv_iconst C.1 C.2.1 hd hv (k H locs ls hl hP hD hS)
theorem x_bipush (C : Cx κ nL lev cc own mnm) {n : Int} {v : Int32} (hd : decode cc pc = .ok (.bipush n, 2)) (hv : (Int8.ofInt n).toInt32 = v) (k : X κ nL ω (pc + 2) lo (.int v :: st) σ) : X κ nL ω (pc) lo (st) σ := by
  intro H locs ls hl hP hD hS
  exact lv_bipush C.1 C.2.1 hd hv (k H locs ls hl hP hD hS)
theorem x_sipush (C : Cx κ nL lev cc own mnm) {n : Int} {v : Int32} (hd : decode cc pc = .ok (.sipush n, 3)) (hv : (Int16.ofInt n).toInt32 = v) (k : X κ nL ω (pc + 3) lo (.int v :: st) σ) : X κ nL ω (pc) lo (st) σ := by
  intro H locs ls hl hP hD hS
  exact lv_sipush C.1 C.2.1 hd hv (k H locs ls hl hP hD hS)
theorem x_lconst (C : Cx κ nL lev cc own mnm) {n : Fin 2} {v : Int64} (hd : decode cc pc = .ok (.lconst n, 1)) (hv : Int64.ofNat (n : Nat) = v) (k : X κ nL ω (pc + 1) lo (.long v :: st) σ) : X κ nL ω (pc) lo (st) σ := by
  intro H locs ls hl hP hD hS
  exact lv_lconst C.1 C.2.1 hd hv (k H locs ls hl hP hD hS)
theorem x_ldc (C : Cx κ nL lev cc own mnm) {i : Nat} {v : Int32} (hw : Cond.constant own i v ∈ TB) (hd : decode cc pc = .ok (.ldc i, 2)) (k : X κ nL ω (pc + 2) lo (.int v :: st) σ) : X κ nL ω (pc) lo (st) σ := by
  intro H locs ls hl hP hD hS
  exact lv_ldc C.1 C.2.1 C.2.2.2.1 (C.2.2.2.2.1 _ hw _) hd (k H locs ls hl hP hD hS)
theorem x_ldcw (C : Cx κ nL lev cc own mnm) {i : Nat} {v : Int32} (hw : Cond.constant own i v ∈ TB) (hd : decode cc pc = .ok (.ldc_w i, 3)) (k : X κ nL ω (pc + 3) lo (.int v :: st) σ) : X κ nL ω (pc) lo (st) σ := by
  intro H locs ls hl hP hD hS
  exact lv_ldcw C.1 C.2.1 C.2.2.2.1 (C.2.2.2.2.1 _ hw _) hd (k H locs ls hl hP hD hS)
theorem x_ldc2 (C : Cx κ nL lev cc own mnm) {i : Nat} {v : Int64} (hw : Cond.constantLong own i v ∈ TB) (hd : decode cc pc = .ok (.ldc2_w i, 3)) (k : X κ nL ω (pc + 3) lo (.long v :: st) σ) : X κ nL ω (pc) lo (st) σ := by
  intro H locs ls hl hP hD hS
  exact lv_ldc2 C.1 C.2.1 C.2.2.2.1 (C.2.2.2.2.1 _ hw _) hd (k H locs ls hl hP hD hS)
theorem x_null (C : Cx κ nL lev cc own mnm)  (hd : decode cc pc = .ok (.aconst_null, 1)) (k : X κ nL ω (pc + 1) lo (.null :: st) σ) : X κ nL ω (pc) lo (st) σ := by
  intro H locs ls hl hP hD hS
  exact lv_null C.1 C.2.1 hd (k H locs ls hl hP hD hS)
theorem x_iload_n (C : Cx κ nL lev cc own mnm) {k0 : Fin 4} {i : Nat} {x : Int32} (hd : decode cc pc = .ok (.iload_n k0, 1)) (hi : (k0 : Nat) = i) (hv : lo[i]? = some (some (.int x))) (k : X κ nL ω (pc + 1) lo (.int x :: st) σ) : X κ nL ω (pc) lo (st) σ := by
  intro H locs ls hl hP hD hS
  exact lv_iload_n C.1 C.2.1 hd hi (hl.2.2 i _ hv) (k H locs ls hl hP hD hS)
theorem x_iload (C : Cx κ nL lev cc own mnm) {i : Nat} {x : Int32} (hd : decode cc pc = .ok (.iload i, 2)) (hv : lo[i]? = some (some (.int x))) (k : X κ nL ω (pc + 2) lo (.int x :: st) σ) : X κ nL ω (pc) lo (st) σ := by
  intro H locs ls hl hP hD hS
  exact lv_iload C.1 C.2.1 hd (hl.2.2 i _ hv) (k H locs ls hl hP hD hS)
theorem x_lload_n (C : Cx κ nL lev cc own mnm) {k0 : Fin 4} {i : Nat} {x : Int64} (hd : decode cc pc = .ok (.lload_n k0, 1)) (hi : (k0 : Nat) = i) (hv : lo[i]? = some (some (.long x))) (k : X κ nL ω (pc + 1) lo (.long x :: st) σ) : X κ nL ω (pc) lo (st) σ := by
  intro H locs ls hl hP hD hS
  exact lv_lload_n C.1 C.2.1 hd hi (hl.2.2 i _ hv) (k H locs ls hl hP hD hS)
theorem x_lload (C : Cx κ nL lev cc own mnm) {i : Nat} {x : Int64} (hd : decode cc pc = .ok (.lload i, 2)) (hv : lo[i]? = some (some (.long x))) (k : X κ nL ω (pc + 2) lo (.long x :: st) σ) : X κ nL ω (pc) lo (st) σ := by
  intro H locs ls hl hP hD hS
  exact lv_lload C.1 C.2.1 hd (hl.2.2 i _ hv) (k H locs ls hl hP hD hS)
theorem x_aload_n (C : Cx κ nL lev cc own mnm) {k0 : Fin 4} {i : Nat} {x : Nat} (hd : decode cc pc = .ok (.aload_n k0, 1)) (hi : (k0 : Nat) = i) (hv : lo[i]? = some (some (.ref x))) (k : X κ nL ω (pc + 1) lo (.ref x :: st) σ) : X κ nL ω (pc) lo (st) σ := by
  intro H locs ls hl hP hD hS
  exact lv_aload_n C.1 C.2.1 hd hi (hl.2.2 i _ hv) (k H locs ls hl hP hD hS)
theorem x_aload (C : Cx κ nL lev cc own mnm) {i : Nat} {x : Nat} (hd : decode cc pc = .ok (.aload i, 2)) (hv : lo[i]? = some (some (.ref x))) (k : X κ nL ω (pc + 2) lo (.ref x :: st) σ) : X κ nL ω (pc) lo (st) σ := by
  intro H locs ls hl hP hD hS
  exact lv_aload C.1 C.2.1 hd (hl.2.2 i _ hv) (k H locs ls hl hP hD hS)
theorem x_aload_nN (C : Cx κ nL lev cc own mnm) {k0 : Fin 4} {i : Nat} (hd : decode cc pc = .ok (.aload_n k0, 1)) (hi : (k0 : Nat) = i) (hv : lo[i]? = some (some .null)) (k : X κ nL ω (pc + 1) lo (.null :: st) σ) : X κ nL ω (pc) lo (st) σ := by
  intro H locs ls hl hP hD hS
  exact lv_aload_nN C.1 C.2.1 hd hi (hl.2.2 i _ hv) (k H locs ls hl hP hD hS)
theorem x_aload_nQ (C : Cx κ nL lev cc own mnm) {k0 : Fin 4} {i : Nat} {q : Option Nat} (hd : decode cc pc = .ok (.aload_n k0, 1)) (hi : (k0 : Nat) = i) (hv : lo[i]? = some (some (va_rf q))) (k : X κ nL ω (pc + 1) lo (va_rf q :: st) σ) : X κ nL ω (pc) lo (st) σ := by
  cases q with
  | none => exact x_aload_nN C hd hi hv k
  | some r => exact x_aload_n C hd hi hv k
theorem x_aloadQ (C : Cx κ nL lev cc own mnm) {i : Nat} {q : Option Nat} (hd : decode cc pc = .ok (.aload i, 2)) (hv : lo[i]? = some (some (va_rf q))) (k : X κ nL ω (pc + 2) lo (va_rf q :: st) σ) : X κ nL ω (pc) lo (st) σ := by
  cases q with
  | none =>
    intro H locs ls hl hP hD hS
    exact lv_aloadN C.1 C.2.1 hd (hl.2.2 i _ hv) (k H locs ls hl hP hD hS)
  | some r => exact x_aload C hd hv k
theorem x_istore_n (C : Cx κ nL lev cc own mnm) {k0 : Fin 4} {i : Nat} {x : Int32} (hd : decode cc pc = .ok (.istore_n k0, 1)) (hi : (k0 : Nat) = i) (hn : i < nL) (hok : stOK lo i = true) {lo' : List (Option Value)} (hlo : lo.set i (some (.int x)) = lo') (k : X κ nL ω (pc + 1) lo' (st) σ) : X κ nL ω (pc) lo (.int x :: st) σ := by
  intro H locs ls hl hP hD hS
  subst hlo; exact lv_istore_n C.1 C.2.1 hd hi hl.has hn rfl (fun ls' h' => k H locs ls' (lh_st1 (v := .int x) hok h') hP hD hS)
theorem x_istore (C : Cx κ nL lev cc own mnm) {i : Nat} {x : Int32} (hd : decode cc pc = .ok (.istore i, 2)) (hn : i < nL) (hok : stOK lo i = true) {lo' : List (Option Value)} (hlo : lo.set i (some (.int x)) = lo') (k : X κ nL ω (pc + 2) lo' (st) σ) : X κ nL ω (pc) lo (.int x :: st) σ := by
  intro H locs ls hl hP hD hS
  subst hlo; exact lv_istore C.1 C.2.1 hd hl.has hn rfl (fun ls' h' => k H locs ls' (lh_st1 (v := .int x) hok h') hP hD hS)
theorem x_astore_n (C : Cx κ nL lev cc own mnm) {k0 : Fin 4} {i : Nat} {x : Nat} (hd : decode cc pc = .ok (.astore_n k0, 1)) (hi : (k0 : Nat) = i) (hn : i < nL) (hok : stOK lo i = true) {lo' : List (Option Value)} (hlo : lo.set i (some (.ref x)) = lo') (k : X κ nL ω (pc + 1) lo' (st) σ) : X κ nL ω (pc) lo (.ref x :: st) σ := by
  intro H locs ls hl hP hD hS
  subst hlo; exact lv_astore_n C.1 C.2.1 hd hi hl.has hn rfl (fun ls' h' => k H locs ls' (lh_st1 (v := .ref x) hok h') hP hD hS)
theorem x_astore (C : Cx κ nL lev cc own mnm) {i : Nat} {x : Nat} (hd : decode cc pc = .ok (.astore i, 2)) (hn : i < nL) (hok : stOK lo i = true) {lo' : List (Option Value)} (hlo : lo.set i (some (.ref x)) = lo') (k : X κ nL ω (pc + 2) lo' (st) σ) : X κ nL ω (pc) lo (.ref x :: st) σ := by
  intro H locs ls hl hP hD hS
  subst hlo; exact lv_astore C.1 C.2.1 hd hl.has hn rfl (fun ls' h' => k H locs ls' (lh_st1 (v := .ref x) hok h') hP hD hS)
theorem x_lstore_n (C : Cx κ nL lev cc own mnm) {k0 : Fin 4} {i : Nat} {x : Int64} (hd : decode cc pc = .ok (.lstore_n k0, 1)) (hi : (k0 : Nat) = i) (hn : i + 1 < nL) (hok : stOK lo i = true) {lo' : List (Option Value)} (hlo : (lo.set i (some (.long x))).set (i + 1) none = lo') (k : X κ nL ω (pc + 1) lo' (st) σ) : X κ nL ω (pc) lo (.long x :: st) σ := by
  intro H locs ls hl hP hD hS
  subst hlo; exact lv_lstore_n C.1 C.2.1 hd hi hl.has hn rfl (fun ls' h' => k H locs ls' (lh_st2 (v := .long x) hok h') hP hD hS)
theorem x_lstore (C : Cx κ nL lev cc own mnm) {i : Nat} {x : Int64} (hd : decode cc pc = .ok (.lstore i, 2)) (hn : i + 1 < nL) (hok : stOK lo i = true) {lo' : List (Option Value)} (hlo : (lo.set i (some (.long x))).set (i + 1) none = lo') (k : X κ nL ω (pc + 2) lo' (st) σ) : X κ nL ω (pc) lo (.long x :: st) σ := by
  intro H locs ls hl hP hD hS
  subst hlo; exact lv_lstore C.1 C.2.1 hd hl.has hn rfl (fun ls' h' => k H locs ls' (lh_st2 (v := .long x) hok h') hP hD hS)
theorem x_astore_nQ (C : Cx κ nL lev cc own mnm) {k0 : Fin 4} {i : Nat} {q : Option Nat} (hd : decode cc pc = .ok (.astore_n k0, 1)) (hi : (k0 : Nat) = i) (hn : i < nL) (hok : stOK lo i = true) {lo' : List (Option Value)} (hlo : lo.set i (some (va_rf q)) = lo') (k : X κ nL ω (pc + 1) lo' (st) σ) : X κ nL ω (pc) lo (va_rf q :: st) σ := by
  cases q with
  | none =>
    intro H locs ls hl hP hD hS
    subst hlo; exact lv_astore_nN C.1 C.2.1 hd hi hl.has hn rfl (fun ls' h' => k H locs ls' (lh_st1 (v := .null) hok h') hP hD hS)
  | some r => exact x_astore_n C hd hi hn hok hlo k
theorem x_astoreQ (C : Cx κ nL lev cc own mnm) {i : Nat} {q : Option Nat} (hd : decode cc pc = .ok (.astore i, 2)) (hn : i < nL) (hok : stOK lo i = true) {lo' : List (Option Value)} (hlo : lo.set i (some (va_rf q)) = lo') (k : X κ nL ω (pc + 2) lo' (st) σ) : X κ nL ω (pc) lo (va_rf q :: st) σ := by
  cases q with
  | none =>
    intro H locs ls hl hP hD hS
    subst hlo; exact lv_astoreN C.1 C.2.1 hd hl.has hn rfl (fun ls' h' => k H locs ls' (lh_st1 (v := .null) hok h') hP hD hS)
  | some r => exact x_astore C hd hn hok hlo k
theorem loA_at {ad : Nat → Nat} {lo : List (Option Value)} {i : Nat} {v : Value} (h : lo[i]? = some (some v)) : ∃ k : Nat, (loA ad lo)[k]? = some (i, cvV ad v) := List.getElem?_of_mem (loA_mem.mpr ⟨v, h, rfl⟩)
theorem x_iinc (C : Cx κ nL lev cc own mnm) {i : Nat} {n : Int} {x y : Int32} (hd : decode cc pc = .ok (.iinc i n, 3)) (hv : lo[i]? = some (some (.int x))) (hy : x + Int32.ofInt n = y) (hn : i < nL) (hok : stOK lo i = true) {lo' : List (Option Value)} (hlo : lo.set i (some (.int y)) = lo') (k : X κ nL ω (pc + 3) lo' (st) σ) : X κ nL ω (pc) lo (st) σ := by
  intro H locs ls hl hP hD hS
  obtain ⟨kk, hk⟩ := loA_at (ad := ω.2.1) hv
  subst hlo; exact lv_iinc C.1 C.2.1 hd hl.has hk hy hn rfl (fun ls' h' => k H locs ls' (lh_st1 (v := .int y) hok h') hP hD hS)
theorem x_iadd (C : Cx κ nL lev cc own mnm) {x y : Int32} (hd : decode cc pc = .ok (.iadd, 1)) (k : X κ nL ω (pc + 1) lo (.int (x + y) :: st) σ) : X κ nL ω (pc) lo (.int y :: .int x :: st) σ := by
  intro H locs ls hl hP hD hS
  exact lv_iadd C.1 C.2.1 hd (k H locs ls hl hP hD hS)
theorem x_isub (C : Cx κ nL lev cc own mnm) {x y : Int32} (hd : decode cc pc = .ok (.isub, 1)) (k : X κ nL ω (pc + 1) lo (.int (x - y) :: st) σ) : X κ nL ω (pc) lo (.int y :: .int x :: st) σ := by
  intro H locs ls hl hP hD hS
  exact lv_isub C.1 C.2.1 hd (k H locs ls hl hP hD hS)
theorem x_imul (C : Cx κ nL lev cc own mnm) {x y : Int32} (hd : decode cc pc = .ok (.imul, 1)) (k : X κ nL ω (pc + 1) lo (.int (x * y) :: st) σ) : X κ nL ω (pc) lo (.int y :: .int x :: st) σ := by
  intro H locs ls hl hP hD hS
  exact lv_imul C.1 C.2.1 hd (k H locs ls hl hP hD hS)
theorem x_iand (C : Cx κ nL lev cc own mnm) {x y : Int32} (hd : decode cc pc = .ok (.iand, 1)) (k : X κ nL ω (pc + 1) lo (.int (x &&& y) :: st) σ) : X κ nL ω (pc) lo (.int y :: .int x :: st) σ := by
  intro H locs ls hl hP hD hS
  exact lv_iand C.1 C.2.1 hd (k H locs ls hl hP hD hS)
theorem x_ior (C : Cx κ nL lev cc own mnm) {x y : Int32} (hd : decode cc pc = .ok (.ior, 1)) (k : X κ nL ω (pc + 1) lo (.int (x ||| y) :: st) σ) : X κ nL ω (pc) lo (.int y :: .int x :: st) σ := by
  intro H locs ls hl hP hD hS
  exact lv_ior C.1 C.2.1 hd (k H locs ls hl hP hD hS)
theorem x_ixor (C : Cx κ nL lev cc own mnm) {x y : Int32} (hd : decode cc pc = .ok (.ixor, 1)) (k : X κ nL ω (pc + 1) lo (.int (x ^^^ y) :: st) σ) : X κ nL ω (pc) lo (.int y :: .int x :: st) σ := by
  intro H locs ls hl hP hD hS
  exact lv_ixor C.1 C.2.1 hd (k H locs ls hl hP hD hS)
theorem x_ishl (C : Cx κ nL lev cc own mnm) {x y : Int32} (hd : decode cc pc = .ok (.ishl, 1)) (k : X κ nL ω (pc + 1) lo (.int (x <<< (y &&& 31)) :: st) σ) : X κ nL ω (pc) lo (.int y :: .int x :: st) σ := by
  intro H locs ls hl hP hD hS
  exact lv_ishl C.1 C.2.1 hd (k H locs ls hl hP hD hS)
theorem x_ishr (C : Cx κ nL lev cc own mnm) {x y : Int32} (hd : decode cc pc = .ok (.ishr, 1)) (k : X κ nL ω (pc + 1) lo (.int (x >>> (y &&& 31)) :: st) σ) : X κ nL ω (pc) lo (.int y :: .int x :: st) σ := by
  intro H locs ls hl hP hD hS
  exact lv_ishr C.1 C.2.1 hd (k H locs ls hl hP hD hS)
theorem x_ladd (C : Cx κ nL lev cc own mnm) {x y : Int64} (hd : decode cc pc = .ok (.ladd, 1)) (k : X κ nL ω (pc + 1) lo (.long (x + y) :: st) σ) : X κ nL ω (pc) lo (.long y :: .long x :: st) σ := by
  intro H locs ls hl hP hD hS
  exact lv_ladd C.1 C.2.1 hd (k H locs ls hl hP hD hS)
theorem x_lmul (C : Cx κ nL lev cc own mnm) {x y : Int64} (hd : decode cc pc = .ok (.lmul, 1)) (k : X κ nL ω (pc + 1) lo (.long (x * y) :: st) σ) : X κ nL ω (pc) lo (.long y :: .long x :: st) σ := by
  intro H locs ls hl hP hD hS
  exact lv_lmul C.1 C.2.1 hd (k H locs ls hl hP hD hS)
theorem x_lsub (C : Cx κ nL lev cc own mnm) {x y : Int64} (hd : decode cc pc = .ok (.lsub, 1)) (k : X κ nL ω (pc + 1) lo (.long (x - y) :: st) σ) : X κ nL ω (pc) lo (.long y :: .long x :: st) σ := by
  intro H locs ls hl hP hD hS
  exact lv_lsub C.1 C.2.1 hd (k H locs ls hl hP hD hS)
theorem x_idiv (C : Cx κ nL lev cc own mnm) {x y : Int32} (hd : decode cc pc = .ok (.idiv, 1)) (hne : ¬ y = 0) (k : X κ nL ω (pc + 1) lo (.int (x / y) :: st) σ) : X κ nL ω (pc) lo (.int y :: .int x :: st) σ := by
  intro H locs ls hl hP hD hS
  exact lv_idiv C.1 C.2.1 hd hne (k H locs ls hl hP hD hS)
theorem x_irem (C : Cx κ nL lev cc own mnm) {x y : Int32} (hd : decode cc pc = .ok (.irem, 1)) (hne : ¬ y = 0) (k : X κ nL ω (pc + 1) lo (.int (x - x / y * y) :: st) σ) : X κ nL ω (pc) lo (.int y :: .int x :: st) σ := by
  intro H locs ls hl hP hD hS
  exact lv_irem C.1 C.2.1 hd hne (k H locs ls hl hP hD hS)
theorem x_ldiv (C : Cx κ nL lev cc own mnm) {x y : Int64} (hd : decode cc pc = .ok (.ldiv, 1)) (hne : ¬ y = 0) (k : X κ nL ω (pc + 1) lo (.long (x / y) :: st) σ) : X κ nL ω (pc) lo (.long y :: .long x :: st) σ := by
  intro H locs ls hl hP hD hS
  exact lv_ldiv C.1 C.2.1 hd hne (k H locs ls hl hP hD hS)
theorem x_lrem (C : Cx κ nL lev cc own mnm) {x y : Int64} (hd : decode cc pc = .ok (.lrem, 1)) (hne : ¬ y = 0) (k : X κ nL ω (pc + 1) lo (.long (x - x / y * y) :: st) σ) : X κ nL ω (pc) lo (.long y :: .long x :: st) σ := by
  intro H locs ls hl hP hD hS
  exact lv_lrem C.1 C.2.1 hd hne (k H locs ls hl hP hD hS)
theorem x_ineg (C : Cx κ nL lev cc own mnm) {x : Int32} (hd : decode cc pc = .ok (.ineg, 1)) (k : X κ nL ω (pc + 1) lo (.int (-x) :: st) σ) : X κ nL ω (pc) lo (.int x :: st) σ := by
  intro H locs ls hl hP hD hS
  exact lv_ineg C.1 C.2.1 hd (k H locs ls hl hP hD hS)
theorem x_iushr (C : Cx κ nL lev cc own mnm) {x y : Int32} (hd : decode cc pc = .ok (.iushr, 1)) (k : X κ nL ω (pc + 1) lo (.int ((x.toUInt32 >>> (y.toUInt32 &&& Int32.toUInt32 31)).toInt32) :: st) σ) : X κ nL ω (pc) lo (.int y :: .int x :: st) σ := by
  intro H locs ls hl hP hD hS
  exact lv_iushr C.1 C.2.1 hd rfl (k H locs ls hl hP hD hS)
theorem x_i2l (C : Cx κ nL lev cc own mnm) {x : Int32} (hd : decode cc pc = .ok (.i2l, 1)) (k : X κ nL ω (pc + 1) lo (.long x.toInt64 :: st) σ) : X κ nL ω (pc) lo (.int x :: st) σ := by
  intro H locs ls hl hP hD hS
  exact lv_i2l C.1 C.2.1 hd rfl (k H locs ls hl hP hD hS)
theorem x_l2i (C : Cx κ nL lev cc own mnm) {x : Int64} (hd : decode cc pc = .ok (.l2i, 1)) (k : X κ nL ω (pc + 1) lo (.int x.toInt32 :: st) σ) : X κ nL ω (pc) lo (.long x :: st) σ := by
  intro H locs ls hl hP hD hS
  exact lv_l2i C.1 C.2.1 hd rfl (k H locs ls hl hP hD hS)
theorem x_i2b (C : Cx κ nL lev cc own mnm) {x : Int32} (hd : decode cc pc = .ok (.i2b, 1)) (k : X κ nL ω (pc + 1) lo (.int x.toInt8.toInt32 :: st) σ) : X κ nL ω (pc) lo (.int x :: st) σ := by
  intro H locs ls hl hP hD hS
  exact lv_i2b C.1 C.2.1 hd rfl (k H locs ls hl hP hD hS)
theorem x_i2s (C : Cx κ nL lev cc own mnm) {x : Int32} (hd : decode cc pc = .ok (.i2s, 1)) (k : X κ nL ω (pc + 1) lo (.int x.toInt16.toInt32 :: st) σ) : X κ nL ω (pc) lo (.int x :: st) σ := by
  intro H locs ls hl hP hD hS
  exact lv_i2s C.1 C.2.1 hd rfl (k H locs ls hl hP hD hS)
theorem x_lcmp (C : Cx κ nL lev cc own mnm) {x y : Int64} (hd : decode cc pc = .ok (.lcmp, 1)) (k : X κ nL ω (pc + 1) lo (.int (lg_cmp x y) :: st) σ) : X κ nL ω (pc) lo (.long y :: .long x :: st) σ := by
  intro H locs ls hl hP hD hS
  exact W.lcmp C.1 C.2.1 hd (k H locs ls hl hP hD hS)
theorem x_dup (C : Cx κ nL lev cc own mnm) {v : Value} (hd : decode cc pc = .ok (.dup, 1)) (hc : v.category = 1) (k : X κ nL ω (pc + 1) lo (v :: v :: st) σ) : X κ nL ω (pc) lo (v :: st) σ := by
  intro H locs ls hl hP hD hS
  exact lv_dup C.1 C.2.1 hd (by rw [cvV_cat]; exact hc) (k H locs ls hl hP hD hS)
theorem x_pop (C : Cx κ nL lev cc own mnm) {v : Value} (hd : decode cc pc = .ok (.pop, 1)) (hc : v.category = 1) (k : X κ nL ω (pc + 1) lo (st) σ) : X κ nL ω (pc) lo (v :: st) σ := by
  intro H locs ls hl hP hD hS
  exact lv_pop C.1 C.2.1 hd (by rw [cvV_cat]; exact hc) (k H locs ls hl hP hD hS)
theorem x_dup2 (C : Cx κ nL lev cc own mnm) {v w : Value} (hd : decode cc pc = .ok (.dup2, 1)) (hc : v.category = 1) (hc2 : w.category = 1) (k : X κ nL ω (pc + 1) lo (v :: w :: v :: w :: st) σ) : X κ nL ω (pc) lo (v :: w :: st) σ := by
  intro H locs ls hl hP hD hS
  exact lv_dup2_11 C.1 C.2.1 hd (by rw [cvV_cat]; exact hc) (by rw [cvV_cat]; exact hc2) (k H locs ls hl hP hD hS)
theorem x_topi {x : Int32} (k : ∀ y : Int32, y = x → X κ nL ω (pc) lo (.int y :: st) σ) : X κ nL ω (pc) lo (.int x :: st) σ := k x rfl
theorem x_topl {x : Int64} (k : ∀ y : Int64, y = x → X κ nL ω (pc) lo (.long y :: st) σ) : X κ nL ω (pc) lo (.long x :: st) σ := k x rfl
theorem x_if_eq (C : Cx κ nL lev cc own mnm) {x : Int32} {off : Int} {tgt : Nat} (hd : decode cc pc = .ok (.ifCond .eq off, 3)) (ht : (pc : Int) + off = (tgt : Int)) (kt : x = 0 → X κ nL ω (tgt) lo (st) σ) (kf : ¬ (x = 0) → X κ nL ω (pc + 3) lo (st) σ) : X κ nL ω (pc) lo (.int x :: st) σ := by
  intro H locs ls hl hP hD hS
  exact lv_if_eq C.1 C.2.1 hd ht (fun h => kt h H locs ls hl hP hD hS) (fun h => kf h H locs ls hl hP hD hS)
theorem x_if_ne (C : Cx κ nL lev cc own mnm) {x : Int32} {off : Int} {tgt : Nat} (hd : decode cc pc = .ok (.ifCond .ne off, 3)) (ht : (pc : Int) + off = (tgt : Int)) (kt : ¬ x = 0 → X κ nL ω (tgt) lo (st) σ) (kf : x = 0 → X κ nL ω (pc + 3) lo (st) σ) : X κ nL ω (pc) lo (.int x :: st) σ := by
  intro H locs ls hl hP hD hS
  exact lv_if_ne C.1 C.2.1 hd ht (fun h => kt h H locs ls hl hP hD hS) (fun h => kf h H locs ls hl hP hD hS)
theorem x_if_lt (C : Cx κ nL lev cc own mnm) {x : Int32} {off : Int} {tgt : Nat} (hd : decode cc pc = .ok (.ifCond .lt off, 3)) (ht : (pc : Int) + off = (tgt : Int)) (kt : x < 0 → X κ nL ω (tgt) lo (st) σ) (kf : ¬ (x < 0) → X κ nL ω (pc + 3) lo (st) σ) : X κ nL ω (pc) lo (.int x :: st) σ := by
  intro H locs ls hl hP hD hS
  exact lv_if_lt C.1 C.2.1 hd ht (fun h => kt h H locs ls hl hP hD hS) (fun h => kf h H locs ls hl hP hD hS)
theorem x_if_ge (C : Cx κ nL lev cc own mnm) {x : Int32} {off : Int} {tgt : Nat} (hd : decode cc pc = .ok (.ifCond .ge off, 3)) (ht : (pc : Int) + off = (tgt : Int)) (kt : 0 ≤ x → X κ nL ω (tgt) lo (st) σ) (kf : ¬ (0 ≤ x) → X κ nL ω (pc + 3) lo (st) σ) : X κ nL ω (pc) lo (.int x :: st) σ := by
  intro H locs ls hl hP hD hS
  exact lv_if_ge C.1 C.2.1 hd ht (fun h => kt h H locs ls hl hP hD hS) (fun h => kf h H locs ls hl hP hD hS)
theorem x_if_gt (C : Cx κ nL lev cc own mnm) {x : Int32} {off : Int} {tgt : Nat} (hd : decode cc pc = .ok (.ifCond .gt off, 3)) (ht : (pc : Int) + off = (tgt : Int)) (kt : 0 < x → X κ nL ω (tgt) lo (st) σ) (kf : ¬ (0 < x) → X κ nL ω (pc + 3) lo (st) σ) : X κ nL ω (pc) lo (.int x :: st) σ := by
  intro H locs ls hl hP hD hS
  exact lv_if_gt C.1 C.2.1 hd ht (fun h => kt h H locs ls hl hP hD hS) (fun h => kf h H locs ls hl hP hD hS)
theorem x_if_le (C : Cx κ nL lev cc own mnm) {x : Int32} {off : Int} {tgt : Nat} (hd : decode cc pc = .ok (.ifCond .le off, 3)) (ht : (pc : Int) + off = (tgt : Int)) (kt : x ≤ 0 → X κ nL ω (tgt) lo (st) σ) (kf : ¬ (x ≤ 0) → X κ nL ω (pc + 3) lo (st) σ) : X κ nL ω (pc) lo (.int x :: st) σ := by
  intro H locs ls hl hP hD hS
  exact lv_if_le C.1 C.2.1 hd ht (fun h => kt h H locs ls hl hP hD hS) (fun h => kf h H locs ls hl hP hD hS)
theorem x_icmp_eq (C : Cx κ nL lev cc own mnm) {x y : Int32} {off : Int} {tgt : Nat} (hd : decode cc pc = .ok (.if_icmp .eq off, 3)) (ht : (pc : Int) + off = (tgt : Int)) (kt : x = y → X κ nL ω (tgt) lo (st) σ) (kf : ¬ (x = y) → X κ nL ω (pc + 3) lo (st) σ) : X κ nL ω (pc) lo (.int y :: .int x :: st) σ := by
  intro H locs ls hl hP hD hS
  exact lv_icmp_eq C.1 C.2.1 hd ht (fun h => kt h H locs ls hl hP hD hS) (fun h => kf h H locs ls hl hP hD hS)
theorem x_icmp_ne (C : Cx κ nL lev cc own mnm) {x y : Int32} {off : Int} {tgt : Nat} (hd : decode cc pc = .ok (.if_icmp .ne off, 3)) (ht : (pc : Int) + off = (tgt : Int)) (kt : ¬ x = y → X κ nL ω (tgt) lo (st) σ) (kf : x = y → X κ nL ω (pc + 3) lo (st) σ) : X κ nL ω (pc) lo (.int y :: .int x :: st) σ := by
  intro H locs ls hl hP hD hS
  exact lv_icmp_ne C.1 C.2.1 hd ht (fun h => kt h H locs ls hl hP hD hS) (fun h => kf h H locs ls hl hP hD hS)
theorem x_icmp_lt (C : Cx κ nL lev cc own mnm) {x y : Int32} {off : Int} {tgt : Nat} (hd : decode cc pc = .ok (.if_icmp .lt off, 3)) (ht : (pc : Int) + off = (tgt : Int)) (kt : x < y → X κ nL ω (tgt) lo (st) σ) (kf : ¬ (x < y) → X κ nL ω (pc + 3) lo (st) σ) : X κ nL ω (pc) lo (.int y :: .int x :: st) σ := by
  intro H locs ls hl hP hD hS
  exact lv_icmp_lt C.1 C.2.1 hd ht (fun h => kt h H locs ls hl hP hD hS) (fun h => kf h H locs ls hl hP hD hS)
theorem x_icmp_ge (C : Cx κ nL lev cc own mnm) {x y : Int32} {off : Int} {tgt : Nat} (hd : decode cc pc = .ok (.if_icmp .ge off, 3)) (ht : (pc : Int) + off = (tgt : Int)) (kt : y ≤ x → X κ nL ω (tgt) lo (st) σ) (kf : ¬ (y ≤ x) → X κ nL ω (pc + 3) lo (st) σ) : X κ nL ω (pc) lo (.int y :: .int x :: st) σ := by
  intro H locs ls hl hP hD hS
  exact lv_icmp_ge C.1 C.2.1 hd ht (fun h => kt h H locs ls hl hP hD hS) (fun h => kf h H locs ls hl hP hD hS)
theorem x_icmp_gt (C : Cx κ nL lev cc own mnm) {x y : Int32} {off : Int} {tgt : Nat} (hd : decode cc pc = .ok (.if_icmp .gt off, 3)) (ht : (pc : Int) + off = (tgt : Int)) (kt : y < x → X κ nL ω (tgt) lo (st) σ) (kf : ¬ (y < x) → X κ nL ω (pc + 3) lo (st) σ) : X κ nL ω (pc) lo (.int y :: .int x :: st) σ := by
  intro H locs ls hl hP hD hS
  exact lv_icmp_gt C.1 C.2.1 hd ht (fun h => kt h H locs ls hl hP hD hS) (fun h => kf h H locs ls hl hP hD hS)
theorem x_icmp_le (C : Cx κ nL lev cc own mnm) {x y : Int32} {off : Int} {tgt : Nat} (hd : decode cc pc = .ok (.if_icmp .le off, 3)) (ht : (pc : Int) + off = (tgt : Int)) (kt : x ≤ y → X κ nL ω (tgt) lo (st) σ) (kf : ¬ (x ≤ y) → X κ nL ω (pc + 3) lo (st) σ) : X κ nL ω (pc) lo (.int y :: .int x :: st) σ := by
  intro H locs ls hl hP hD hS
  exact lv_icmp_le C.1 C.2.1 hd ht (fun h => kt h H locs ls hl hP hD hS) (fun h => kf h H locs ls hl hP hD hS)
theorem x_goto (C : Cx κ nL lev cc own mnm) {off : Int} {tgt : Nat} (hd : decode cc pc = .ok (.goto off, 3)) (ht : (pc : Int) + off = (tgt : Int)) (k : X κ nL ω (tgt) lo (st) σ) : X κ nL ω (pc) lo (st) σ := by
  intro H locs ls hl hP hD hS
  exact lv_goto C.1 C.2.1 hd ht (k H locs ls hl hP hD hS)
theorem x_ifnull (C : Cx κ nL lev cc own mnm) {q : Option Nat} {off : Int} {tgt : Nat} (hd : decode cc pc = .ok (.ifnull off, 3)) (ht : (pc : Int) + off = (tgt : Int)) (kt : q = none → X κ nL ω (tgt) lo (st) σ) (kf : ∀ r, q = some r → X κ nL ω (pc + 3) lo (st) σ) : X κ nL ω (pc) lo (va_rf q :: st) σ := by
  intro H locs ls hl hP hD hS
  cases q with
  | none => exact lv_ifnullN C.1 C.2.1 hd ht (kt rfl H locs ls hl hP hD hS)
  | some r => exact lv_ifnull C.1 C.2.1 hd (kf r rfl H locs ls hl hP hD hS)
theorem x_ifnonnull (C : Cx κ nL lev cc own mnm) {q : Option Nat} {off : Int} {tgt : Nat} (hd : decode cc pc = .ok (.ifnonnull off, 3)) (ht : (pc : Int) + off = (tgt : Int)) (kt : ∀ r, q = some r → X κ nL ω (tgt) lo (st) σ) (kf : q = none → X κ nL ω (pc + 3) lo (st) σ) : X κ nL ω (pc) lo (va_rf q :: st) σ := by
  intro H locs ls hl hP hD hS
  cases q with
  | none => exact lv_ifnonnullN C.1 C.2.1 hd (kf rfl H locs ls hl hP hD hS)
  | some r => exact lv_ifnonnull C.1 C.2.1 hd ht (kt r rfl H locs ls hl hP hD hS)
theorem x_lookup (C : Cx κ nL lev cc own mnm) {dflt : Int} {ps : Array (Int × Int)} {len : Nat} {x : Int32} {off : Int} {tgt : Nat} (hd : decode cc pc = .ok (.lookupswitch dflt ps, len)) (hp : (ps.toList.zip (ps.toList.drop 1)).all (fun (a, next) => a.1 < next.1) = true) (ho : Op.lookupswitch.offset ps.toList dflt x.toInt = off) (ht : (pc : Int) + off = (tgt : Int)) (k : X κ nL ω tgt lo st σ) : X κ nL ω pc lo (.int x :: st) σ := by
  intro H locs ls hl hP hD hS
  exact lv_lookup C.1 C.2.1 hd hp ho ht (k H locs ls hl hP hD hS)
theorem x_tableOut (C : Cx κ nL lev cc own mnm) {dflt lo1 hi : Int} {offs : Array Int} {len : Nat} {x : Int32} {tgt : Nat} (hd : decode cc pc = .ok (.tableswitch dflt lo1 hi offs, len)) (h : x.toInt < lo1 ∨ hi < x.toInt) (ht : (pc : Int) + dflt = (tgt : Int)) (k : X κ nL ω tgt lo st σ) : X κ nL ω pc lo (.int x :: st) σ := by
  intro H locs ls hl hP hD hS
  exact lv_tableOut C.1 C.2.1 hd h ht (k H locs ls hl hP hD hS)
theorem x_tableIn (C : Cx κ nL lev cc own mnm) {dflt lo1 hi : Int} {offs : Array Int} {len : Nat} {x : Int32} {off : Int} {tgt : Nat} (hd : decode cc pc = .ok (.tableswitch dflt lo1 hi offs, len)) (h1 : ¬ x.toInt < lo1) (h2 : ¬ hi < x.toInt) (ho : offs[(x.toInt - lo1).toNat]? = some off) (ht : (pc : Int) + off = (tgt : Int)) (k : X κ nL ω tgt lo st σ) : X κ nL ω pc lo (.int x :: st) σ := by
  intro H locs ls hl hP hD hS
  exact lv_tableIn C.1 C.2.1 hd h1 h2 ho ht (k H locs ls hl hP hD hS)
def mk : List Bool → List (Option Value) → List (Option Value)
  | true :: bs, v :: vs => v :: mk bs vs
  | false :: bs, _ :: vs => none :: mk bs vs
  | _, _ => []
theorem mk_at : ∀ (bs : List Bool) (lo : List (Option Value)) (i : Nat) (v : Value), (mk bs lo)[i]? = some (some v) → lo[i]? = some (some v) := by
  intro bs
  induction bs with
  | nil => intro lo i v h; cases lo <;> simp [mk] at h
  | cons b bs ih =>
    intro lo i v h
    cases lo with
    | nil => cases b <;> simp [mk] at h
    | cons w ws =>
      cases b with
      | true =>
        cases i with
        | zero => simpa [mk] using h
        | succ i => simp only [mk, List.getElem?_cons_succ] at h ⊢; exact ih ws i v h
      | false =>
        cases i with
        | zero => simp [mk] at h
        | succ i => simp only [mk, List.getElem?_cons_succ] at h ⊢; exact ih ws i v h
theorem x_wk (bs : List Bool) {lo' : List (Option Value)} (hb : mk bs lo = lo') (k : X κ nL ω pc lo' st σ) : X κ nL ω pc lo st σ := by
  intro H locs ls hl hP hD hS
  subst hb
  exact k H locs ls ⟨hl.1, hl.2.1, fun i v h => hl.2.2 i v (mk_at bs lo i v h)⟩ hP hD hS
end Rows
end
section
/-! reading and writing the heap by numbers; 'none' where the machine would throw -/
def gV (N : Nat) (σ : Hp) (i ci j : Nat) : Option Value := if i < N then (match σ i with
  | .inr o => if o.1 = ci then o.2[j]? else none
  | .inl _ => none) else none
def asI : Value → Option Int32
  | .int x => some x
  | _ => none
def asR : Value → Option Nat
  | .ref x => some x
  | _ => none
def asQ : Value → Option (Option Nat)
  | .ref x => some (some x)
  | .null => some none
  | _ => none
def gI (N : Nat) (σ : Hp) (i ci j : Nat) : Option Int32 := (gV N σ i ci j).bind asI
def gR (N : Nat) (σ : Hp) (i ci j : Nat) : Option Nat := (gV N σ i ci j).bind asR
def gQ (N : Nat) (σ : Hp) (i ci j : Nat) : Option (Option Nat) := (gV N σ i ci j).bind asQ
def pV (N : Nat) (σ : Hp) (i ci j : Nat) (v : Value) : Option Hp := if i < N then (match σ i with
  | .inr o => if o.1 = ci ∧ j < o.2.length then some (va_up σ i (.inr (ci, o.2.set j v))) else none
  | .inl _ => none) else none
def aI (t N : Nat) (σ : Hp) (i : Nat) (x : Int32) : Option Int32 := if i < N then (match σ i with
  | .inl (c, n, .inl f) => if c = t ∧ ¬ (x < 0 ∨ n ≤ x.toNatClampNeg) then some (f x.toNatClampNeg) else none
  | _ => none) else none
def aJ (N : Nat) (σ : Hp) (i : Nat) (x : Int32) : Option Int64 := if i < N then (match σ i with
  | .inl (c, n, .inr (.inl f)) => if c = 1 ∧ ¬ (x < 0 ∨ n ≤ x.toNatClampNeg) then some (f x.toNatClampNeg) else none
  | _ => none) else none
def aR (t N : Nat) (σ : Hp) (i : Nat) (x : Int32) : Option Nat := if i < N then (match σ i with
  | .inl (c, n, .inr (.inr (.inr (.inr f)))) => if c = t ∧ ¬ (x < 0 ∨ n ≤ x.toNatClampNeg) then f x.toNatClampNeg else none
  | _ => none) else none
def nar (t : Nat) (v : Int32) : Int32 := if t = 2 then vp_nar .byte v else if t = 3 then vp_nar .boolean v else v
def sI (t N : Nat) (σ : Hp) (i : Nat) (x v : Int32) : Option Hp := if i < N then (match σ i with
  | .inl (c, n, .inl f) => if c = t ∧ ¬ (x < 0 ∨ n ≤ x.toNatClampNeg) then some (va_up σ i (.inl (c, n, .inl (upd f x.toNatClampNeg (nar t v))))) else none
  | _ => none) else none
def sJ (N : Nat) (σ : Hp) (i : Nat) (x : Int32) (v : Int64) : Option Hp := if i < N then (match σ i with
  | .inl (c, n, .inr (.inl f)) => if c = 1 ∧ ¬ (x < 0 ∨ n ≤ x.toNatClampNeg) then some (va_up σ i (.inl (c, n, .inr (.inl (vp_updL f x.toNatClampNeg v))))) else none
  | _ => none) else none
def aN (N : Nat) (σ : Hp) (i : Nat) : Option Nat := if i < N then (match σ i with
  | .inl a => if a.1 < 6 then some a.2.1 else none
  | .inr _ => none) else none
theorem ob {α β : Type} {o : Option α} {f : α → Option β} {r : β} (h : o.bind f = some r) : ∃ x, o = some x ∧ f x = some r := by
  cases o with
  | none => cases h
  | some x => exact ⟨x, rfl, h⟩
def lt {α β : Type} (a : α) (f : α → β) : β := f a
theorem lt_e {α β : Type} {a : α} {f : α → β} {r : β} (h : lt a f = r) {x : α} (e : x = a) : f x = r := by subst e; exact h
theorem ifP {α : Type} {c : Prop} {d : Decidable c} {a b r : α} (h : @ite α c d a b = r) (hc : c) : a = r := by rw [if_pos hc] at h; exact h
theorem ifN {α : Type} {c : Prop} {d : Decidable c} {a b r : α} (h : @ite α c d a b = r) (hc : ¬ c) : b = r := by rw [if_neg hc] at h; exact h
theorem gV_spec {N : Nat} {σ : Hp} {i ci j : Nat} {v : Value} (h : gV N σ i ci j = some v) : i < N ∧ ∃ fs, σ i = .inr (ci, fs) ∧ fs[j]? = some v := by
  unfold gV at h
  split at h
  case isFalse => cases h
  case isTrue hi =>
    refine ⟨hi, ?_⟩
    split at h
    case h_2 => cases h
    case h_1 o ho =>
      split at h
      case isFalse => cases h
      case isTrue hc => exact ⟨o.2, by rw [ho, ← hc], h⟩
theorem gI_spec {N : Nat} {σ : Hp} {i ci j : Nat} {x : Int32} (h : gI N σ i ci j = some x) : gV N σ i ci j = some (.int x) := by
  obtain ⟨v, h1, h2⟩ := ob h
  cases v <;> simp [asI] at h2
  rw [h1, h2]
theorem gR_spec {N : Nat} {σ : Hp} {i ci j : Nat} {x : Nat} (h : gR N σ i ci j = some x) : gV N σ i ci j = some (.ref x) := by
  obtain ⟨v, h1, h2⟩ := ob h
  cases v <;> simp [asR] at h2
  rw [h1, h2]
theorem gQ_spec {N : Nat} {σ : Hp} {i ci j : Nat} {x : Option Nat} (h : gQ N σ i ci j = some x) : gV N σ i ci j = some (va_rf x) := by
  obtain ⟨v, h1, h2⟩ := ob h
  cases v <;> simp [asQ] at h2
  · rw [h1, ← h2]; rfl
  · rw [h1, ← h2]; rfl
theorem pV_spec {N : Nat} {σ σ' : Hp} {i ci j : Nat} {v : Value} (h : pV N σ i ci j v = some σ') : i < N ∧ ∃ fs, σ i = .inr (ci, fs) ∧ j < fs.length ∧ σ' = va_up σ i (.inr (ci, fs.set j v)) := by
  unfold pV at h
  split at h
  case isFalse => cases h
  case isTrue hi =>
    refine ⟨hi, ?_⟩
    split at h
    case h_2 => cases h
    case h_1 o ho =>
      split at h
      case isFalse => cases h
      case isTrue hc =>
        cases h
        exact ⟨o.2, by rw [ho, ← hc.1], hc.2, rfl⟩
theorem aI_spec {t N : Nat} {σ : Hp} {i : Nat} {x y : Int32} (h : aI t N σ i x = some y) : i < N ∧ ∃ n f, σ i = .inl (t, n, .inl f) ∧ vp_in x n ∧ y = f x.toNatClampNeg := by
  unfold aI at h
  split at h
  case isFalse => cases h
  case isTrue hi =>
    refine ⟨hi, ?_⟩
    split at h
    case h_2 => cases h
    case h_1 c n f ho =>
      split at h
      case isFalse => cases h
      case isTrue hc =>
        cases h
        exact ⟨n, f, by rw [ho, ← hc.1], hc.2, rfl⟩
theorem aJ_spec {N : Nat} {σ : Hp} {i : Nat} {x : Int32} {y : Int64} (h : aJ N σ i x = some y) : i < N ∧ ∃ n f, σ i = .inl (1, n, .inr (.inl f)) ∧ vp_in x n ∧ y = f x.toNatClampNeg := by
  unfold aJ at h
  split at h
  case isFalse => cases h
  case isTrue hi =>
    refine ⟨hi, ?_⟩
    split at h
    case h_2 => cases h
    case h_1 c n f ho =>
      split at h
      case isFalse => cases h
      case isTrue hc =>
        cases h
        exact ⟨n, f, by rw [ho, ← hc.1], hc.2, rfl⟩
theorem aR_spec {t N : Nat} {σ : Hp} {i : Nat} {x : Int32} {y : Nat} (h : aR t N σ i x = some y) : i < N ∧ ∃ n f, σ i = .inl (t, n, .inr (.inr (.inr (.inr f)))) ∧ vp_in x n ∧ f x.toNatClampNeg = some y := by
  unfold aR at h
  split at h
  case isFalse => cases h
  case isTrue hi =>
    refine ⟨hi, ?_⟩
    split at h
    case h_2 => cases h
    case h_1 c n f ho =>
      split at h
      case isFalse => cases h
      case isTrue hc =>
        exact ⟨n, f, by rw [ho, ← hc.1], hc.2, h⟩
theorem sI_spec {t N : Nat} {σ σ' : Hp} {i : Nat} {x v : Int32} (h : sI t N σ i x v = some σ') : i < N ∧ ∃ n f, σ i = .inl (t, n, .inl f) ∧ vp_in x n ∧ σ' = va_up σ i (.inl (t, n, .inl (upd f x.toNatClampNeg (nar t v)))) := by
  unfold sI at h
  split at h
  case isFalse => cases h
  case isTrue hi =>
    refine ⟨hi, ?_⟩
    split at h
    case h_2 => cases h
    case h_1 c n f ho =>
      split at h
      case isFalse => cases h
      case isTrue hc =>
        cases h
        exact ⟨n, f, by rw [ho, ← hc.1], hc.2, by rw [hc.1]⟩
theorem sJ_spec {N : Nat} {σ σ' : Hp} {i : Nat} {x : Int32} {v : Int64} (h : sJ N σ i x v = some σ') : i < N ∧ ∃ n f, σ i = .inl (1, n, .inr (.inl f)) ∧ vp_in x n ∧ σ' = va_up σ i (.inl (1, n, .inr (.inl (vp_updL f x.toNatClampNeg v)))) := by
  unfold sJ at h
  split at h
  case isFalse => cases h
  case isTrue hi =>
    refine ⟨hi, ?_⟩
    split at h
    case h_2 => cases h
    case h_1 c n f ho =>
      split at h
      case isFalse => cases h
      case isTrue hc =>
        cases h
        exact ⟨n, f, by rw [ho, ← hc.1], hc.2, by rw [hc.1]⟩
theorem aN_spec {N : Nat} {σ : Hp} {i n : Nat} (h : aN N σ i = some n) : i < N ∧ ∃ (c : Nat) (x : (Nat → Int32) ⊕ (Nat → Int64) ⊕ (Nat → UInt32) ⊕ (Nat → UInt64) ⊕ (Nat → Option Nat)), σ i = .inl (c, n, x) ∧ c < 6 := by
  unfold aN at h
  split at h
  case isFalse => cases h
  case isTrue hi =>
    refine ⟨hi, ?_⟩
    split at h
    case h_2 => cases h
    case h_1 a ho =>
      split at h
      case isFalse => cases h
      case isTrue hc => cases h; exact ⟨a.1, a.2.2, ho, hc⟩
/-! links: what the words say of a place of the pool -/
def CI (ci : Nat) (C : String) (T : u_T) (n : Nat) (ty : Nat → FieldType) : Prop := vwCl[ci]? = some (C, T, n) ∧ (∀ w ∈ u_ws C T n, w ∈ TB) ∧ (∀ k, k < n → parseFieldDescriptor (T k).2.2.1 = some (ty k)) ∧ (∀ a, a < n → ∀ b, b < n → a ≠ b → (T a).2.1 ≠ (T b).2.1)
def FL (own : String) (idx ci j : Nat) : Prop := ∃ C T n ty, CI ci C T n ty ∧ j < n ∧ (Cond.fieldLink own idx (T j).1 (T j).2.1 (T j).2.2.1 ∈ TB ∨ ∃ host, Cond.fieldLinkNest own idx (T j).1 (T j).2.1 (T j).2.2.1 host ∈ TB)
def PL (own : String) (idx ci j : Nat) (t : FieldType) : Prop := ∃ C T n ty, CI ci C T n ty ∧ j < n ∧ (Cond.fieldLink own idx (T j).1 (T j).2.1 (T j).2.2.1 ∈ TB ∨ ∃ host, Cond.fieldLinkNest own idx (T j).1 (T j).2.1 (T j).2.2.1 host ∈ TB) ∧ (T j).2.2.2 = false ∧ parseFieldDescriptor (T j).2.2.1 = some t
def PF (own : String) (idx ci j : Nat) (t : FieldType) : Prop := ∃ C T n ty, CI ci C T n ty ∧ j < n ∧ Cond.fieldLink own idx (T j).1 (T j).2.1 (T j).2.2.1 ∈ TB ∧ (T j).2.2.2 = true ∧ (T j).1 = own ∧ parseFieldDescriptor (T j).2.2.1 = some t
theorem cvV_rf (ad : Nat → Nat) (q : Option Nat) : cvV ad (va_rf q) = va_rf (q.map ad) := by cases q <;> rfl
section HeapRows
variable {κ : Kx} {nL lev : Nat} {cc : ByteArray} {own mnm : String} {ω : Om} {pc : Nat} {lo : List (Option Value)} {st : List Value} {σ : Hp}
theorem x_getV (C : Cx κ nL lev cc own mnm) {idx i ci j : Nat} {v : Value} (lk : FL own idx ci j) (hd : decode cc pc = .ok (.getfield idx, 3)) (hg : gV ω.1 σ i ci j = some v) (k : X κ nL ω (pc + 3) lo (v :: st) σ) : X κ nL ω pc lo (.ref i :: st) σ := by
  intro H locs ls hl hP hD hS
  obtain ⟨hi, fs, he, hf⟩ := gV_spec hg
  obtain ⟨Cn, T, n, ty, hci, hj, hlk⟩ := lk
  have hU : ∀ w ∈ TB, w.before κ.args κ.s = true := fun w h => C.2.2.2.2.1 w h _
  have hv : (fs.map (cvV ω.2.1))[j]? = some (cvV ω.2.1 v) := by rw [List.getElem?_map, hf]; rfl
  rcases hlk with h1 | ⟨host, h1⟩
  · exact va_get C.1 C.2.1 hU hci.2.1 C.2.2.2.1 C.2.2.2.2.2.1 hP i (wl_atE hi he) hci.1 j hj (hU _ h1) (fun _ h => h) hv hd (k H locs ls hl hP hD hS)
  · exact va_getN C.1 C.2.1 hU hci.2.1 C.2.2.2.1 C.2.2.2.2.2.1 hP i (wl_atE hi he) hci.1 j hj (hU _ h1) (fun _ h => h) hv hd (k H locs ls hl hP hD hS)
theorem x_getI (C : Cx κ nL lev cc own mnm) {idx i ci j : Nat} {x : Int32} (lk : FL own idx ci j) (hd : decode cc pc = .ok (.getfield idx, 3)) (hg : gI ω.1 σ i ci j = some x) (k : X κ nL ω (pc + 3) lo (.int x :: st) σ) : X κ nL ω pc lo (.ref i :: st) σ := x_getV C lk hd (gI_spec hg) k
theorem x_getR (C : Cx κ nL lev cc own mnm) {idx i ci j x : Nat} (lk : FL own idx ci j) (hd : decode cc pc = .ok (.getfield idx, 3)) (hg : gR ω.1 σ i ci j = some x) (k : X κ nL ω (pc + 3) lo (.ref x :: st) σ) : X κ nL ω pc lo (.ref i :: st) σ := x_getV C lk hd (gR_spec hg) k
theorem x_getQ (C : Cx κ nL lev cc own mnm) {idx i ci j : Nat} {x : Option Nat} (lk : FL own idx ci j) (hd : decode cc pc = .ok (.getfield idx, 3)) (hg : gQ ω.1 σ i ci j = some x) (k : X κ nL ω (pc + 3) lo (va_rf x :: st) σ) : X κ nL ω pc lo (.ref i :: st) σ := x_getV C lk hd (gQ_spec hg) k
theorem x_put (C : Cx κ nL lev cc own mnm) {idx i ci j : Nat} {t : FieldType} {v : Value} {σ' : Hp} (lk : PL own idx ci j t) (hd : decode cc pc = .ok (.putfield idx, 3)) (hn : ∀ ad, narrow t (cvV ad v) = cvV ad v ∧ fits t (cvV ad v) = true) (hg : pV ω.1 σ i ci j v = some σ') (k : X κ nL ω (pc + 3) lo st σ') : X κ nL ω pc lo (v :: .ref i :: st) σ := by
  intro H locs ls hl hP hD hS
  obtain ⟨hi, fs, he, hf, rfl⟩ := pV_spec hg
  obtain ⟨Cn, T, n, ty, hci, hj, hlk, hfin, hpd⟩ := lk
  have hU : ∀ w ∈ TB, w.before κ.args κ.s = true := fun w h => C.2.2.2.2.1 w h _
  have hs : (wl κ.cy ω.1 ω.2.1 σ).set i (ω.2.1 i, .inr (ci, (fs.map (cvV ω.2.1)).set j (cvV ω.2.1 v))) = wl κ.cy ω.1 ω.2.1 (va_up σ i (.inr (ci, fs.set j v))) := by
    rw [← wl_set _ hi]; simp only [cvE, List.map_set]
  rcases hlk with h1 | ⟨host, h1⟩
  · refine va_put C.1 C.2.1 hU hci.2.1 ty hci.2.2.1 hci.2.2.2 C.2.2.2.1 C.2.2.2.2.2.1 hP hD hS i (wl_atE hi he) hci.1 j hj (hU _ h1) (fun _ h => h) hfin hpd (hn _).1 (hn _).2 (by rw [List.length_map]; exact hf) hd (fun H1 locs1 hP hD hS => ?_)
    rw [hs] at hP hD
    exact k H1 locs1 ls hl hP hD hS
  · refine va_putN C.1 C.2.1 hU hci.2.1 ty hci.2.2.1 hci.2.2.2 C.2.2.2.1 C.2.2.2.2.2.1 hP hD hS i (wl_atE hi he) hci.1 j hj (hU _ h1) (fun _ h => h) hfin hpd (hn _).1 (hn _).2 (by rw [List.length_map]; exact hf) hd (fun H1 locs1 hP hD hS => ?_)
    rw [hs] at hP hD
    exact k H1 locs1 ls hl hP hD hS
theorem x_putF (C : Cx κ nL lev cc own "<init>") {idx i ci j : Nat} {t : FieldType} {v : Value} {σ' : Hp} (lk : PF own idx ci j t) (hd : decode cc pc = .ok (.putfield idx, 3)) (hn : ∀ ad, narrow t (cvV ad v) = cvV ad v ∧ fits t (cvV ad v) = true) (hg : pV ω.1 σ i ci j v = some σ') (k : X κ nL ω (pc + 3) lo st σ') : X κ nL ω pc lo (v :: .ref i :: st) σ := by
  intro H locs ls hl hP hD hS
  obtain ⟨hi, fs, he, hf, rfl⟩ := pV_spec hg
  obtain ⟨Cn, T, n, ty, hci, hj, h1, hfin, hdecl, hpd⟩ := lk
  have hU : ∀ w ∈ TB, w.before κ.args κ.s = true := fun w h => C.2.2.2.2.1 w h _
  have hs : (wl κ.cy ω.1 ω.2.1 σ).set i (ω.2.1 i, .inr (ci, (fs.map (cvV ω.2.1)).set j (cvV ω.2.1 v))) = wl κ.cy ω.1 ω.2.1 (va_up σ i (.inr (ci, fs.set j v))) := by
    rw [← wl_set _ hi]; simp only [cvE, List.map_set]
  refine va_putF C.1 C.2.1 hU hci.2.1 ty hci.2.2.1 hci.2.2.2 C.2.2.2.1 C.2.2.2.2.2.1 hP hD hS i (wl_atE hi he) hci.1 j hj (hU _ h1) (fun _ h => h) hfin C.2.2.2.2.2.2.2.2.2 hdecl hpd (hn _).1 (hn _).2 (by rw [List.length_map]; exact hf) hd (fun H1 locs1 hP hD hS => ?_)
  rw [hs] at hP hD
  exact k H1 locs1 ls hl hP hD hS
theorem x_iald (C : Cx κ nL lev cc own mnm) {i : Nat} {x y : Int32} (hd : decode cc pc = .ok (.iaload, 1)) (hg : aI 0 ω.1 σ i x = some y) (k : X κ nL ω (pc + 1) lo (.int y :: st) σ) : X κ nL ω pc lo (.int x :: .ref i :: st) σ := by
  intro H locs ls hl hP hD hS
  obtain ⟨hi, n, f, he, hin, rfl⟩ := aI_spec hg
  exact va_iald C.1 C.2.1 C.2.2.2.2.2.1 hP i 0 (wl_atE hi he) rfl hin hd (k H locs ls hl hP hD hS)
theorem x_bald (C : Cx κ nL lev cc own mnm) {i : Nat} {x y : Int32} (hd : decode cc pc = .ok (.baload, 1)) (hg : aI 2 ω.1 σ i x = some y) (k : X κ nL ω (pc + 1) lo (.int y :: st) σ) : X κ nL ω pc lo (.int x :: .ref i :: st) σ := by
  intro H locs ls hl hP hD hS
  obtain ⟨hi, n, f, he, hin, rfl⟩ := aI_spec hg
  exact va_bald C.1 C.2.1 C.2.2.2.2.2.1 hP i 2 (wl_atE hi he) rfl hin hd (k H locs ls hl hP hD hS)
theorem x_zald (C : Cx κ nL lev cc own mnm) {i : Nat} {x y : Int32} (hd : decode cc pc = .ok (.baload, 1)) (hg : aI 3 ω.1 σ i x = some y) (k : X κ nL ω (pc + 1) lo (.int y :: st) σ) : X κ nL ω pc lo (.int x :: .ref i :: st) σ := by
  intro H locs ls hl hP hD hS
  obtain ⟨hi, n, f, he, hin, rfl⟩ := aI_spec hg
  exact va_zald C.1 C.2.1 C.2.2.2.2.2.1 hP i 3 (wl_atE hi he) rfl hin hd (k H locs ls hl hP hD hS)
theorem x_lald (C : Cx κ nL lev cc own mnm) {i : Nat} {x : Int32} {y : Int64} (hd : decode cc pc = .ok (.laload, 1)) (hg : aJ ω.1 σ i x = some y) (k : X κ nL ω (pc + 1) lo (.long y :: st) σ) : X κ nL ω pc lo (.int x :: .ref i :: st) σ := by
  intro H locs ls hl hP hD hS
  obtain ⟨hi, n, f, he, hin, rfl⟩ := aJ_spec hg
  exact va_lald C.1 C.2.1 C.2.2.2.2.2.1 hP i 1 (wl_atE hi he) rfl hin hd (k H locs ls hl hP hD hS)
theorem x_aald4 (C : Cx κ nL lev cc own mnm) {i : Nat} {x : Int32} {y : Nat} (hd : decode cc pc = .ok (.aaload, 1)) (hg : aR 4 ω.1 σ i x = some y) (k : X κ nL ω (pc + 1) lo (.ref y :: st) σ) : X κ nL ω pc lo (.int x :: .ref i :: st) σ := by
  intro H locs ls hl hP hD hS
  obtain ⟨hi, n, f, he, hin, hy⟩ := aR_spec hg
  refine va_aldq C.1 C.2.1 C.2.2.2.2.2.1 hP i 4 (wl_atE hi he) rfl hin hd ?_
  rw [hy]
  exact k H locs ls hl hP hD hS
theorem x_aald5 (C : Cx κ nL lev cc own mnm) {i : Nat} {x : Int32} {y : Nat} (hd : decode cc pc = .ok (.aaload, 1)) (hg : aR 5 ω.1 σ i x = some y) (k : X κ nL ω (pc + 1) lo (.ref y :: st) σ) : X κ nL ω pc lo (.int x :: .ref i :: st) σ := by
  intro H locs ls hl hP hD hS
  obtain ⟨hi, n, f, he, hin, hy⟩ := aR_spec hg
  refine va_aldq C.1 C.2.1 C.2.2.2.2.2.1 hP i 5 (wl_atE hi he) rfl hin hd ?_
  rw [hy]
  exact k H locs ls hl hP hD hS
theorem x_iast (C : Cx κ nL lev cc own mnm) {i : Nat} {x v : Int32} {σ' : Hp} (hd : decode cc pc = .ok (.iastore, 1)) (hg : sI 0 ω.1 σ i x v = some σ') (k : X κ nL ω (pc + 1) lo st σ') : X κ nL ω pc lo (.int v :: .int x :: .ref i :: st) σ := by
  intro H locs ls hl hP hD hS
  obtain ⟨hi, n, f, he, hin, rfl⟩ := sI_spec hg
  refine va_iast C.1 C.2.1 C.2.2.2.2.2.1 hP hD hS i 0 (wl_atE hi he) rfl hin hd (fun H1 locs1 hP hD hS => ?_)
  have hs := wl_set (cy := κ.cy) (ad := ω.2.1) (σ := σ) (.inl (0, n, .inl (upd f x.toNatClampNeg v))) hi
  simp only [cvE] at hs
  rw [hs] at hP hD
  exact k H1 locs1 ls hl hP hD hS
theorem x_bast (C : Cx κ nL lev cc own mnm) {i : Nat} {x v : Int32} {σ' : Hp} (hd : decode cc pc = .ok (.bastore, 1)) (hg : sI 2 ω.1 σ i x v = some σ') (k : X κ nL ω (pc + 1) lo st σ') : X κ nL ω pc lo (.int v :: .int x :: .ref i :: st) σ := by
  intro H locs ls hl hP hD hS
  obtain ⟨hi, n, f, he, hin, rfl⟩ := sI_spec hg
  refine va_bast C.1 C.2.1 C.2.2.2.2.2.1 hP hD hS i 2 (wl_atE hi he) rfl hin hd (fun H1 locs1 hP hD hS => ?_)
  have hs := wl_set (cy := κ.cy) (ad := ω.2.1) (σ := σ) (.inl (2, n, .inl (upd f x.toNatClampNeg (vp_nar .byte v)))) hi
  simp only [cvE] at hs
  rw [hs] at hP hD
  exact k H1 locs1 ls hl hP hD hS
theorem x_zast (C : Cx κ nL lev cc own mnm) {i : Nat} {x v : Int32} {σ' : Hp} (hd : decode cc pc = .ok (.bastore, 1)) (hg : sI 3 ω.1 σ i x v = some σ') (k : X κ nL ω (pc + 1) lo st σ') : X κ nL ω pc lo (.int v :: .int x :: .ref i :: st) σ := by
  intro H locs ls hl hP hD hS
  obtain ⟨hi, n, f, he, hin, rfl⟩ := sI_spec hg
  refine va_zast C.1 C.2.1 C.2.2.2.2.2.1 hP hD hS i 3 (wl_atE hi he) rfl hin hd (fun H1 locs1 hP hD hS => ?_)
  have hs := wl_set (cy := κ.cy) (ad := ω.2.1) (σ := σ) (.inl (3, n, .inl (upd f x.toNatClampNeg (vp_nar .boolean v)))) hi
  simp only [cvE] at hs
  rw [hs] at hP hD
  exact k H1 locs1 ls hl hP hD hS
theorem x_last (C : Cx κ nL lev cc own mnm) {i : Nat} {x : Int32} {v : Int64} {σ' : Hp} (hd : decode cc pc = .ok (.lastore, 1)) (hg : sJ ω.1 σ i x v = some σ') (k : X κ nL ω (pc + 1) lo st σ') : X κ nL ω pc lo (.long v :: .int x :: .ref i :: st) σ := by
  intro H locs ls hl hP hD hS
  obtain ⟨hi, n, f, he, hin, rfl⟩ := sJ_spec hg
  refine va_last C.1 C.2.1 C.2.2.2.2.2.1 hP hD hS i 1 (wl_atE hi he) rfl hin hd (fun H1 locs1 hP hD hS => ?_)
  have hs := wl_set (cy := κ.cy) (ad := ω.2.1) (σ := σ) (.inl (1, n, .inr (.inl (vp_updL f x.toNatClampNeg v)))) hi
  simp only [cvE] at hs
  rw [hs] at hP hD
  exact k H1 locs1 ls hl hP hD hS
theorem x_alen (C : Cx κ nL lev cc own mnm) {i n : Nat} (hd : decode cc pc = .ok (.arraylength, 1)) (hg : aN ω.1 σ i = some n) (k : X κ nL ω (pc + 1) lo (.int (nI n) :: st) σ) : X κ nL ω pc lo (.ref i :: st) σ := by
  intro H locs ls hl hP hD hS
  obtain ⟨hi, c, x, he, hc⟩ := aN_spec hg
  obtain ⟨ty, hty⟩ : ∃ ty, (tyL κ.cy)[c]? = some (κ.cy c, ty) := by
    rcases (show c = 0 ∨ c = 1 ∨ c = 2 ∨ c = 3 ∨ c = 4 ∨ c = 5 by omega) with rfl | rfl | rfl | rfl | rfl | rfl <;> exact ⟨_, rfl⟩
  have hP' := wl_atE (cy := κ.cy) (ad := ω.2.1) hi he
  obtain f | f | f | f | f := x <;> exact va_alen C.1 C.2.1 C.2.2.2.2.2.1 hP i c hP' hty rfl hd (k H locs ls hl hP hD hS)
end HeapRows
end
section
/-! contracts of methods that make no cells: of every place ad of the cells -/
def rmL (k : Nat) : Room := { frames := k, cells := 0, slots := 0, locals := 40 * k }
/-! the class's own constant rows: cells that nobody writes; by the numbers 1000000, 1000001, 1000002 -/
def stv (k j : Nat) : Int32 := match k with
  | 0 => [1, 3, 7, 11, 17, 49].getD j 0
  | 1 => [10, 11, 12, 11, 13, 14].getD j 0
  | _ => [20, 21, 24, 22, 23, 23].getD j 0
def snm : Nat → String
  | 0 => "IS"
  | 1 => "SIZE_BODY"
  | _ => "MARK_BODY"
def Sx (cy : Nat → Nat) (A : Nat → Prop) (U : State) : Prop := ∀ k, k < 3 → va_Z "PegDiscs" (snm k) "[I" (.ref (cy (10 + k))) A U U.heap ∧ va_T .int (cy (10 + k)) 6 (fun j => .int (stv k j)) A U U.heap
def Sd (cy ad : Nat → Nat) : Prop := ∀ k, k < 3 → ad (1000000 + k) = cy (10 + k)
theorem Sx.call {cy : Nat → Nat} {A A' : Nat → Prop} {s U : State} {H : Heap} {locs : List Loc} (h : Sx cy A s) (hS : va_S A s.heap H locs) (hU : U.heap = H) (hvm : s.vm.Alike U.vm) (hA : ∀ q, A' q → A q) : Sx cy A' U := by
  intro k hk
  obtain ⟨h1, h2⟩ := h k hk
  rw [hU]
  exact ⟨((h1.kept (fun a h1 h2 => hS.2.1 a h1 h2)).moved hvm).narrow hA, ((h2.kept (fun a h1 h2 => hS.2.1 a h1 h2)).moved hvm).narrow hA⟩
def Pr (l : Launch) (D : va_G) (cy : Nat → Nat) (As : List Value) (N : Nat) (ad : Nat → Nat) (σ : Hp) (sz : Nat) : Array Value → State → Prop :=
  va_Pc (As.map (cvV ad)) (fun U => U.heap.size = sz ∧ Uni U ∧ va_K D vwCl (tyL cy) U ∧ va_P D vwCl (wl cy N ad σ) U.heap ∧ va_D (fun _ => True) (wl cy N ad σ) ∧ Sd cy ad ∧ Sx cy (va_A (wl cy N ad σ) sz) U)
def Po (D : va_G) (cy : Nat → Nat) (N : Nat) (ad : Nat → Nat) (σ : Hp) (sz : Nat) (Post : Option Value → Hp → Prop) : Array Value → State → Outcome → State → Prop := fun _ s0 oc t =>
  (∃ (v : Option Value) (σ' : Hp), oc = .returned (v.map (cvV ad)) ∧ Post v σ' ∧ va_P D vwCl (wl cy N ad σ') t.heap) ∧ va_F (va_A (wl cy N ad σ) sz) s0 t
def Ct (l : Launch) (D : va_G) (cy : Nat → Nat) (y : MethodName) (cc : ByteArray) (nL : Nat) (ret : Option FieldType) (lev : Nat) (As : List Value) (N : Nat) (σ : Hp) (Post : Option Value → Hp → Prop) : Prop :=
  ∀ (ad : Nat → Nat) (sz : Nat), Met l y [Cond.code y cc nL ret] (rmL lev) (Pr l D cy As N ad σ sz) (Po D cy N ad σ sz Post) 0 0 (va_A (wl cy N ad σ) sz)
/-- the room that is taken is within the room -/
def Zx (κ : Kx) (ω : Om) : Prop := (ω.2.2.1 ≤ κ.R.cells ∧ ω.2.2.2 ≤ κ.R.slots) ∧ Sd κ.cy ω.2.1 ∧ Sx κ.cy κ.A κ.s
/-- the end of a body: what is owed there -/
def Rt (κ : Kx) (ω : Om) (ret : Option FieldType) (Post : Option Value → Hp → Prop) : Prop :=
  κ.meth.sig.returnType = ret ∧ ∀ (H : Heap) (locs : List Loc) (v : Option Value) (σ : Hp), va_P κ.D vwCl (wl κ.cy ω.1 ω.2.1 σ) H → va_S κ.A κ.s.heap H locs → Post v σ →
    ∃ (Qc : Array Value → State → Outcome → State → Prop) (free : Addr → Prop), κ.Q = MQ κ.below Qc κ.args κ.s ω.2.2.1 ω.2.2.2 free ∧ (∀ t : State, t.heap = H → κ.s.WarmedH t.vm → Qc κ.args κ.s (.returned (v.map (cvV ω.2.1))) t) ∧ ∀ q ∈ locs, free q.base
def loE : List Value → List (Option Value)
  | [] => []
  | v :: vs => if v.category = 2 then some v :: none :: loE vs else some v :: loE vs
theorem loE_mem (ad : Nat → Nat) : ∀ (vs : List Value) (b i : Nat) (v : Value), (loE vs)[i]? = some (some v) → (b + i, cvV ad v) ∈ lv_args b (vs.map (cvV ad)) := by
  intro vs
  induction vs with
  | nil => intro b i v h; simp [loE] at h
  | cons w ws ih =>
    intro b i v h
    simp only [List.map_cons, lv_args, cvV_cat]
    unfold loE at h
    split at h
    case isTrue hc =>
      rw [if_pos hc]
      match i, h with
      | 0, h => simp at h; rw [h]; exact List.mem_cons_self
      | 1, h => simp at h
      | k + 2, h =>
        have := ih (b + 2) k v (by simpa using h)
        exact List.mem_cons_of_mem _ (by rw [show b + (k + 2) = b + 2 + k by omega]; exact this)
    case isFalse hc =>
      rw [if_neg hc]
      match i, h with
      | 0, h => simp at h; rw [h]; exact List.mem_cons_self
      | k + 1, h =>
        have := ih (b + 1) k v (by simpa using h)
        exact List.mem_cons_of_mem _ (by rw [show b + (k + 1) = b + 1 + k by omega]; exact this)
theorem loE_len (vs : List Value) (ad : Nat → Nat) : (lg_sl (vs.map (cvV ad))).length = (loE vs).length := by
  induction vs with
  | nil => rfl
  | cons w ws ih =>
    simp only [lg_sl, List.map_cons, List.flatMap_cons, List.length_append, cvV_cat] at ih ⊢
    unfold loE
    split <;> simp [ih] <;> omega
theorem Ct.intro {l : Launch} {D : va_G} {cy : Nat → Nat} {y : MethodName} {cc : ByteArray} {nL : Nat} {ret : Option FieldType} {lev : Nat} {As : List Value} {N : Nat} {σ : Hp} {Post : Option Value → Hp → Prop}
    (lo : List (Option Value)) (hy : plainName y.cls = true) (hlo : loE As ++ List.replicate (nL - (loE As).length) none = lo) (hln : (loE As).length ≤ nL)
    (body : ∀ (κ : Kx) (ω : Om), κ.l = l → κ.D = D → κ.cy = cy → ω.1 = N → Cx κ nL lev cc y.cls y.name → Zx κ ω → Rt κ ω ret Post → X κ nL ω 0 lo [] σ) : Ct l D cy y cc nL ret lev As N σ Post := by
  intro ad sz
  refine Met.ofW (cc := cc) (maxL := nL) (ret := ret) hy rfl ?_
  intro p e s m args below meth c s₁ B hml hv
  obtain ⟨rfl, hsz, hU, hK, hP, hD0, hSd, hSx⟩ := hv
  subst hsz
  have hD := hD0.self (sz := s.heap.size)
  have hl := lv_entry (As.map (cvV ad)) (n := nL) (by rw [loE_len]; exact hln)
  rw [lg_entry_eq]
  have hlh : lh ((lg_sl (As.map (cvV ad)) ++ List.replicate (nL - (lg_sl (As.map (cvV ad))).length) Slot.unset).toArray) nL ad lo := by
    refine ⟨hl.1, hl.2.1, fun i v hi => ?_⟩
    rw [← hlo] at hi
    have h2 : (loE As)[i]? = some (some v) := by
      rcases Nat.lt_or_ge i (loE As).length with h | h
      · rwa [List.getElem?_append_left h] at hi
      · rw [List.getElem?_append_right h] at hi
        have := List.mem_of_getElem? hi
        rw [List.mem_replicate] at this
        cases this.2
    have := loE_mem ad As 0 i v h2
    rw [Nat.zero_add] at this
    exact hl.2.2 _ this
  refine body (p, l, e, (headSpec [Cond.code y cc nL ret] (rmL lev)).room, s, m, (As.map (cvV ad)).toArray, below, meth, c, va_A (wl cy N ad σ) s.heap.size, D, cy, MQ below (Po D cy N ad σ s.heap.size Post) (As.map (cvV ad)).toArray s 0 0 (va_A (wl cy N ad σ) s.heap.size)) (N, ad, 0, 0) rfl rfl rfl rfl ?_ ⟨⟨Nat.zero_le _, Nat.zero_le _⟩, hSd, hSx⟩ ?_ s.heap [] _ hlh hP hD va_S.rf
  · exact ⟨B.exec, B.bytes, hml, findClass_of_methodNamed B.named, hU, hK, B.notSynchronized, fun q h => Or.inr h, ⟨Nat.le_refl _, Nat.le_refl _⟩, (name_of_methodNamed B.named B.method).1⟩
  · refine ⟨B.returns, fun H locs v σ' hP' hS' hp => ⟨_, _, rfl, fun t ht hW => ⟨⟨v, σ', rfl, hp, by rw [ht]; exact hP'⟩, hS'.F ht⟩, hS'.2.2⟩⟩
section Ends
variable {κ : Kx} {nL lev : Nat} {cc : ByteArray} {own mnm : String} {ω : Om} {pc : Nat} {lo : List (Option Value)} {σ : Hp} {Post : Option Value → Hp → Prop}
theorem x_iret (C : Cx κ nL lev cc own mnm) (E : Rt κ ω (some .int) Post) {v : Int32} (hd : decode cc pc = .ok (.ireturn, 1)) (hp : Post (some (.int v)) σ) : X κ nL ω pc lo [.int v] σ := by
  intro H locs ls hl hP hD hS
  obtain ⟨Qc, free, hQ, h1, h2⟩ := E.2 H locs _ σ hP hS hp
  rw [hQ]
  exact W.iret C.1 C.2.1 E.1 h1 h2 hd C.2.2.2.2.2.2.1
theorem x_zret (C : Cx κ nL lev cc own mnm) (E : Rt κ ω (some .boolean) Post) {v : Int32} (hn : narrow .boolean (.int v) = .int v) (hd : decode cc pc = .ok (.ireturn, 1)) (hp : Post (some (.int v)) σ) : X κ nL ω pc lo [.int v] σ := by
  intro H locs ls hl hP hD hS
  obtain ⟨Qc, free, hQ, h1, h2⟩ := E.2 H locs _ σ hP hS hp
  rw [hQ]
  exact W.zret C.1 C.2.1 E.1 hn h1 h2 hd C.2.2.2.2.2.2.1
theorem x_lret (C : Cx κ nL lev cc own mnm) (E : Rt κ ω (some .long) Post) {v : Int64} (hd : decode cc pc = .ok (.lreturn, 1)) (hp : Post (some (.long v)) σ) : X κ nL ω pc lo [.long v] σ := by
  intro H locs ls hl hP hD hS
  obtain ⟨Qc, free, hQ, h1, h2⟩ := E.2 H locs _ σ hP hS hp
  rw [hQ]
  exact W.lret C.1 C.2.1 E.1 h1 h2 hd C.2.2.2.2.2.2.1
theorem x_vret (C : Cx κ nL lev cc own mnm) (E : Rt κ ω none Post) (hd : decode cc pc = .ok (.return_, 1)) (hp : Post none σ) : X κ nL ω pc lo [] σ := by
  intro H locs ls hl hP hD hS
  obtain ⟨Qc, free, hQ, h1, h2⟩ := E.2 H locs _ σ hP hS hp
  rw [hQ]
  exact W.vret C.1 C.2.1 E.1 h1 h2 hd C.2.2.2.2.2.2.1
theorem x_aretQ (C : Cx κ nL lev cc own mnm) {cn : String} (E : Rt κ ω (some (.object cn)) Post) {q : Option Nat} (hd : decode cc pc = .ok (.areturn, 1)) (hp : Post (some (va_rf q)) σ) : X κ nL ω pc lo [va_rf q] σ := by
  intro H locs ls hl hP hD hS
  obtain ⟨Qc, free, hQ, h1, h2⟩ := E.2 H locs _ σ hP hS hp
  rw [hQ]
  exact W.aret C.1 C.2.1 E.1 (Or.inl ⟨_, rfl⟩) (by cases q with | none => exact Or.inl rfl | some r => exact Or.inr ⟨_, rfl⟩) h1 h2 hd C.2.2.2.2.2.2.1
end Ends
/-! calls -/
theorem Pr.blind {l : Launch} {D : va_G} {cy : Nat → Nat} {As : List Value} {N : Nat} {ad : Nat → Nat} {σ : Hp} {sz : Nat} : FrameBlind (Pr l D cy As N ad σ sz) := by
  intro a U g mk h
  obtain ⟨h1, h2, h3, h4, h5, h6, h7, h8⟩ := h
  exact ⟨h1, h2, h3.warm (show U.WarmedH (U.calling g mk a).vm from State.WarmedH.refl U), va_K.moved (u := U) (U := U.calling g mk a) (Vm.Alike.refl U.vm) h4, h5, h6, h7, fun k hk => ⟨(h8 k hk).1.moved (u := U) (U := U.calling g mk a) (Vm.Alike.refl U.vm), (h8 k hk).2.moved (u := U) (U := U.calling g mk a) (Vm.Alike.refl U.vm)⟩⟩
/-- a method that is called: its words -/
def MW (y : MethodName) (cc : ByteArray) (nL : Nat) (ret : Option FieldType) (n : Nat) : Prop := Cond.code y cc nL ret ∈ TB ∧ Cond.initialized y.cls ∈ TB ∧ (y.cls ≠ "java/lang/invoke/MethodHandle" ∧ y.cls ≠ "java/lang/invoke/VarHandle" ∧ (parseMethodDescriptor y.desc).map (fun d => d.parameters.length) = some n) ∧ nL ≤ 20
def MV (ci : Nat) (y : MethodName) (cc : ByteArray) (nL : Nat) (ret : Option FieldType) (n : Nat) : Prop := MW y cc nL ret n ∧ Cond.instanceMethod y ∈ TB ∧ Cond.selects y.cls y y ∈ TB ∧ ∃ T k, vwCl[ci]? = some (y.cls, T, k)
def MS (y : MethodName) (cc : ByteArray) (nL : Nat) (ret : Option FieldType) (n : Nat) : Prop := MW y cc nL ret n ∧ Cond.static y ∈ TB
/-- the link of a place of the pool to a method -/
def LK (own : String) (idx : Nat) (y : MethodName) : Prop := Cond.methodLink own idx y ∈ TB ∨ ∃ host, Cond.methodLinkNest own idx y host ∈ TB
theorem wl_F {cy : Nat → Nat} {N : Nat} {ad : Nat → Nat} {σ : Hp} {A : Nat → Prop} {H0 H : Heap} {locs : List Loc} (hD : va_D A (wl cy N ad σ)) (hS : va_S A H0 H locs) (hA : ∀ q, H0.size ≤ q → A q) : ∀ q, va_A (wl cy N ad σ) H.size q → A q := by
  intro q h
  rcases h with ⟨i, e, h⟩ | h
  · exact hD.2 i _ h
  · exact hA q (Nat.le_trans hS.1 h)
/-- how a call's run goes on, the callee having made no cells -/
theorem x_after {κ : Kx} {nL : Nat} {ω : Om} {pc : Nat} {lo : List (Option Value)} {rest st : List Value} {σ : Hp} {Post : Option Value → Hp → Prop} {H : Heap} {locs : List Loc} {ls : Array Slot} {as : Array Value} {Qa : State → Outcome → State → Prop}
    (hr : va_Run κ.p κ.l κ.e κ.R κ.s κ.m κ.args κ.below κ.meth κ.c H locs ω.2.2.1 ω.2.2.2 0 0 (F0 κ.m pc ls (st.map (cvV ω.2.1))) (rest.map (cvV ω.2.1)) (Po κ.D κ.cy ω.1 ω.2.1 σ H.size Post as) (va_A (wl κ.cy ω.1 ω.2.1 σ) H.size))
    (hl : lh ls nL ω.2.1 lo) (hP : va_P κ.D vwCl (wl κ.cy ω.1 ω.2.1 σ) H) (hD : va_D κ.A (wl κ.cy ω.1 ω.2.1 σ)) (hS : va_S κ.A κ.s.heap H locs) (hA : ∀ q, κ.s.heap.size ≤ q → κ.A q)
    (k : ∀ (v : Option Value) (σ' : Hp), Post v σ' → X κ nL ω (pc + 3) lo (v.toList ++ rest) σ') :
    W κ.p κ.l κ.e κ.R κ.s κ.m κ.args κ.below κ.meth κ.c H locs ω.2.2.1 ω.2.2.2 κ.Q (F0 κ.m pc ls (st.map (cvV ω.2.1))) := by
  have hF : ∀ q, va_A (wl κ.cy ω.1 ω.2.1 σ) H.size q → κ.A q := by
    intro q h
    rcases h with ⟨i, e, h⟩ | h
    · exact hD.2 i _ h
    · exact hA q (Nat.le_trans hS.1 h)
  intro T hT X0
  obtain ⟨v, st₀, t, T', L, h0, X', hL, e1, e2, ⟨⟨v', σ', hv, hp, hP'⟩, hz, hk⟩, stp⟩ := hr T hT X0
  cases hv
  rw [h0] at hz hk
  have hS' : va_S κ.A κ.s.heap T'.heap (locs ++ L) := ⟨Nat.le_trans hS.1 (by rw [e1]; exact hz), fun q h1 h2 => by rw [e1, hk q (Nat.lt_of_lt_of_le h1 hS.1) (fun z => h2 (hF q z))]; exact hS.2.1 q h1 h2, fun q hq => by
    rcases List.mem_append.mp hq with h | h
    · exact hS.2.2 q h
    · exact hF _ (hL q h)⟩
  obtain ⟨t2, a1, b1⟩ := k v' σ' hp T'.heap (locs ++ L) ls hl (by rw [e1]; exact hP') (wl_D hD) hS' T' rfl X'
  refine ⟨t2, stp t2 ?_, b1⟩
  have e3 : (v'.toList ++ rest).map (cvV ω.2.1) = (v'.map (cvV ω.2.1)).toList ++ rest.map (cvV ω.2.1) := by cases v' <;> simp
  rw [e3] at a1
  exact a1
theorem cats (ad : Nat → Nat) (st : List Value) : ((st.map (cvV ad)).map fun v => v.category).sum = (st.map fun v => v.category).sum := by
  rw [List.map_map]; congr 1; apply List.map_congr_left; intro v _; exact cvV_cat ad v
section Calls
variable {κ : Kx} {nL lev : Nat} {cc : ByteArray} {own mnm : String} {ω : Om} {pc : Nat} {lo : List (Option Value)} {σ : Hp} {Post : Option Value → Hp → Prop}
theorem x_callV (C : Cx κ nL lev cc own mnm) {y : MethodName} {cc' : ByteArray} {nL' : Nat} {ret : Option FieldType} {lev' n idx ci b : Nat} {As rest st : List Value} (mv : MV ci y cc' nL' ret n) (lk : LK own idx y) (hM : Ct κ.l κ.D κ.cy y cc' nL' ret lev' (.ref b :: As) ω.1 σ Post) (hlev : lev' < lev) (hn : As.length = n) (hst : As.reverse ++ .ref b :: rest = st) (hrest : (rest.map fun v => v.category).sum ≤ 8)
    (hb : ∃ fs, b < ω.1 ∧ σ b = .inr (ci, fs)) (hd : decode cc pc = .ok (.invokevirtual idx, 3)) (hcs : Zx κ ω) (k : ∀ (v : Option Value) (σ' : Hp), Post v σ' → X κ nL ω (pc + 3) lo (v.toList ++ rest) σ') : X κ nL ω pc lo st σ := by
  intro H locs ls hl hP hD hS
  have hU : ∀ w ∈ TB, w.before κ.args κ.s = true := fun w h => C.2.2.2.2.1 w h _
  obtain ⟨⟨hcode, hini, ⟨hy1, hy2, hy3⟩, hnl⟩, hinst, hsel, T, kc, hcl⟩ := mv
  have hG : GoodIn TB [Cond.code y cc' nL' ret] := fun w hw => by
    rw [List.mem_singleton.mp hw]; exact ⟨hcode, good_of_word (by first | rfl | exact (List.mem_filter.mp hcode).2)⟩
  have hR : (rmL lev').frames + 1 ≤ κ.R.frames ∧ 8 + (nL' + 11) + (rmL lev').locals ≤ κ.R.locals := by
    obtain ⟨h1, h2⟩ := C.2.2.2.2.2.2.2.2.1
    constructor
    · show lev' + 1 ≤ _; omega
    · show 8 + (nL' + 11) + 40 * lev' ≤ _; omega
  obtain ⟨fs, hbN, hbe⟩ := hb
  have hrecv := va_recv C.2.2.2.2.2.1 hP hcl (wl_atE hbN hbe)
  have hPre : ∀ U : State, U.heap = H → κ.s.WarmedH U.vm → Pr κ.l κ.D κ.cy (.ref b :: As) ω.1 ω.2.1 σ H.size (Value.ref (ω.2.1 b) :: As.map (cvV ω.2.1)).toArray U := fun U hUH hW => ⟨rfl, by rw [hUH], C.2.2.2.2.1.warm hW, va_K.moved hW.alike C.2.2.2.2.2.1, by rw [hUH]; exact hP, hD.weaken (fun _ _ _ _ => trivial), hcs.2.1, hcs.2.2.call hS hUH hW.alike (wl_F hD hS C.2.2.2.2.2.2.2.1)⟩
  have hstk : st.map (cvV ω.2.1) = (As.map (cvV ω.2.1)).reverse ++ Value.ref (ω.2.1 b) :: rest.map (cvV ω.2.1) := by rw [← hst]; simp [cvV]
  have hW : 2 * (F0 κ.m pc ls (st.map (cvV ω.2.1))).monitorRoom + ((rest.map (cvV ω.2.1)).map fun v => v.category).sum ≤ 8 := by
    rw [cats]; exact lv_room hrest
  rcases lk with h1 | ⟨host, h1⟩
  · exact x_after (va_runV ⟨C.1, C.2.1, C.2.2.1, C.2.2.2.1, hU⟩ (hM ω.2.1 H.size) ⟨callB_of n hU hG rfl rfl rfl (hU _ hini) (hU _ h1) ⟨hy1, hy2, hy3⟩ hR, hU _ hinst, hU _ hsel⟩ ⟨Pr.blind, hrecv, hPre⟩ rfl (by rw [List.length_map]; exact hn) hl.1 hstk hW hd (by simpa using hcs.1)) (Qa := fun _ _ _ => True) hl hP hD hS C.2.2.2.2.2.2.2.1 k
  · exact x_after (va_runVN ⟨C.1, C.2.1, C.2.2.1, C.2.2.2.1, hU⟩ (hM ω.2.1 H.size) ⟨va_cnB n hU hG rfl rfl rfl (va_Nw.of rfl (hU _ h1)) (hU _ hini) ⟨hy1, hy2, hy3⟩ hR, hU _ hinst, hU _ hsel⟩ ⟨Pr.blind, hrecv, hPre⟩ rfl (by rw [List.length_map]; exact hn) hl.1 hstk hW hd (by simpa using hcs.1)) (Qa := fun _ _ _ => True) hl hP hD hS C.2.2.2.2.2.2.2.1 k
theorem x_callS (C : Cx κ nL lev cc own mnm) {y : MethodName} {cc' : ByteArray} {nL' : Nat} {ret : Option FieldType} {lev' n idx : Nat} {As rest st : List Value} (mv : MS y cc' nL' ret n) (lk : LK own idx y) (hM : Ct κ.l κ.D κ.cy y cc' nL' ret lev' As ω.1 σ Post) (hlev : lev' < lev) (hn : As.length = n) (hst : As.reverse ++ rest = st) (hrest : (rest.map fun v => v.category).sum ≤ 8)
    (hd : decode cc pc = .ok (.invokestatic idx, 3)) (hcs : Zx κ ω) (k : ∀ (v : Option Value) (σ' : Hp), Post v σ' → X κ nL ω (pc + 3) lo (v.toList ++ rest) σ') : X κ nL ω pc lo st σ := by
  intro H locs ls hl hP hD hS
  have hU : ∀ w ∈ TB, w.before κ.args κ.s = true := fun w h => C.2.2.2.2.1 w h _
  obtain ⟨⟨hcode, hini, ⟨hy1, hy2, hy3⟩, hnl⟩, hstat⟩ := mv
  have hG : GoodIn TB [Cond.code y cc' nL' ret] := fun w hw => by
    rw [List.mem_singleton.mp hw]; exact ⟨hcode, good_of_word (by first | rfl | exact (List.mem_filter.mp hcode).2)⟩
  have hR : (rmL lev').frames + 1 ≤ κ.R.frames ∧ 8 + (nL' + 11) + (rmL lev').locals ≤ κ.R.locals := by
    obtain ⟨h1, h2⟩ := C.2.2.2.2.2.2.2.2.1
    constructor
    · show lev' + 1 ≤ _; omega
    · show 8 + (nL' + 11) + 40 * lev' ≤ _; omega
  have hPre : ∀ U : State, U.heap = H → κ.s.WarmedH U.vm → Pr κ.l κ.D κ.cy As ω.1 ω.2.1 σ H.size (As.map (cvV ω.2.1)).toArray U := fun U hUH hW => ⟨rfl, by rw [hUH], C.2.2.2.2.1.warm hW, va_K.moved hW.alike C.2.2.2.2.2.1, by rw [hUH]; exact hP, hD.weaken (fun _ _ _ _ => trivial), hcs.2.1, hcs.2.2.call hS hUH hW.alike (wl_F hD hS C.2.2.2.2.2.2.2.1)⟩
  have hstk : st.map (cvV ω.2.1) = (As.map (cvV ω.2.1)).reverse ++ rest.map (cvV ω.2.1) := by rw [← hst]; simp
  have hW : 2 * (F0 κ.m pc ls (st.map (cvV ω.2.1))).monitorRoom + ((rest.map (cvV ω.2.1)).map fun v => v.category).sum ≤ 8 := by
    rw [cats]; exact lv_room hrest
  rcases lk with h1 | ⟨host, h1⟩
  · exact x_after (va_runS ⟨C.1, C.2.1, C.2.2.1, C.2.2.2.1, hU⟩ (hM ω.2.1 H.size) ⟨callB_of n hU hG rfl rfl rfl (hU _ hini) (hU _ h1) ⟨hy1, hy2, hy3⟩ hR, hU _ hstat⟩ ⟨Pr.blind, hPre⟩ rfl (by rw [List.length_map]; exact hn) hl.1 hstk hW hd (by simpa using hcs.1)) (Qa := fun _ _ _ => True) hl hP hD hS C.2.2.2.2.2.2.2.1 k
  · exact x_after (va_runSN ⟨C.1, C.2.1, C.2.2.1, C.2.2.2.1, hU⟩ (hM ω.2.1 H.size) ⟨va_cnB n hU hG rfl rfl rfl (va_Nw.of rfl (hU _ h1)) (hU _ hini) ⟨hy1, hy2, hy3⟩ hR, hU _ hstat, trivial⟩ ⟨Pr.blind, hPre⟩ rfl (by rw [List.length_map]; exact hn) hl.1 hstk hW hd (by simpa using hcs.1)) (Qa := fun _ _ _ => True) hl hP hD hS C.2.2.2.2.2.2.2.1 k
theorem x_callVr (C : Cx κ nL lev cc own mnm) (Z : Zx κ ω) {y : MethodName} {cc' : ByteArray} {nL' : Nat} {ret : Option FieldType} {lev' n idx ci b : Nat} {As rest st : List Value} {V : Value} {S : Hp} (mv : MV ci y cc' nL' ret n) (lk : LK own idx y) (hb : ∃ fs, b < ω.1 ∧ σ b = .inr (ci, fs)) (hM : Ct κ.l κ.D κ.cy y cc' nL' ret lev' (.ref b :: As) ω.1 σ (fun v s' => v = some V ∧ s' = S)) (hlev : lev' < lev) (hn : As.length = n) (hst : As.reverse ++ .ref b :: rest = st) (hrest : (rest.map fun v => v.category).sum ≤ 8)
    (hd : decode cc pc = .ok (.invokevirtual idx, 3)) (k : X κ nL ω (pc + 3) lo (V :: rest) S) : X κ nL ω pc lo st σ :=
  x_callV C mv lk hM hlev hn hst hrest hb hd Z (fun v σ' hp => by obtain ⟨rfl, rfl⟩ := hp; exact k)
theorem x_callVn (C : Cx κ nL lev cc own mnm) (Z : Zx κ ω) {y : MethodName} {cc' : ByteArray} {nL' : Nat} {ret : Option FieldType} {lev' n idx ci b : Nat} {As rest st : List Value} {S : Hp} (mv : MV ci y cc' nL' ret n) (lk : LK own idx y) (hb : ∃ fs, b < ω.1 ∧ σ b = .inr (ci, fs)) (hM : Ct κ.l κ.D κ.cy y cc' nL' ret lev' (.ref b :: As) ω.1 σ (fun v s' => v = none ∧ s' = S)) (hlev : lev' < lev) (hn : As.length = n) (hst : As.reverse ++ .ref b :: rest = st) (hrest : (rest.map fun v => v.category).sum ≤ 8)
    (hd : decode cc pc = .ok (.invokevirtual idx, 3)) (k : X κ nL ω (pc + 3) lo rest S) : X κ nL ω pc lo st σ :=
  x_callV C mv lk hM hlev hn hst hrest hb hd Z (fun v σ' hp => by obtain ⟨rfl, rfl⟩ := hp; exact k)
theorem x_callSr (C : Cx κ nL lev cc own mnm) (Z : Zx κ ω) {y : MethodName} {cc' : ByteArray} {nL' : Nat} {ret : Option FieldType} {lev' n idx : Nat} {As rest st : List Value} {V : Value} {S : Hp} (mv : MS y cc' nL' ret n) (lk : LK own idx y) (hM : Ct κ.l κ.D κ.cy y cc' nL' ret lev' As ω.1 σ (fun v s' => v = some V ∧ s' = S)) (hlev : lev' < lev) (hn : As.length = n) (hst : As.reverse ++ rest = st) (hrest : (rest.map fun v => v.category).sum ≤ 8)
    (hd : decode cc pc = .ok (.invokestatic idx, 3)) (k : X κ nL ω (pc + 3) lo (V :: rest) S) : X κ nL ω pc lo st σ :=
  x_callS C mv lk hM hlev hn hst hrest hd Z (fun v σ' hp => by obtain ⟨rfl, rfl⟩ := hp; exact k)
theorem x_callSn (C : Cx κ nL lev cc own mnm) (Z : Zx κ ω) {y : MethodName} {cc' : ByteArray} {nL' : Nat} {ret : Option FieldType} {lev' n idx : Nat} {As rest st : List Value} {S : Hp} (mv : MS y cc' nL' ret n) (lk : LK own idx y) (hM : Ct κ.l κ.D κ.cy y cc' nL' ret lev' As ω.1 σ (fun v s' => v = none ∧ s' = S)) (hlev : lev' < lev) (hn : As.length = n) (hst : As.reverse ++ rest = st) (hrest : (rest.map fun v => v.category).sum ≤ 8)
    (hd : decode cc pc = .ok (.invokestatic idx, 3)) (k : X κ nL ω (pc + 3) lo rest S) : X κ nL ω pc lo st σ :=
  x_callS C mv lk hM hlev hn hst hrest hd Z (fun v σ' hp => by obtain ⟨rfl, rfl⟩ := hp; exact k)
end Calls
/-! words of the mirrors -/
def rv (N : Nat) (σ : Hp) (i ci : Nat) : Option Unit := if i < N then (match σ i with
  | .inr o => if o.1 = ci then some () else none
  | .inl _ => none) else none
theorem rv_spec {N : Nat} {σ : Hp} {i ci : Nat} {u : Unit} (h : rv N σ i ci = some u) : ∃ fs, i < N ∧ σ i = .inr (ci, fs) := by
  unfold rv at h
  split at h
  case isFalse => cases h
  case isTrue hi =>
    split at h
    case h_2 => cases h
    case h_1 o ho =>
      split at h
      case isFalse => cases h
      case isTrue hc => exact ⟨o.2, hi, by rw [ho, ← hc]⟩
theorem rv_h {N : Nat} {σ : Hp} {i ci : Nat} {β : Type} {g : Unit → Option β} {r : β} (h : (rv N σ i ci).bind g = some r) : ∃ fs, i < N ∧ σ i = .inr (ci, fs) := by
  obtain ⟨u, h1, _⟩ := ob h
  exact rv_spec h1
def nz (x : Int32) : Option Unit := if x = 0 then none else some ()
theorem nz_ne {x : Int32} {u : Unit} (h : nz x = some u) : ¬ x = 0 := fun e => by rw [nz, if_pos e] at h; cases h
def nzJ (x : Int64) : Option Unit := if x = 0 then none else some ()
theorem nzJ_ne {x : Int64} {u : Unit} (h : nzJ x = some u) : ¬ x = 0 := fun e => by rw [nzJ, if_pos e] at h; cases h
/-- a boolean that is answered is 0 or 1 -/
def zb (x : Int32) : Option Unit := if x = 0 ∨ x = 1 then some () else none
theorem zb_n {x : Int32} {u : Unit} (h : zb x = some u) : narrow .boolean (.int x) = .int x := by
  unfold zb at h
  split at h
  case isFalse => cases h
  case isTrue hc => rcases hc with rfl | rfl <;> decide +kernel
def cQ {β : Type} (q : Option Nat) (a : β) (f : Nat → β) : β := match q with
  | none => a
  | some r => f r
theorem cQ_n {β : Type} {a r : β} {f : Nat → β} (h : cQ none a f = r) : a = r := h
theorem cQ_s {β : Type} {a r : β} {f : Nat → β} {x : Nat} (h : cQ (some x) a f = r) : f x = r := h
def cS {α β γ : Type} (z : α ⊕ β) (f : α → γ) (g : β → γ) : γ := match z with
  | .inl a => f a
  | .inr b => g b
theorem cS_l {α β γ : Type} {f : α → γ} {g : β → γ} {u : α} {r : γ} (h : cS (.inl u) f g = r) : f u = r := h
theorem cS_r {α β γ : Type} {f : α → γ} {g : β → γ} {u : β} {r : γ} (h : cS (.inr u) f g = r) : g u = r := h
theorem esc {α β : Type} {t : β} {z : α ⊕ β} {R : β} {f : α → Option β} (h : some (Sum.inr t) = some z) (hO : cS z f (fun x => some x) = some R) : some t = some R := by
  obtain rfl := Option.some.inj h
  exact hO
theorem escM {α β : Type} {o : Option β} {z : α ⊕ β} {R : β} {f : α → Option β} (h : Option.map Sum.inr o = some z) (hO : cS z f (fun x => some x) = some R) : o = some R := by
  cases o with
  | none => cases h
  | some t => exact esc h hO
def fu : Nat := 20000
end
section
/-! constant rows of the class -/
def sA (k : Nat) (x : Int32) : Option Int32 := if ¬ (x < 0 ∨ 6 ≤ x.toNatClampNeg) then some (stv k x.toNatClampNeg) else none
theorem sA_spec {k : Nat} {x y : Int32} (h : sA k x = some y) : vp_in x 6 ∧ y = stv k x.toNatClampNeg := by
  unfold sA at h
  split at h
  case isFalse => cases h
  case isTrue hc => cases h; exact ⟨hc, rfl⟩
section Stat
variable {κ : Kx} {nL lev : Nat} {cc : ByteArray} {own mnm : String} {ω : Om} {pc : Nat} {lo : List (Option Value)} {st : List Value} {σ : Hp}
theorem x_gets (C : Cx κ nL lev cc own mnm) (Z : Zx κ ω) {idx k : Nat} (hk : k < 3) (hw : Cond.fieldLink own idx "PegDiscs" (snm k) "[I" ∈ TB) (hd : decode cc pc = .ok (.getstatic idx, 3)) (kk : X κ nL ω (pc + 3) lo (.ref (1000000 + k) :: st) σ) : X κ nL ω pc lo st σ := by
  intro H locs ls hl hP hD hS
  refine va_gets C.1 C.2.1 (Z.2.2 k hk).1 hS C.2.2.2.1 (C.2.2.2.2.1 _ hw _) (fun _ h => h) hd ?_
  have h1 := kk H locs ls hl hP hD hS
  simp only [List.map_cons, cvV, Z.2.1 k hk] at h1
  exact h1
theorem x_getsN (C : Cx κ nL lev cc own mnm) (Z : Zx κ ω) {idx k : Nat} {host : String} (hk : k < 3) (hw : Cond.fieldLinkNest own idx "PegDiscs" (snm k) "[I" host ∈ TB) (hd : decode cc pc = .ok (.getstatic idx, 3)) (kk : X κ nL ω (pc + 3) lo (.ref (1000000 + k) :: st) σ) : X κ nL ω pc lo st σ := by
  intro H locs ls hl hP hD hS
  refine va_getsN C.1 C.2.1 (Z.2.2 k hk).1 hS C.2.2.2.1 (C.2.2.2.2.1 _ hw _) (fun _ h => h) hd ?_
  have h1 := kk H locs ls hl hP hD hS
  simp only [List.map_cons, cvV, Z.2.1 k hk] at h1
  exact h1
theorem x_sald (C : Cx κ nL lev cc own mnm) (Z : Zx κ ω) {k : Nat} (hk : k < 3) {x y : Int32} (hd : decode cc pc = .ok (.iaload, 1)) (hg : sA k x = some y) (kk : X κ nL ω (pc + 1) lo (.int y :: st) σ) : X κ nL ω pc lo (.int x :: .ref (1000000 + k) :: st) σ := by
  intro H locs ls hl hP hD hS
  obtain ⟨hin, rfl⟩ := sA_spec hg
  have h1 := va_ti C.1 C.2.1 (Z.2.2 k hk).2 hS hin rfl hd (kk H locs ls hl hP hD hS)
  simp only [List.map_cons, cvV, Z.2.1 k hk]
  exact h1
end Stat
/-! arraycopy of int rows (System.arraycopy, one kind of row) -/
def cpI (N : Nat) (σ : Hp) (a : Nat) (i : Int32) (b : Nat) (j n : Int32) : Option Hp := if a < N ∧ b < N then (match σ a, σ b with
  | .inl (c0, n0, .inl f), .inl (c1, n1, .inl g) => if (c0 = 0 ∧ c1 = 0) ∧ (¬ i < 0 ∧ ¬ j < 0 ∧ ¬ n < 0) ∧ i.toNatClampNeg + n.toNatClampNeg ≤ n0 ∧ j.toNatClampNeg + n.toNatClampNeg ≤ n1 then some (va_up σ b (.inl (0, n1, .inl (va_cpy f g i.toNatClampNeg j.toNatClampNeg n.toNatClampNeg)))) else none
  | _, _ => none) else none
theorem cpI_spec {N : Nat} {σ σ' : Hp} {a b : Nat} {i j n : Int32} (h : cpI N σ a i b j n = some σ') : a < N ∧ b < N ∧ ∃ n0 n1 f g, σ a = .inl (0, n0, .inl f) ∧ σ b = .inl (0, n1, .inl g) ∧ (¬ i < 0 ∧ ¬ j < 0 ∧ ¬ n < 0) ∧ i.toNatClampNeg + n.toNatClampNeg ≤ n0 ∧ j.toNatClampNeg + n.toNatClampNeg ≤ n1 ∧ σ' = va_up σ b (.inl (0, n1, .inl (va_cpy f g i.toNatClampNeg j.toNatClampNeg n.toNatClampNeg))) := by
  unfold cpI at h
  split at h
  case isFalse => cases h
  case isTrue hi =>
    refine ⟨hi.1, hi.2, ?_⟩
    split at h
    case h_2 => cases h
    case h_1 c0 n0 f c1 n1 g ha hb =>
      split at h
      case isFalse => cases h
      case isTrue hc =>
        cases h
        exact ⟨n0, n1, f, g, by rw [ha, hc.1.1], by rw [hb, hc.1.2], hc.2.1, hc.2.2.1, hc.2.2.2, rfl⟩
theorem x_copy {κ : Kx} {nL lev : Nat} {cc : ByteArray} {own mnm : String} {ω : Om} {pc : Nat} {lo : List (Option Value)} {st : List Value} {σ σ' : Hp} (C : Cx κ nL lev cc own mnm) {idx : Nat} {a b : Nat} {i j n : Int32} (hlev : 1 ≤ lev) (hlk : Cond.methodLink own idx arraycopyName ∈ TB) (hnat : Cond.native arraycopyName ∈ TB) (hstat : Cond.static arraycopyName ∈ TB) (hini : Cond.initialized "java/lang/System" ∈ TB) (hst : (st.map fun v => v.category).sum + (nativeFrameWords "java/lang/System" "arraycopy" 5 + 11) ≤ 40) (hd : decode cc pc = .ok (.invokestatic idx, 3)) (hg : cpI ω.1 σ a i b j n = some σ') (k : X κ nL ω (pc + 3) lo st σ') : X κ nL ω pc lo (.int n :: .int j :: .ref b :: .int i :: .ref a :: st) σ := by
  intro H locs ls hl hP hD hS
  obtain ⟨ha, hb, n0, n1, f, g, ea, eb, ⟨h1, h2, h3⟩, h4, h5, rfl⟩ := cpI_spec hg
  have hU : ∀ w ∈ TB, w.before κ.args κ.s = true := fun w h => C.2.2.2.2.1 w h _
  obtain ⟨g1, g2⟩ := C.2.2.2.2.2.2.2.2.1
  refine va_copyi C.1 C.2.1 (by rw [C.2.2.1]; exact hl.1.symm) C.2.2.2.1 (hU _ hlk) (hU _ hnat) (hU _ hstat) (hU _ hini) C.2.2.2.2.2.1 hP hD hS a b 0 0 (wl_atE ha ea) (wl_atE hb eb) rfl rfl rfl h1 h2 h3 h4 h5 (fun _ _ => rfl) (by omega) (by rw [cats]; omega) hd (fun H1 locs1 hP hD hS => ?_)
  have hs := wl_set (cy := κ.cy) (ad := ω.2.1) (σ := σ) (.inl (0, n1, .inl (va_cpy f g i.toNatClampNeg j.toNatClampNeg n.toNatClampNeg))) hb
  simp only [cvE] at hs
  rw [hs] at hP hD
  exact k H1 locs1 ls hl hP hD hS
end
section
/-! methods that make cells -/
/-- what a cell holds speaks of numbers below N alone -/
def HW (N : Nat) (σ : Hp) : Prop := ∀ i, i < N → ∀ (cy ad ad' : Nat → Nat), (∀ j, j < N → ad j = ad' j) → cvE cy ad (σ i) = cvE cy ad' (σ i)
noncomputable def hw (N : Nat) (σ : Hp) : Option Unit := @ite _ (HW N σ) (Classical.propDecidable _) (some ()) none
theorem hw_spec {N : Nat} {σ : Hp} {u : Unit} (h : hw N σ = some u) : HW N σ := by
  unfold hw at h
  split at h
  case isTrue hc => exact hc
  case isFalse => cases h
theorem hw_of {N : Nat} {σ : Hp} (h : HW N σ) : hw N σ = some () := by
  unfold hw
  rw [if_pos h]
def rk (N : Nat) (l : List Nat) : Option Unit := if ∀ x ∈ l, x < N then some () else none
theorem rk_spec {N : Nat} {l : List Nat} {u : Unit} (h : rk N l = some u) : ∀ x ∈ l, x < N := by
  unfold rk at h
  split at h
  case isTrue hc => exact hc
  case isFalse => cases h
theorem wl_push {cy : Nat → Nat} {N : Nat} {ad : Nat → Nat} {σ : Hp} (c : va_E) (q : Nat) (hW : HW N σ) : wl cy N ad σ ++ [(q, cvE cy (va_up ad N q) c)] = wl cy (N + 1) (va_up ad N q) (va_up σ N c) := by
  unfold wl
  rw [List.range_succ, List.map_append]
  congr 1
  · apply List.map_congr_left
    intro i hi
    have h : i < N := List.mem_range.mp hi
    have hne : i ≠ N := by omega
    simp only [va_up, if_neg hne]
    rw [hW i h cy ad (fun j => if j = N then q else ad j) (fun j hj => by rw [if_neg (by omega)])]
    rfl
  · simp [va_up]
def okv (N : Nat) : Value → Prop
  | .ref i => i < N
  | _ => True
def okL (N : Nat) : List Value → Prop
  | [] => True
  | v :: vs => okv N v ∧ okL N vs
def okO (N : Nat) : List (Option Value) → Prop
  | [] => True
  | none :: vs => okO N vs
  | some v :: vs => okv N v ∧ okO N vs
theorem okv_eq {N : Nat} {v : Value} {ad ad' : Nat → Nat} (h : okv N v) (e : ∀ i, i < N → ad i = ad' i) : cvV ad v = cvV ad' v := by
  cases v <;> first | rfl | (simp only [cvV]; rw [e _ h])
theorem okL_eq {N : Nat} {ad ad' : Nat → Nat} (e : ∀ i, i < N → ad i = ad' i) : ∀ {st : List Value}, okL N st → st.map (cvV ad) = st.map (cvV ad') := by
  intro st
  induction st with
  | nil => intro _; rfl
  | cons v vs ih => intro h; rw [List.map_cons, List.map_cons, okv_eq h.1 e, ih h.2]
theorem okO_at {N : Nat} : ∀ {lo : List (Option Value)} {i : Nat} {v : Value}, okO N lo → lo[i]? = some (some v) → okv N v := by
  intro lo
  induction lo with
  | nil => intro i v _ h; simp at h
  | cons o os ih =>
    intro i v h hi
    cases i with
    | zero => simp at hi; subst hi; exact h.1
    | succ i =>
      have h2 : okO N os := by cases o with | none => exact h | some w => exact h.2
      exact ih h2 (by simpa using hi)
theorem lh_ad {ls : Array Slot} {nL N : Nat} {ad ad' : Nat → Nat} {lo : List (Option Value)} (e : ∀ i, i < N → ad i = ad' i) (h : lh ls nL ad lo) (ho : okO N lo) : lh ls nL ad' lo :=
  ⟨h.1, h.2.1, fun i v hi => by rw [← okv_eq (okO_at ho hi) e]; exact h.2.2 i v hi⟩
/-- later cells lie elsewhere; the elder ones stay -/
def Ag (N0 : Nat) (ad0 : Nat → Nat) (ω : Om) : Prop := N0 ≤ ω.1 ∧ ∀ i, i < N0 ∨ ω.1 ≤ i → ω.2.1 i = ad0 i
theorem Ag.rf (N : Nat) (ad : Nat → Nat) (c s : Nat) : Ag N ad (N, ad, c, s) := ⟨Nat.le_refl _, fun _ _ => rfl⟩
theorem Ag.new {N0 : Nat} {ad0 : Nat → Nat} {N : Nat} {ad : Nat → Nat} {c s c' s' : Nat} (q : Nat) (G : Ag N0 ad0 (N, ad, c, s)) : Ag N0 ad0 (N + 1, va_up ad N q, c', s') := by
  obtain ⟨g1, g2⟩ := G
  refine ⟨Nat.le_succ_of_le g1, fun i hi => ?_⟩
  have hne : i ≠ N := by
    rcases hi with h | h
    · exact Nat.ne_of_lt (Nat.lt_of_lt_of_le h g1)
    · exact Nat.ne_of_gt h
  show va_up ad N q i = ad0 i
  rw [va_up, if_neg hne]
  exact g2 i (hi.imp id (fun h => Nat.le_of_succ_le h))
theorem Ag.on {N0 : Nat} {ad0 : Nat → Nat} {N N' : Nat} {ad ad' : Nat → Nat} {c s c' s' : Nat} (G : Ag N0 ad0 (N, ad, c, s)) (h : N ≤ N') (h2 : ∀ i, i < N ∨ N' ≤ i → ad' i = ad i) : Ag N0 ad0 (N', ad', c', s') := by
  obtain ⟨g1, g2⟩ := G
  refine ⟨Nat.le_trans g1 h, fun i hi => ?_⟩
  show ad' i = ad0 i
  rcases hi with h3 | h3
  · rw [h2 i (Or.inl (Nat.lt_of_lt_of_le h3 g1))]; exact g2 i (Or.inl h3)
  · rw [h2 i (Or.inr h3)]; exact g2 i (Or.inr (Nat.le_trans h h3))
theorem Sd.on {cy ad ad' : Nat → Nat} {N N' : Nat} (h : Sd cy ad) (hN : N' ≤ 1000000) (h2 : ∀ i, i < N ∨ N' ≤ i → ad' i = ad i) : Sd cy ad' := fun k hk => by rw [h2 _ (Or.inr (by omega))]; exact h k hk
def rmA (lev mc ms : Nat) : Room := { frames := lev, cells := mc, slots := ms, locals := 40 * lev }
def PoA (D : va_G) (cy : Nat → Nat) (N : Nat) (ad : Nat → Nat) (σ : Hp) (sz : Nat) (Post : Option Value → Nat → Hp → Prop) : Array Value → State → Outcome → State → Prop := fun _ s0 oc t =>
  (∃ (v : Option Value) (N' : Nat) (ad' : Nat → Nat) (σ' : Hp), oc = .returned (v.map (cvV ad')) ∧ Post v N' σ' ∧ N ≤ N' ∧ (∀ i, i < N ∨ N' ≤ i → ad' i = ad i) ∧ va_P D vwCl (wl cy N' ad' σ') t.heap ∧ va_D (va_A (wl cy N ad σ) sz) (wl cy N' ad' σ')) ∧ va_F (va_A (wl cy N ad σ) sz) s0 t
def CtA (l : Launch) (D : va_G) (cy : Nat → Nat) (y : MethodName) (cc : ByteArray) (nL : Nat) (ret : Option FieldType) (lev mc ms : Nat) (As : List Value) (N : Nat) (σ : Hp) (Post : Option Value → Nat → Hp → Prop) : Prop :=
  ∀ (ad : Nat → Nat) (sz : Nat), Met l y [Cond.code y cc nL ret] (rmA lev mc ms) (Pr l D cy As N ad σ sz) (PoA D cy N ad σ sz Post) mc ms (va_A (wl cy N ad σ) sz)
/-- the end of a body that makes cells -/
def RtA (κ : Kx) (N0 : Nat) (ad0 : Nat → Nat) (mc ms : Nat) (ret : Option FieldType) (Post : Option Value → Nat → Hp → Prop) : Prop :=
  κ.meth.sig.returnType = ret ∧ ∀ (ω : Om) (H : Heap) (locs : List Loc) (v : Option Value) (σ : Hp), Ag N0 ad0 ω → va_P κ.D vwCl (wl κ.cy ω.1 ω.2.1 σ) H → va_D κ.A (wl κ.cy ω.1 ω.2.1 σ) → va_S κ.A κ.s.heap H locs → Post v ω.1 σ →
    ∃ (Qc : Array Value → State → Outcome → State → Prop) (free : Addr → Prop), κ.Q = MQ κ.below Qc κ.args κ.s mc ms free ∧ (∀ t : State, t.heap = H → κ.s.WarmedH t.vm → Qc κ.args κ.s (.returned (v.map (cvV ω.2.1))) t) ∧ ∀ q ∈ locs, free q.base
theorem CtA.intro {l : Launch} {D : va_G} {cy : Nat → Nat} {y : MethodName} {cc : ByteArray} {nL : Nat} {ret : Option FieldType} {lev mc ms : Nat} {As : List Value} {N : Nat} {σ : Hp} {Post : Option Value → Nat → Hp → Prop}
    (lo : List (Option Value)) (hy : plainName y.cls = true) (hlo : loE As ++ List.replicate (nL - (loE As).length) none = lo) (hln : (loE As).length ≤ nL)
    (body : ∀ (κ : Kx) (ad : Nat → Nat), κ.l = l → κ.D = D → κ.cy = cy → κ.R.cells = mc → κ.R.slots = ms → Cx κ nL lev cc y.cls y.name → Zx κ (N, ad, 0, 0) → RtA κ N ad mc ms ret Post → X κ nL (N, ad, 0, 0) 0 lo [] σ) : CtA l D cy y cc nL ret lev mc ms As N σ Post := by
  intro ad sz
  refine Met.ofW (cc := cc) (maxL := nL) (ret := ret) hy rfl ?_
  intro p e s m args below meth c s₁ B hml hv
  obtain ⟨rfl, hsz, hU, hK, hP, hD0, hSd, hSx⟩ := hv
  subst hsz
  have hD := hD0.self (sz := s.heap.size)
  have hl := lv_entry (As.map (cvV ad)) (n := nL) (by rw [loE_len]; exact hln)
  rw [lg_entry_eq]
  have hlh : lh ((lg_sl (As.map (cvV ad)) ++ List.replicate (nL - (lg_sl (As.map (cvV ad))).length) Slot.unset).toArray) nL ad lo := by
    refine ⟨hl.1, hl.2.1, fun i v hi => ?_⟩
    rw [← hlo] at hi
    have h2 : (loE As)[i]? = some (some v) := by
      rcases Nat.lt_or_ge i (loE As).length with h | h
      · rwa [List.getElem?_append_left h] at hi
      · rw [List.getElem?_append_right h] at hi
        have := List.mem_of_getElem? hi
        rw [List.mem_replicate] at this
        cases this.2
    have := loE_mem ad As 0 i v h2
    rw [Nat.zero_add] at this
    exact hl.2.2 _ this
  refine body (p, l, e, (headSpec [Cond.code y cc nL ret] (rmA lev mc ms)).room, s, m, (As.map (cvV ad)).toArray, below, meth, c, va_A (wl cy N ad σ) s.heap.size, D, cy, MQ below (PoA D cy N ad σ s.heap.size Post) (As.map (cvV ad)).toArray s mc ms (va_A (wl cy N ad σ) s.heap.size)) ad rfl rfl rfl rfl rfl ?_ ⟨⟨Nat.zero_le _, Nat.zero_le _⟩, hSd, hSx⟩ ?_ s.heap [] _ hlh hP hD va_S.rf
  · exact ⟨B.exec, B.bytes, hml, findClass_of_methodNamed B.named, hU, hK, B.notSynchronized, fun q h => Or.inr h, ⟨Nat.le_refl _, Nat.le_refl _⟩, (name_of_methodNamed B.named B.method).1⟩
  · refine ⟨B.returns, fun ω H locs v σ' hG hP' hD' hS' hp => ⟨_, _, rfl, fun t ht hW => ⟨⟨v, ω.1, ω.2.1, σ', rfl, hp, hG.1, hG.2, by rw [ht]; exact hP', hD'⟩, hS'.F ht⟩, hS'.2.2⟩⟩
section Make
variable {κ : Kx} {nL lev : Nat} {cc : ByteArray} {own mnm : String} {N : Nat} {ad : Nat → Nat} {c s : Nat} {pc : Nat} {lo : List (Option Value)} {st : List Value} {σ : Hp} {N0 mc ms : Nat} {ad0 : Nat → Nat} {Post : Option Value → Nat → Hp → Prop}
theorem x_iretA (C : Cx κ nL lev cc own mnm) (E : RtA κ N0 ad0 mc ms (some .int) Post) (G : Ag N0 ad0 (N, ad, c, s)) (hc : c ≤ mc ∧ s ≤ ms) {v : Int32} (hd : decode cc pc = .ok (.ireturn, 1)) (hp : Post (some (.int v)) N σ) : X κ nL (N, ad, c, s) pc lo [.int v] σ := by
  intro H locs ls hl hP hD hS
  obtain ⟨Qc, free, hQ, h1, h2⟩ := E.2 (N, ad, c, s) H locs _ σ G hP hD hS hp
  rw [hQ]
  exact W.widen hc.1 hc.2 (W.iret C.1 C.2.1 E.1 h1 h2 hd C.2.2.2.2.2.2.1)
theorem x_lretA (C : Cx κ nL lev cc own mnm) (E : RtA κ N0 ad0 mc ms (some .long) Post) (G : Ag N0 ad0 (N, ad, c, s)) (hc : c ≤ mc ∧ s ≤ ms) {v : Int64} (hd : decode cc pc = .ok (.lreturn, 1)) (hp : Post (some (.long v)) N σ) : X κ nL (N, ad, c, s) pc lo [.long v] σ := by
  intro H locs ls hl hP hD hS
  obtain ⟨Qc, free, hQ, h1, h2⟩ := E.2 (N, ad, c, s) H locs _ σ G hP hD hS hp
  rw [hQ]
  exact W.widen hc.1 hc.2 (W.lret C.1 C.2.1 E.1 h1 h2 hd C.2.2.2.2.2.2.1)
theorem x_vretA (C : Cx κ nL lev cc own mnm) (E : RtA κ N0 ad0 mc ms none Post) (G : Ag N0 ad0 (N, ad, c, s)) (hc : c ≤ mc ∧ s ≤ ms) (hd : decode cc pc = .ok (.return_, 1)) (hp : Post none N σ) : X κ nL (N, ad, c, s) pc lo [] σ := by
  intro H locs ls hl hP hD hS
  obtain ⟨Qc, free, hQ, h1, h2⟩ := E.2 (N, ad, c, s) H locs _ σ G hP hD hS hp
  rw [hQ]
  exact W.widen hc.1 hc.2 (W.vret C.1 C.2.1 E.1 h1 h2 hd C.2.2.2.2.2.2.1)
theorem x_aretA (C : Cx κ nL lev cc own mnm) {cn : String} (E : RtA κ N0 ad0 mc ms (some (.object cn)) Post) (G : Ag N0 ad0 (N, ad, c, s)) (hc : c ≤ mc ∧ s ≤ ms) {q : Option Nat} (hd : decode cc pc = .ok (.areturn, 1)) (hp : Post (some (va_rf q)) N σ) : X κ nL (N, ad, c, s) pc lo [va_rf q] σ := by
  intro H locs ls hl hP hD hS
  obtain ⟨Qc, free, hQ, h1, h2⟩ := E.2 (N, ad, c, s) H locs _ σ G hP hD hS hp
  rw [hQ]
  exact W.widen hc.1 hc.2 (W.aret C.1 C.2.1 E.1 (Or.inl ⟨_, rfl⟩) (by cases q with | none => exact Or.inl rfl | some r => exact Or.inr ⟨_, rfl⟩) h1 h2 hd C.2.2.2.2.2.2.1)
theorem x_objInit {ω : Om} (C : Cx κ nL lev cc own mnm) {idx i : Nat} (hlev : 1 ≤ lev) (h1 : Cond.methodLink own idx Lib.objectInit ∈ TB) (h2 : Cond.instanceMethod Lib.objectInit ∈ TB) (h3 : Cond.code Lib.objectInit ⟨#[0xb1]⟩ 1 none ∈ TB) (hst : (st.map fun v => v.category).sum ≤ 20) (hd : decode cc pc = .ok (.invokespecial idx, 3)) (k : X κ nL ω (pc + 3) lo st σ) : X κ nL ω pc lo (.ref i :: st) σ := by
  intro H locs ls hl hP hD hS
  have hU : ∀ w ∈ TB, w.before κ.args κ.s = true := fun w h => C.2.2.2.2.1 w h _
  obtain ⟨g1, g2⟩ := C.2.2.2.2.2.2.2.2.1
  refine W.objInit C.1 C.2.1 C.2.2.2.1 (hU _ h1) (hU _ h2) (hU _ h3) rfl (by rw [C.2.2.1]; exact hl.1) rfl hd (by omega) ?_ (k H locs ls hl hP hD hS)
  have hm : 2 * (F0 κ.m pc ls ((.ref i :: st : List Value).map (cvV ω.2.1))).monitorRoom = 0 := rfl
  rw [cats]
  omega
/-- a class that is made: its words; its fields at first -/
def NW (own : String) (idx ci n : Nat) (fs : List Value) : Prop := ∃ Cn T ty, CI ci Cn T n ty ∧ Cond.classLink own idx Cn ∈ TB ∧ Cond.instantiable Cn n ∈ TB ∧ Cond.initialized Cn ∈ TB ∧ (∀ j, j < n → defaultValue (ty j) = vp_V fs j) ∧ ∀ a : Nat → Nat, fs.map (cvV a) = fs
theorem x_new (C : Cx κ nL lev cc own mnm) {idx ci n : Nat} {fs : List Value} (nw : NW own idx ci n fs) (hW : HW N σ) (hc : c + 1 ≤ κ.R.cells ∧ s + n ≤ κ.R.slots) (hlo : okO N lo) (hst : okL N st) (hd : decode cc pc = .ok (.new idx, 3)) (k : ∀ q, X κ nL (N + 1, va_up ad N q, c + 1, s + n) (pc + 3) lo (.ref N :: st) (va_up σ N (.inr (ci, fs)))) : X κ nL (N, ad, c, s) pc lo st σ := by
  intro H locs ls hl hP hD hS
  have hU : ∀ w ∈ TB, w.before κ.args κ.s = true := fun w h => C.2.2.2.2.1 w h _
  obtain ⟨Cn, T, ty, hci, h1, h2, h3, h4, h5⟩ := nw
  refine va_new C.1 C.2.1 hU hci.2.1 ty hci.2.2.1 C.2.2.2.1 (hU _ h1) (hU _ h2) (hU _ h3) C.2.2.2.2.2.1 hP hD hS C.2.2.2.2.2.2.2.1 hci.1 h4 hc.1 hc.2 hd (fun q H1 hP hD hS => ?_)
  have e : ∀ i, i < N → ad i = va_up ad N q i := fun i hi => by rw [va_up, if_neg (by omega)]
  have hp := wl_push (cy := κ.cy) (ad := ad) (.inr (ci, fs)) q hW
  simp only [cvE, h5] at hp
  have hP : va_P κ.D vwCl (wl κ.cy N ad σ ++ [(q, .inr (ci, fs))]) H1 := hP
  have hD : va_D κ.A (wl κ.cy N ad σ ++ [(q, .inr (ci, fs))]) := hD
  rw [hp] at hP hD
  have h6 := k q H1 locs ls (lh_ad e hl hlo) hP hD hS
  simp only [List.map_cons, cvV] at h6
  rw [← okL_eq e hst, show va_up ad N q N = q from if_pos rfl] at h6
  exact h6
theorem x_newaG (C : Cx κ nL lev cc own mnm) {atype : ArrayType} {ty : FieldType} {tag n : Nat} {x : Int32} {a0 : (Nat → Int32) ⊕ (Nat → Int64) ⊕ (Nat → UInt32) ⊕ (Nat → UInt64) ⊕ (Nat → Option Nat)} (hw : Cond.arrayClass ty ∈ TB) (hty : newarray.typeOf atype = ty) (htag : (tyL κ.cy)[tag]? = some (κ.cy tag, ty)) (hra : ∀ (U : State) (a b : ClassId), va_RA U a ty → va_RA U b ty → a = b) (ha : ∀ cA : ClassId, vp_cell cA (n, a0) = arrV cA n (fun _ => defaultValue ty)) (hcv : ∀ cy a : Nat → Nat, cvE cy a (.inl (tag, n, a0)) = .inl (cy tag, n, a0)) (hn : ¬ x < 0) (hN : x.toNatClampNeg = n) (hbytes : n * componentBytes ty ≤ 536870912) (hW : HW N σ) (hc : c + 1 ≤ κ.R.cells ∧ s + n ≤ κ.R.slots) (hlo : okO N lo) (hst : okL N st) (hd : decode cc pc = .ok (.newarray atype, 2)) (k : ∀ q, X κ nL (N + 1, va_up ad N q, c + 1, s + n) (pc + 2) lo (.ref N :: st) (va_up σ N (.inl (tag, n, a0)))) : X κ nL (N, ad, c, s) pc lo (.int x :: st) σ := by
  intro H locs ls hl hP hD hS
  have hU : ∀ w ∈ TB, w.before κ.args κ.s = true := fun w h => C.2.2.2.2.1 w h _
  refine va_newa C.1 C.2.1 (by rw [hty]; exact hU _ hw) hty C.2.2.2.2.2.1 hP hD hS C.2.2.2.2.2.2.2.1 ha hn hN hbytes hc.1 hc.2 hd (fun q cA H1 hK' hP hD hS => ?_)
  have e1 : cA = κ.cy tag := hra κ.s _ _ (hK'.2 (tyL κ.cy).length (cA, ty) (by simp)).2 (C.2.2.2.2.2.1.2 tag _ htag).2
  subst e1
  have e : ∀ i, i < N → ad i = va_up ad N q i := fun i hi => by rw [va_up, if_neg (by omega)]
  have hp := wl_push (cy := κ.cy) (ad := ad) (.inl (tag, n, a0)) q hW
  rw [hcv] at hp
  have hP : va_P κ.D vwCl (wl κ.cy N ad σ ++ [(q, .inl (κ.cy tag, n, a0))]) H1 := hP
  have hD : va_D κ.A (wl κ.cy N ad σ ++ [(q, .inl (κ.cy tag, n, a0))]) := hD
  rw [hp] at hP hD
  have h6 := k q H1 locs ls (lh_ad e hl hlo) hP hD hS
  simp only [List.map_cons, cvV] at h6
  rw [← okL_eq e hst, show va_up ad N q N = q from if_pos rfl] at h6
  exact h6
theorem x_newI (C : Cx κ nL lev cc own mnm) (n : Nat) {x : Int32} (hw : Cond.arrayClass .int ∈ TB) (hn : ¬ x < 0) (hN : x.toNatClampNeg = n) (hbytes : n * 4 ≤ 536870912) (hW : HW N σ) (hc : c + 1 ≤ κ.R.cells ∧ s + n ≤ κ.R.slots) (hlo : okO N lo) (hst : okL N st) (hd : decode cc pc = .ok (.newarray .int, 2)) (k : ∀ q, X κ nL (N + 1, va_up ad N q, c + 1, s + n) (pc + 2) lo (.ref N :: st) (va_up σ N (.inl (0, n, .inl (fun _ => 0))))) : X κ nL (N, ad, c, s) pc lo (.int x :: st) σ :=
  x_newaG C (tag := 0) hw rfl rfl (fun U a b h1 h2 => Option.some.inj ((show U.vm.findClass _ = some a from h1).symm.trans h2)) (fun _ => rfl) (fun _ _ => rfl) hn hN hbytes hW hc hlo hst hd k
theorem x_newJ (C : Cx κ nL lev cc own mnm) (n : Nat) {x : Int32} (hw : Cond.arrayClass .long ∈ TB) (hn : ¬ x < 0) (hN : x.toNatClampNeg = n) (hbytes : n * 8 ≤ 536870912) (hW : HW N σ) (hc : c + 1 ≤ κ.R.cells ∧ s + n ≤ κ.R.slots) (hlo : okO N lo) (hst : okL N st) (hd : decode cc pc = .ok (.newarray .long, 2)) (k : ∀ q, X κ nL (N + 1, va_up ad N q, c + 1, s + n) (pc + 2) lo (.ref N :: st) (va_up σ N (.inl (1, n, .inr (.inl (fun _ => 0)))))) : X κ nL (N, ad, c, s) pc lo (.int x :: st) σ :=
  x_newaG C (tag := 1) hw rfl rfl (fun U a b h1 h2 => Option.some.inj ((show U.vm.findClass _ = some a from h1).symm.trans h2)) (fun _ => rfl) (fun _ _ => rfl) hn hN hbytes hW hc hlo hst hd k
theorem x_newB (C : Cx κ nL lev cc own mnm) (n : Nat) {x : Int32} (hw : Cond.arrayClass .byte ∈ TB) (hn : ¬ x < 0) (hN : x.toNatClampNeg = n) (hbytes : n * 1 ≤ 536870912) (hW : HW N σ) (hc : c + 1 ≤ κ.R.cells ∧ s + n ≤ κ.R.slots) (hlo : okO N lo) (hst : okL N st) (hd : decode cc pc = .ok (.newarray .byte, 2)) (k : ∀ q, X κ nL (N + 1, va_up ad N q, c + 1, s + n) (pc + 2) lo (.ref N :: st) (va_up σ N (.inl (2, n, .inl (fun _ => 0))))) : X κ nL (N, ad, c, s) pc lo (.int x :: st) σ :=
  x_newaG C (tag := 2) hw rfl rfl (fun U a b h1 h2 => Option.some.inj ((show U.vm.findClass _ = some a from h1).symm.trans h2)) (fun _ => rfl) (fun _ _ => rfl) hn hN hbytes hW hc hlo hst hd k
theorem x_newZ (C : Cx κ nL lev cc own mnm) (n : Nat) {x : Int32} (hw : Cond.arrayClass .boolean ∈ TB) (hn : ¬ x < 0) (hN : x.toNatClampNeg = n) (hbytes : n * 1 ≤ 536870912) (hW : HW N σ) (hc : c + 1 ≤ κ.R.cells ∧ s + n ≤ κ.R.slots) (hlo : okO N lo) (hst : okL N st) (hd : decode cc pc = .ok (.newarray .boolean, 2)) (k : ∀ q, X κ nL (N + 1, va_up ad N q, c + 1, s + n) (pc + 2) lo (.ref N :: st) (va_up σ N (.inl (3, n, .inl (fun _ => 0))))) : X κ nL (N, ad, c, s) pc lo (.int x :: st) σ :=
  x_newaG C (tag := 3) hw rfl rfl (fun U a b h1 h2 => Option.some.inj ((show U.vm.findClass _ = some a from h1).symm.trans h2)) (fun _ => rfl) (fun _ _ => rfl) hn hN hbytes hW hc hlo hst hd k
theorem x_newQ (C : Cx κ nL lev cc own mnm) {idx tag n : Nat} {x : Int32} {cn : String} (htag : (tyL κ.cy)[tag]? = some (κ.cy tag, .object cn)) (h1 : Cond.classLink own idx cn ∈ TB) (h2 : Cond.arrayOver (.object cn) ∈ TB) (hn : ¬ x < 0) (hN : x.toNatClampNeg = n) (hbytes : n * 4 ≤ 536870912) (hW : HW N σ) (hc : c + 1 ≤ κ.R.cells ∧ s + n ≤ κ.R.slots) (hlo : okO N lo) (hst : okL N st) (hd : decode cc pc = .ok (.anewarray idx, 3)) (k : ∀ q, X κ nL (N + 1, va_up ad N q, c + 1, s + n) (pc + 3) lo (.ref N :: st) (va_up σ N (.inl (tag, n, .inr (.inr (.inr (.inr (fun _ => none)))))))) : X κ nL (N, ad, c, s) pc lo (.int x :: st) σ := by
  intro H locs ls hl hP hD hS
  have hU : ∀ w ∈ TB, w.before κ.args κ.s = true := fun w h => C.2.2.2.2.1 w h _
  refine va_newq C.1 C.2.1 C.2.2.2.1 (hU _ h1) (va_AO.of (hU _ h2)) C.2.2.2.2.2.1 hP hD hS C.2.2.2.2.2.2.2.1 hn hN hbytes hc.1 hc.2 hd (fun q cA H1 hK' hP hD hS => ?_)
  have e1 : cA = κ.cy tag := by
    obtain ⟨_, _, _, _, _, g1⟩ := (hK'.2 (tyL κ.cy).length (cA, .object cn) (by simp)).2
    obtain ⟨_, _, _, _, _, g2⟩ := (C.2.2.2.2.2.1.2 tag _ htag).2
    exact Option.some.inj (g1.symm.trans g2)
  subst e1
  have e : ∀ i, i < N → ad i = va_up ad N q i := fun i hi => by rw [va_up, if_neg (by omega)]
  have hp := wl_push (cy := κ.cy) (ad := ad) (.inl (tag, n, .inr (.inr (.inr (.inr (fun _ => none)))))) q hW
  have hP : va_P κ.D vwCl (wl κ.cy N ad σ ++ [(q, .inl (κ.cy tag, n, .inr (.inr (.inr (.inr (fun _ => none))))))]) H1 := hP
  have hD : va_D κ.A (wl κ.cy N ad σ ++ [(q, .inl (κ.cy tag, n, .inr (.inr (.inr (.inr (fun _ => none))))))]) := hD
  simp only [cvE, Option.map_none] at hp
  rw [hp] at hP hD
  have h6 := k q H1 locs ls (lh_ad e hl hlo) hP hD hS
  simp only [List.map_cons, cvV] at h6
  rw [← okL_eq e hst, show va_up ad N q N = q from if_pos rfl] at h6
  exact h6
end Make
/-- a reference into a row of references: the object is there, of the row's class -/
def sR (t ci N : Nat) (σ : Hp) (i : Nat) (x : Int32) (r : Nat) : Option Hp := if i < N ∧ r < N then (match σ i, σ r with
  | .inl (c, n, .inr (.inr (.inr (.inr f)))), .inr o => if (c = t ∧ o.1 = ci) ∧ ¬ (x < 0 ∨ n ≤ x.toNatClampNeg) then some (va_up σ i (.inl (t, n, .inr (.inr (.inr (.inr (va_up f x.toNatClampNeg (some r)))))))) else none
  | _, _ => none) else none
theorem sR_spec {t ci N : Nat} {σ σ' : Hp} {i r : Nat} {x : Int32} (h : sR t ci N σ i x r = some σ') : i < N ∧ r < N ∧ ∃ n f fs, σ i = .inl (t, n, .inr (.inr (.inr (.inr f)))) ∧ σ r = .inr (ci, fs) ∧ vp_in x n ∧ σ' = va_up σ i (.inl (t, n, .inr (.inr (.inr (.inr (va_up f x.toNatClampNeg (some r))))))) := by
  unfold sR at h
  split at h
  case isFalse => cases h
  case isTrue hi =>
    refine ⟨hi.1, hi.2, ?_⟩
    split at h
    case h_2 => cases h
    case h_1 c n f o ha hb =>
      split at h
      case isFalse => cases h
      case isTrue hc =>
        cases h
        exact ⟨n, f, o.2, by rw [ha, hc.1.1], by rw [hb, ← hc.1.2], hc.2, rfl⟩
section Make2
variable {κ : Kx} {nL lev : Nat} {cc : ByteArray} {own mnm : String} {ω : Om} {pc : Nat} {lo : List (Option Value)} {st : List Value} {σ : Hp}
theorem x_aast (C : Cx κ nL lev cc own mnm) {t ci i r : Nat} {x : Int32} {rc : vw_C} {σ' : Hp} (hcl : vwCl[ci]? = some rc) (ht : (tyL κ.cy)[t]? = some (κ.cy t, .object rc.1)) (hd : decode cc pc = .ok (.aastore, 1)) (hg : sR t ci ω.1 σ i x r = some σ') (k : X κ nL ω (pc + 1) lo st σ') : X κ nL ω pc lo (.ref r :: .int x :: .ref i :: st) σ := by
  intro H locs ls hl hP hD hS
  obtain ⟨hi, hr, n, f, fs, ea, eb, hin, rfl⟩ := sR_spec hg
  refine va_astq C.1 C.2.1 C.2.2.2.2.2.1 hP hD hS i t r ci (wl_atE hi ea) ht (wl_atE hr eb) hcl hin hd (fun H1 locs1 hP hD hS => ?_)
  have hs := wl_set (cy := κ.cy) (ad := ω.2.1) (σ := σ) (.inl (t, n, .inr (.inr (.inr (.inr (va_up f x.toNatClampNeg (some r))))))) hi
  have hf : (fun k => (va_up f x.toNatClampNeg (some r) k).map ω.2.1) = va_up (fun k => (f k).map ω.2.1) x.toNatClampNeg (some (ω.2.1 r)) := by
    funext k
    unfold va_up
    split <;> rfl
  simp only [cvE, hf] at hs
  rw [hs] at hP hD
  exact k H1 locs1 ls hl hP hD hS
end Make2
/-! calls of methods that make cells -/
theorem x_afterA {κ : Kx} {nL N : Nat} {ad : Nat → Nat} {c s mc ms : Nat} {pc : Nat} {lo : List (Option Value)} {rest st : List Value} {σ : Hp} {Post : Option Value → Nat → Hp → Prop} {H : Heap} {locs : List Loc} {ls : Array Slot} {as : Array Value}
    (hr : va_Run κ.p κ.l κ.e κ.R κ.s κ.m κ.args κ.below κ.meth κ.c H locs c s mc ms (F0 κ.m pc ls (st.map (cvV ad))) (rest.map (cvV ad)) (PoA κ.D κ.cy N ad σ H.size Post as) (va_A (wl κ.cy N ad σ) H.size))
    (hl : lh ls nL ad lo) (hP : va_P κ.D vwCl (wl κ.cy N ad σ) H) (hD : va_D κ.A (wl κ.cy N ad σ)) (hS : va_S κ.A κ.s.heap H locs) (hA : ∀ q, κ.s.heap.size ≤ q → κ.A q) (hlo : okO N lo) (hst : okL N rest)
    (k : ∀ (v : Option Value) (N' : Nat) (ad' : Nat → Nat) (σ' : Hp), Post v N' σ' → N ≤ N' → (∀ i, i < N ∨ N' ≤ i → ad' i = ad i) → X κ nL (N', ad', c + mc, s + ms) (pc + 3) lo (v.toList ++ rest) σ') :
    W κ.p κ.l κ.e κ.R κ.s κ.m κ.args κ.below κ.meth κ.c H locs c s κ.Q (F0 κ.m pc ls (st.map (cvV ad))) := by
  have hF := wl_F hD hS hA
  intro T hT X0
  obtain ⟨v, st₀, t, T', L, h0, X', hL, e1, e2, ⟨⟨v', N', ad', σ', hv, hp, hN, had, hP', hD'⟩, hz, hk⟩, stp⟩ := hr T hT X0
  cases hv
  rw [h0] at hz hk
  have hS' : va_S κ.A κ.s.heap T'.heap (locs ++ L) := ⟨Nat.le_trans hS.1 (by rw [e1]; exact hz), fun q h1 h2 => by rw [e1, hk q (Nat.lt_of_lt_of_le h1 hS.1) (fun z => h2 (hF q z))]; exact hS.2.1 q h1 h2, fun q hq => by
    rcases List.mem_append.mp hq with h | h
    · exact hS.2.2 q h
    · exact hF _ (hL q h)⟩
  have e : ∀ i, i < N → ad i = ad' i := fun i hi => (had i (Or.inl hi)).symm
  obtain ⟨t2, a1, b1⟩ := k v' N' ad' σ' hp hN had T'.heap (locs ++ L) ls (lh_ad e hl hlo) (by rw [e1]; exact hP') (hD'.weaken (fun _ _ _ h => hF _ h)) hS' T' rfl X'
  refine ⟨t2, stp t2 ?_, b1⟩
  have e3 : (v'.toList ++ rest).map (cvV ad') = (v'.map (cvV ad')).toList ++ rest.map (cvV ad) := by
    rw [List.map_append, okL_eq e hst]; cases v' <;> simp
  rw [e3] at a1
  exact a1
section CallsA
variable {κ : Kx} {nL lev : Nat} {cc : ByteArray} {own mnm : String} {N : Nat} {ad : Nat → Nat} {c s : Nat} {pc : Nat} {lo : List (Option Value)} {σ : Hp} {Post : Option Value → Nat → Hp → Prop}
theorem x_callVA (C : Cx κ nL lev cc own mnm) (Z : Zx κ (N, ad, c, s)) {y : MethodName} {cc' : ByteArray} {nL' : Nat} {ret : Option FieldType} {lev' mc ms n idx ci b : Nat} {As rest st : List Value} (mv : MV ci y cc' nL' ret n) (lk : LK own idx y) (hb : ∃ fs, b < N ∧ σ b = .inr (ci, fs)) (hM : CtA κ.l κ.D κ.cy y cc' nL' ret lev' mc ms (.ref b :: As) N σ Post) (hlev : lev' < lev) (hn : As.length = n) (hst : As.reverse ++ .ref b :: rest = st) (hrest : (rest.map fun v => v.category).sum ≤ 8) (hlo : okO N lo) (hok : okL N rest)
    (hc : c + mc ≤ κ.R.cells ∧ s + ms ≤ κ.R.slots) (hd : decode cc pc = .ok (.invokevirtual idx, 3)) (k : ∀ (v : Option Value) (N' : Nat) (ad' : Nat → Nat) (σ' : Hp), Post v N' σ' → N ≤ N' → (∀ i, i < N ∨ N' ≤ i → ad' i = ad i) → X κ nL (N', ad', c + mc, s + ms) (pc + 3) lo (v.toList ++ rest) σ') : X κ nL (N, ad, c, s) pc lo st σ := by
  intro H locs ls hl hP hD hS
  have hU : ∀ w ∈ TB, w.before κ.args κ.s = true := fun w h => C.2.2.2.2.1 w h _
  obtain ⟨⟨hcode, hini, ⟨hy1, hy2, hy3⟩, hnl⟩, hinst, hsel, T, kc, hcl⟩ := mv
  have hG : GoodIn TB [Cond.code y cc' nL' ret] := fun w hw => by
    rw [List.mem_singleton.mp hw]; exact ⟨hcode, good_of_word (by first | rfl | exact (List.mem_filter.mp hcode).2)⟩
  have hR : (rmA lev' mc ms).frames + 1 ≤ κ.R.frames ∧ 8 + (nL' + 11) + (rmA lev' mc ms).locals ≤ κ.R.locals := by
    obtain ⟨h1, h2⟩ := C.2.2.2.2.2.2.2.2.1
    constructor
    · show lev' + 1 ≤ _; omega
    · show 8 + (nL' + 11) + 40 * lev' ≤ _; omega
  obtain ⟨fs, hbN, hbe⟩ := hb
  have hrecv := va_recv C.2.2.2.2.2.1 hP hcl (wl_atE hbN hbe)
  have hPre : ∀ U : State, U.heap = H → κ.s.WarmedH U.vm → Pr κ.l κ.D κ.cy (.ref b :: As) N ad σ H.size (Value.ref (ad b) :: As.map (cvV ad)).toArray U := fun U hUH hW => ⟨rfl, by rw [hUH], C.2.2.2.2.1.warm hW, va_K.moved hW.alike C.2.2.2.2.2.1, by rw [hUH]; exact hP, hD.weaken (fun _ _ _ _ => trivial), Z.2.1, Z.2.2.call hS hUH hW.alike (wl_F hD hS C.2.2.2.2.2.2.2.1)⟩
  have hstk : st.map (cvV ad) = (As.map (cvV ad)).reverse ++ Value.ref (ad b) :: rest.map (cvV ad) := by rw [← hst]; simp [cvV]
  have hW : 2 * (F0 κ.m pc ls (st.map (cvV ad))).monitorRoom + ((rest.map (cvV ad)).map fun v => v.category).sum ≤ 8 := by
    rw [cats]; exact lv_room hrest
  rcases lk with h1 | ⟨host, h1⟩
  · exact x_afterA (va_runV ⟨C.1, C.2.1, C.2.2.1, C.2.2.2.1, hU⟩ (hM ad H.size) ⟨callB_of n hU hG rfl rfl rfl (hU _ hini) (hU _ h1) ⟨hy1, hy2, hy3⟩ hR, hU _ hinst, hU _ hsel⟩ ⟨Pr.blind, hrecv, hPre⟩ rfl (by rw [List.length_map]; exact hn) hl.1 hstk hW hd hc) hl hP hD hS C.2.2.2.2.2.2.2.1 hlo hok k
  · exact x_afterA (va_runVN ⟨C.1, C.2.1, C.2.2.1, C.2.2.2.1, hU⟩ (hM ad H.size) ⟨va_cnB n hU hG rfl rfl rfl (va_Nw.of rfl (hU _ h1)) (hU _ hini) ⟨hy1, hy2, hy3⟩ hR, hU _ hinst, hU _ hsel⟩ ⟨Pr.blind, hrecv, hPre⟩ rfl (by rw [List.length_map]; exact hn) hl.1 hstk hW hd hc) hl hP hD hS C.2.2.2.2.2.2.2.1 hlo hok k
def MI (y : MethodName) (cc : ByteArray) (nL : Nat) (n : Nat) : Prop := MW y cc nL none n ∧ Cond.instanceMethod y ∈ TB ∧ y.name = "<init>"
theorem x_callIA (C : Cx κ nL lev cc own mnm) (Z : Zx κ (N, ad, c, s)) {y : MethodName} {cc' : ByteArray} {nL' : Nat} {lev' mc ms n idx b : Nat} {As rest st : List Value} (mv : MI y cc' nL' n) (lk : LK own idx y) (hM : CtA κ.l κ.D κ.cy y cc' nL' none lev' mc ms (.ref b :: As) N σ Post) (hlev : lev' < lev) (hn : As.length = n) (hst : As.reverse ++ .ref b :: rest = st) (hrest : (rest.map fun v => v.category).sum ≤ 8) (hlo : okO N lo) (hok : okL N rest)
    (hc : c + mc ≤ κ.R.cells ∧ s + ms ≤ κ.R.slots) (hd : decode cc pc = .ok (.invokespecial idx, 3)) (k : ∀ (v : Option Value) (N' : Nat) (ad' : Nat → Nat) (σ' : Hp), Post v N' σ' → N ≤ N' → (∀ i, i < N ∨ N' ≤ i → ad' i = ad i) → X κ nL (N', ad', c + mc, s + ms) (pc + 3) lo (v.toList ++ rest) σ') : X κ nL (N, ad, c, s) pc lo st σ := by
  intro H locs ls hl hP hD hS
  have hU : ∀ w ∈ TB, w.before κ.args κ.s = true := fun w h => C.2.2.2.2.1 w h _
  obtain ⟨⟨hcode, hini, ⟨hy1, hy2, hy3⟩, hnl⟩, hinst, hnm⟩ := mv
  have hG : GoodIn TB [Cond.code y cc' nL' none] := fun w hw => by
    rw [List.mem_singleton.mp hw]; exact ⟨hcode, good_of_word (by first | rfl | exact (List.mem_filter.mp hcode).2)⟩
  have hR : (rmA lev' mc ms).frames + 1 ≤ κ.R.frames ∧ 8 + (nL' + 11) + (rmA lev' mc ms).locals ≤ κ.R.locals := by
    obtain ⟨h1, h2⟩ := C.2.2.2.2.2.2.2.2.1
    constructor
    · show lev' + 1 ≤ _; omega
    · show 8 + (nL' + 11) + 40 * lev' ≤ _; omega
  have hPre : ∀ U : State, U.heap = H → κ.s.WarmedH U.vm → Pr κ.l κ.D κ.cy (.ref b :: As) N ad σ H.size (Value.ref (ad b) :: As.map (cvV ad)).toArray U := fun U hUH hW => ⟨rfl, by rw [hUH], C.2.2.2.2.1.warm hW, va_K.moved hW.alike C.2.2.2.2.2.1, by rw [hUH]; exact hP, hD.weaken (fun _ _ _ _ => trivial), Z.2.1, Z.2.2.call hS hUH hW.alike (wl_F hD hS C.2.2.2.2.2.2.2.1)⟩
  have hstk : st.map (cvV ad) = (As.map (cvV ad)).reverse ++ Value.ref (ad b) :: rest.map (cvV ad) := by rw [← hst]; simp [cvV]
  have hW : 2 * (F0 κ.m pc ls (st.map (cvV ad))).monitorRoom + ((rest.map (cvV ad)).map fun v => v.category).sum ≤ 8 := by
    rw [cats]; exact lv_room hrest
  rcases lk with h1 | ⟨host, h1⟩
  · exact x_afterA (va_runI ⟨C.1, C.2.1, C.2.2.1, C.2.2.2.1, hU⟩ (hM ad H.size) ⟨callB_of n hU hG rfl rfl rfl (hU _ hini) (hU _ h1) ⟨hy1, hy2, hy3⟩ hR, hnm, hU _ hinst⟩ ⟨Pr.blind, hPre⟩ rfl (by rw [List.length_map]; exact hn) hl.1 hstk hW hd hc) hl hP hD hS C.2.2.2.2.2.2.2.1 hlo hok k
  · exact x_afterA (va_runIN ⟨C.1, C.2.1, C.2.2.1, C.2.2.2.1, hU⟩ (hM ad H.size) ⟨va_cnB n hU hG rfl rfl rfl (va_Nw.of rfl (hU _ h1)) (hU _ hini) ⟨hy1, hy2, hy3⟩ hR, hnm, hU _ hinst⟩ ⟨Pr.blind, hPre⟩ rfl (by rw [List.length_map]; exact hn) hl.1 hstk hW hd hc) hl hP hD hS C.2.2.2.2.2.2.2.1 hlo hok k
end CallsA
/-! the same rows with what stays of the room and of the elder cells -/
def refsL : List Value → List Nat
  | [] => []
  | .ref i :: vs => i :: refsL vs
  | _ :: vs => refsL vs
def refsO : List (Option Value) → List Nat
  | [] => []
  | some (.ref i) :: vs => i :: refsO vs
  | _ :: vs => refsO vs
theorem okL_of {N : Nat} : ∀ {st : List Value}, (∀ x ∈ refsL st, x < N) → okL N st := by
  intro st
  induction st with
  | nil => intro _; trivial
  | cons v vs ih =>
    intro h
    cases v <;> first | exact ⟨trivial, ih h⟩ | exact ⟨h _ List.mem_cons_self, ih (fun x hx => h x (List.mem_cons_of_mem _ hx))⟩
theorem okO_of {N : Nat} : ∀ {lo : List (Option Value)}, (∀ x ∈ refsO lo, x < N) → okO N lo := by
  intro lo
  induction lo with
  | nil => intro _; trivial
  | cons o os ih =>
    intro h
    cases o with
    | none => exact ih h
    | some v => cases v <;> first | exact ⟨trivial, ih h⟩ | exact ⟨h _ List.mem_cons_self, ih (fun x hx => h x (List.mem_cons_of_mem _ hx))⟩
noncomputable def al (N : Nat) (σ : Hp) (l : List Nat) (c s mc ms : Nat) : Option Unit := @ite _ (HW N σ ∧ (∀ x ∈ l, x < N) ∧ N < 1000000 ∧ c ≤ mc ∧ s ≤ ms) (Classical.propDecidable _) (some ()) none
theorem al_spec {N : Nat} {σ : Hp} {l : List Nat} {c s mc ms : Nat} {u : Unit} (h : al N σ l c s mc ms = some u) : HW N σ ∧ (∀ x ∈ l, x < N) ∧ N < 1000000 ∧ c ≤ mc ∧ s ≤ ms := by
  unfold al at h
  split at h
  case isTrue hc => exact hc
  case isFalse => cases h
theorem al_of {N : Nat} {σ : Hp} {l : List Nat} {c s mc ms : Nat} (h : HW N σ) (h1 : ∀ x ∈ l, x < N) (h2 : N < 1000000) (h3 : c ≤ mc) (h4 : s ≤ ms) : al N σ l c s mc ms = some () := by
  unfold al
  rw [if_pos ⟨h, h1, h2, h3, h4⟩]
def mkc (σ : Hp) (N : Nat) (c : va_E) : Option Hp := some (va_up σ N c)
def nb (N : Nat) : Option Unit := if N ≤ 1000000 then some () else none
theorem nb_spec {N : Nat} {u : Unit} (h : nb N = some u) : N ≤ 1000000 := by
  unfold nb at h
  split at h
  case isTrue hc => exact hc
  case isFalse => cases h
section MakeG
variable {κ : Kx} {nL lev : Nat} {cc : ByteArray} {own mnm : String} {N : Nat} {ad : Nat → Nat} {c s : Nat} {pc : Nat} {lo : List (Option Value)} {st : List Value} {σ : Hp} {N0 mc ms : Nat} {ad0 : Nat → Nat} {l : List Nat} {u : Unit}
theorem up_ag (ad : Nat → Nat) (N q : Nat) : ∀ i, i < N ∨ N + 1 ≤ i → va_up ad N q i = ad i := fun i hi => by rw [va_up, if_neg (by omega)]
theorem Zx.on {c' s' N' : Nat} {ad' : Nat → Nat} (Z : Zx κ (N, ad, c, s)) (h1 : c' ≤ κ.R.cells) (h2 : s' ≤ κ.R.slots) (hN : N' ≤ 1000000) (had : ∀ i, i < N ∨ N' ≤ i → ad' i = ad i) : Zx κ (N', ad', c', s') := ⟨⟨h1, h2⟩, Z.2.1.on hN had, Z.2.2⟩
theorem g_new (C : Cx κ nL lev cc own mnm) (Z : Zx κ (N, ad, c, s)) (G : Ag N0 ad0 (N, ad, c, s)) (hRc : κ.R.cells = mc) (hRs : κ.R.slots = ms) {idx ci n : Nat} {fs : List Value} (nw : NW own idx ci n fs) (ha : al N σ l (c + 1) (s + n) mc ms = some u) (hl : refsO lo ++ refsL st = l) {S : Hp} (hm : mkc σ N (.inr (ci, fs)) = some S) (hd : decode cc pc = .ok (.new idx, 3)) (k : ∀ ad', Zx κ (N + 1, ad', c + 1, s + n) → Ag N0 ad0 (N + 1, ad', c + 1, s + n) → X κ nL (N + 1, ad', c + 1, s + n) (pc + 3) lo (.ref N :: st) S) : X κ nL (N, ad, c, s) pc lo st σ := by
  obtain ⟨hW, h1, h2, h3, h4⟩ := al_spec ha
  subst hl
  obtain rfl := Option.some.inj hm
  exact x_new C nw hW ⟨by omega, by omega⟩ (okO_of (fun x hx => h1 x (List.mem_append_left _ hx))) (okL_of (fun x hx => h1 x (List.mem_append_right _ hx))) hd (fun q => k _ (Z.on (by omega) (by omega) (by omega) (up_ag ad N q)) (G.new q))
theorem g_newI (C : Cx κ nL lev cc own mnm) (Z : Zx κ (N, ad, c, s)) (G : Ag N0 ad0 (N, ad, c, s)) (hRc : κ.R.cells = mc) (hRs : κ.R.slots = ms) (n : Nat) {x : Int32} (hw : Cond.arrayClass .int ∈ TB) (hn : ¬ x < 0) (hN : x.toNatClampNeg = n) (hb : n ≤ 9000) (ha : al N σ l (c + 1) (s + n) mc ms = some u) (hl : refsO lo ++ refsL st = l) {S : Hp} (hm : mkc σ N (.inl (0, n, .inl (fun _ => 0))) = some S) (hd : decode cc pc = .ok (.newarray .int, 2)) (k : ∀ ad', Zx κ (N + 1, ad', c + 1, s + n) → Ag N0 ad0 (N + 1, ad', c + 1, s + n) → X κ nL (N + 1, ad', c + 1, s + n) (pc + 2) lo (.ref N :: st) S) : X κ nL (N, ad, c, s) pc lo (.int x :: st) σ := by
  obtain ⟨hW, h1, h2, h3, h4⟩ := al_spec ha
  subst hl
  obtain rfl := Option.some.inj hm
  exact x_newI C n hw hn hN (by omega) hW ⟨by omega, by omega⟩ (okO_of (fun x hx => h1 x (List.mem_append_left _ hx))) (okL_of (fun x hx => h1 x (List.mem_append_right _ hx))) hd (fun q => k _ (Z.on (by omega) (by omega) (by omega) (up_ag ad N q)) (G.new q))
theorem g_newJ (C : Cx κ nL lev cc own mnm) (Z : Zx κ (N, ad, c, s)) (G : Ag N0 ad0 (N, ad, c, s)) (hRc : κ.R.cells = mc) (hRs : κ.R.slots = ms) (n : Nat) {x : Int32} (hw : Cond.arrayClass .long ∈ TB) (hn : ¬ x < 0) (hN : x.toNatClampNeg = n) (hb : n ≤ 9000) (ha : al N σ l (c + 1) (s + n) mc ms = some u) (hl : refsO lo ++ refsL st = l) {S : Hp} (hm : mkc σ N (.inl (1, n, .inr (.inl (fun _ => 0)))) = some S) (hd : decode cc pc = .ok (.newarray .long, 2)) (k : ∀ ad', Zx κ (N + 1, ad', c + 1, s + n) → Ag N0 ad0 (N + 1, ad', c + 1, s + n) → X κ nL (N + 1, ad', c + 1, s + n) (pc + 2) lo (.ref N :: st) S) : X κ nL (N, ad, c, s) pc lo (.int x :: st) σ := by
  obtain ⟨hW, h1, h2, h3, h4⟩ := al_spec ha
  subst hl
  obtain rfl := Option.some.inj hm
  exact x_newJ C n hw hn hN (by omega) hW ⟨by omega, by omega⟩ (okO_of (fun x hx => h1 x (List.mem_append_left _ hx))) (okL_of (fun x hx => h1 x (List.mem_append_right _ hx))) hd (fun q => k _ (Z.on (by omega) (by omega) (by omega) (up_ag ad N q)) (G.new q))
theorem g_newB (C : Cx κ nL lev cc own mnm) (Z : Zx κ (N, ad, c, s)) (G : Ag N0 ad0 (N, ad, c, s)) (hRc : κ.R.cells = mc) (hRs : κ.R.slots = ms) (n : Nat) {x : Int32} (hw : Cond.arrayClass .byte ∈ TB) (hn : ¬ x < 0) (hN : x.toNatClampNeg = n) (hb : n ≤ 9000) (ha : al N σ l (c + 1) (s + n) mc ms = some u) (hl : refsO lo ++ refsL st = l) {S : Hp} (hm : mkc σ N (.inl (2, n, .inl (fun _ => 0))) = some S) (hd : decode cc pc = .ok (.newarray .byte, 2)) (k : ∀ ad', Zx κ (N + 1, ad', c + 1, s + n) → Ag N0 ad0 (N + 1, ad', c + 1, s + n) → X κ nL (N + 1, ad', c + 1, s + n) (pc + 2) lo (.ref N :: st) S) : X κ nL (N, ad, c, s) pc lo (.int x :: st) σ := by
  obtain ⟨hW, h1, h2, h3, h4⟩ := al_spec ha
  subst hl
  obtain rfl := Option.some.inj hm
  exact x_newB C n hw hn hN (by omega) hW ⟨by omega, by omega⟩ (okO_of (fun x hx => h1 x (List.mem_append_left _ hx))) (okL_of (fun x hx => h1 x (List.mem_append_right _ hx))) hd (fun q => k _ (Z.on (by omega) (by omega) (by omega) (up_ag ad N q)) (G.new q))
theorem g_newZ (C : Cx κ nL lev cc own mnm) (Z : Zx κ (N, ad, c, s)) (G : Ag N0 ad0 (N, ad, c, s)) (hRc : κ.R.cells = mc) (hRs : κ.R.slots = ms) (n : Nat) {x : Int32} (hw : Cond.arrayClass .boolean ∈ TB) (hn : ¬ x < 0) (hN : x.toNatClampNeg = n) (hb : n ≤ 9000) (ha : al N σ l (c + 1) (s + n) mc ms = some u) (hl : refsO lo ++ refsL st = l) {S : Hp} (hm : mkc σ N (.inl (3, n, .inl (fun _ => 0))) = some S) (hd : decode cc pc = .ok (.newarray .boolean, 2)) (k : ∀ ad', Zx κ (N + 1, ad', c + 1, s + n) → Ag N0 ad0 (N + 1, ad', c + 1, s + n) → X κ nL (N + 1, ad', c + 1, s + n) (pc + 2) lo (.ref N :: st) S) : X κ nL (N, ad, c, s) pc lo (.int x :: st) σ := by
  obtain ⟨hW, h1, h2, h3, h4⟩ := al_spec ha
  subst hl
  obtain rfl := Option.some.inj hm
  exact x_newZ C n hw hn hN (by omega) hW ⟨by omega, by omega⟩ (okO_of (fun x hx => h1 x (List.mem_append_left _ hx))) (okL_of (fun x hx => h1 x (List.mem_append_right _ hx))) hd (fun q => k _ (Z.on (by omega) (by omega) (by omega) (up_ag ad N q)) (G.new q))
theorem g_newQ (C : Cx κ nL lev cc own mnm) (Z : Zx κ (N, ad, c, s)) (G : Ag N0 ad0 (N, ad, c, s)) (hRc : κ.R.cells = mc) (hRs : κ.R.slots = ms) (n tag : Nat) {idx : Nat} {x : Int32} {cn : String} (htag : (tyL κ.cy)[tag]? = some (κ.cy tag, .object cn)) (h1' : Cond.classLink own idx cn ∈ TB) (h2' : Cond.arrayOver (.object cn) ∈ TB) (hn : ¬ x < 0) (hN : x.toNatClampNeg = n) (hb : n ≤ 9000) (ha : al N σ l (c + 1) (s + n) mc ms = some u) (hl : refsO lo ++ refsL st = l) {S : Hp} (hm : mkc σ N (.inl (tag, n, .inr (.inr (.inr (.inr (fun _ => none)))))) = some S) (hd : decode cc pc = .ok (.anewarray idx, 3)) (k : ∀ ad', Zx κ (N + 1, ad', c + 1, s + n) → Ag N0 ad0 (N + 1, ad', c + 1, s + n) → X κ nL (N + 1, ad', c + 1, s + n) (pc + 3) lo (.ref N :: st) S) : X κ nL (N, ad, c, s) pc lo (.int x :: st) σ := by
  obtain ⟨hW, h1, h2, h3, h4⟩ := al_spec ha
  subst hl
  obtain rfl := Option.some.inj hm
  exact x_newQ C htag h1' h2' hn hN (by omega) hW ⟨by omega, by omega⟩ (okO_of (fun x hx => h1 x (List.mem_append_left _ hx))) (okL_of (fun x hx => h1 x (List.mem_append_right _ hx))) hd (fun q => k _ (Z.on (by omega) (by omega) (by omega) (up_ag ad N q)) (G.new q))
theorem g_callVr (C : Cx κ nL lev cc own mnm) (Z : Zx κ (N, ad, c, s)) (G : Ag N0 ad0 (N, ad, c, s)) (hRc : κ.R.cells = mc) (hRs : κ.R.slots = ms) {y : MethodName} {cc' : ByteArray} {nL' : Nat} {ret : Option FieldType} {lev' mc' ms' n idx ci b N' : Nat} {As rest : List Value} {V : Value} {S : Hp} {u' : Unit} (mv : MV ci y cc' nL' ret n) (lk : LK own idx y) (hb : ∃ fs, b < N ∧ σ b = .inr (ci, fs)) (hM : CtA κ.l κ.D κ.cy y cc' nL' ret lev' mc' ms' (.ref b :: As) N σ (fun v n' s' => v = some V ∧ n' = N' ∧ s' = S)) (hlev : lev' < lev) (hn : As.length = n) (hst : As.reverse ++ .ref b :: rest = st) (hrest : (rest.map fun v => v.category).sum ≤ 8) (ha : al N σ l (c + mc') (s + ms') mc ms = some u) (hl : refsO lo ++ refsL rest = l) (hN' : nb N' = some u')
    (hd : decode cc pc = .ok (.invokevirtual idx, 3)) (k : ∀ ad', Zx κ (N', ad', c + mc', s + ms') → Ag N0 ad0 (N', ad', c + mc', s + ms') → X κ nL (N', ad', c + mc', s + ms') (pc + 3) lo (V :: rest) S) : X κ nL (N, ad, c, s) pc lo st σ := by
  obtain ⟨hW, h1, h2, h3, h4⟩ := al_spec ha
  subst hl
  refine x_callVA C Z mv lk hb hM hlev hn hst hrest (okO_of (fun x hx => h1 x (List.mem_append_left _ hx))) (okL_of (fun x hx => h1 x (List.mem_append_right _ hx))) ⟨by omega, by omega⟩ hd (fun v n' ad' σ' hp hle had => ?_)
  obtain ⟨rfl, rfl, rfl⟩ := hp
  exact k ad' (Z.on (by omega) (by omega) (nb_spec hN') had) (G.on hle had)
theorem g_callI (C : Cx κ nL lev cc own mnm) (Z : Zx κ (N, ad, c, s)) (G : Ag N0 ad0 (N, ad, c, s)) (hRc : κ.R.cells = mc) (hRs : κ.R.slots = ms) {y : MethodName} {cc' : ByteArray} {nL' : Nat} {lev' mc' ms' n idx b N' : Nat} {As rest : List Value} {S : Hp} {u' : Unit} (mv : MI y cc' nL' n) (lk : LK own idx y) (hM : CtA κ.l κ.D κ.cy y cc' nL' none lev' mc' ms' (.ref b :: As) N σ (fun v n' s' => v = none ∧ n' = N' ∧ s' = S)) (hlev : lev' < lev) (hn : As.length = n) (hst : As.reverse ++ .ref b :: rest = st) (hrest : (rest.map fun v => v.category).sum ≤ 8) (ha : al N σ l (c + mc') (s + ms') mc ms = some u) (hl : refsO lo ++ refsL rest = l) (hN' : nb N' = some u')
    (hd : decode cc pc = .ok (.invokespecial idx, 3)) (k : ∀ ad', Zx κ (N', ad', c + mc', s + ms') → Ag N0 ad0 (N', ad', c + mc', s + ms') → X κ nL (N', ad', c + mc', s + ms') (pc + 3) lo rest S) : X κ nL (N, ad, c, s) pc lo st σ := by
  obtain ⟨hW, h1, h2, h3, h4⟩ := al_spec ha
  subst hl
  refine x_callIA C Z mv lk hM hlev hn hst hrest (okO_of (fun x hx => h1 x (List.mem_append_left _ hx))) (okL_of (fun x hx => h1 x (List.mem_append_right _ hx))) ⟨by omega, by omega⟩ hd (fun v n' ad' σ' hp hle had => ?_)
  obtain ⟨rfl, rfl, rfl⟩ := hp
  exact k ad' (Z.on (by omega) (by omega) (nb_spec hN') had) (G.on hle had)
theorem g_wide {c' s' : Nat} (Z : Zx κ (N, ad, c, s)) (G : Ag N0 ad0 (N, ad, c, s)) (hRc : κ.R.cells = mc) (hRs : κ.R.slots = ms) (h1 : c ≤ c' ∧ s ≤ s') (h2 : c' ≤ mc ∧ s' ≤ ms) (k : Zx κ (N, ad, c', s') → Ag N0 ad0 (N, ad, c', s') → X κ nL (N, ad, c', s') pc lo st σ) : X κ nL (N, ad, c, s) pc lo st σ := by
  intro H locs ls hl hP hD hS
  exact W.widen h1.1 h1.2 (k ⟨⟨by show c' ≤ _; omega, by show s' ≤ _; omega⟩, Z.2.1, Z.2.2⟩ ⟨G.1, G.2⟩ H locs ls hl hP hD hS)
end MakeG
end
section
theorem ci0 : CI 0 RX0 TX0 3 tyX0 := ⟨rfl, by decide +kernel, tyX0_ok, nmX0⟩
theorem ci1 : CI 1 RX1 TX1 6 tyX1 := ⟨rfl, by decide +kernel, tyX1_ok, nmX1⟩
theorem ci2 : CI 2 RX2 TX2 6 tyX2 := ⟨rfl, by decide +kernel, tyX2_ok, nmX2⟩
theorem ci3 : CI 3 RX3 TX3 4 tyX3 := ⟨rfl, by decide +kernel, tyX3_ok, nmX3⟩
theorem ci4 : CI 4 RX4 TX4 3 tyX4 := ⟨rfl, by decide +kernel, tyX4_ok, nmX4⟩
theorem ci5 : CI 5 RX5 TX5 3 tyX5 := ⟨rfl, by decide +kernel, tyX5_ok, nmX5⟩
theorem ci6 : CI 6 RX6 TX6 11 tyX6 := ⟨rfl, by decide +kernel, tyX6_ok, nmX6⟩
theorem ci7 : CI 7 RX7 TX7 5 tyX7 := ⟨rfl, by decide +kernel, tyX7_ok, nmX7⟩
theorem ci8 : CI 8 RX8 TX8 12 tyX8 := ⟨rfl, by decide +kernel, tyX8_ok, nmX8⟩
theorem ci9 : CI 9 RX9 TX9 24 tyX9 := ⟨rfl, by decide +kernel, tyX9_ok, nmX9⟩
theorem lk_L_9 : LK RL 9 yX8_init := Or.inl (List.mem_filter.mpr ⟨List.mem_of_getElem? (i := 134) (by decide +kernel), by decide +kernel⟩)
theorem lk_X8_17 : LK RX8 17 yX7_init := Or.inr ⟨RX8, List.mem_filter.mpr ⟨List.mem_of_getElem? (i := 144) (by decide +kernel), by decide +kernel⟩⟩
theorem fl_X7_9 : FL RX7 9 7 0 := ⟨_, _, _, _, ci7, by decide, Or.inl (List.mem_filter.mpr ⟨List.mem_of_getElem? (i := 148) (by decide +kernel), by decide +kernel⟩)⟩
theorem pf_X7_9 : PF RX7 9 7 0 (tyX7 0) := ⟨_, _, _, _, ci7, by decide, List.mem_filter.mpr ⟨List.mem_of_getElem? (i := 148) (by decide +kernel), by decide +kernel⟩, by decide +kernel, by decide +kernel, tyX7_ok 0 (by decide)⟩
theorem fl_X7_15 : FL RX7 15 7 1 := ⟨_, _, _, _, ci7, by decide, Or.inl (List.mem_filter.mpr ⟨List.mem_of_getElem? (i := 149) (by decide +kernel), by decide +kernel⟩)⟩
theorem pl_X7_15 : PL RX7 15 7 1 (tyX7 1) := ⟨_, _, _, _, ci7, by decide, Or.inl (List.mem_filter.mpr ⟨List.mem_of_getElem? (i := 149) (by decide +kernel), by decide +kernel⟩), by decide +kernel, tyX7_ok 1 (by decide)⟩
theorem fl_X8_100 : FL RX8 100 7 1 := ⟨_, _, _, _, ci7, by decide, Or.inr ⟨RX8, List.mem_filter.mpr ⟨List.mem_of_getElem? (i := 150) (by decide +kernel), by decide +kernel⟩⟩⟩
theorem pl_X8_100 : PL RX8 100 7 1 (tyX7 1) := ⟨_, _, _, _, ci7, by decide, Or.inr ⟨RX8, List.mem_filter.mpr ⟨List.mem_of_getElem? (i := 150) (by decide +kernel), by decide +kernel⟩⟩, by decide +kernel, tyX7_ok 1 (by decide)⟩
theorem fl_X7_19 : FL RX7 19 7 2 := ⟨_, _, _, _, ci7, by decide, Or.inl (List.mem_filter.mpr ⟨List.mem_of_getElem? (i := 151) (by decide +kernel), by decide +kernel⟩)⟩
theorem pl_X7_19 : PL RX7 19 7 2 (tyX7 2) := ⟨_, _, _, _, ci7, by decide, Or.inl (List.mem_filter.mpr ⟨List.mem_of_getElem? (i := 151) (by decide +kernel), by decide +kernel⟩), by decide +kernel, tyX7_ok 2 (by decide)⟩
theorem fl_X8_115 : FL RX8 115 7 2 := ⟨_, _, _, _, ci7, by decide, Or.inr ⟨RX8, List.mem_filter.mpr ⟨List.mem_of_getElem? (i := 152) (by decide +kernel), by decide +kernel⟩⟩⟩
theorem pl_X8_115 : PL RX8 115 7 2 (tyX7 2) := ⟨_, _, _, _, ci7, by decide, Or.inr ⟨RX8, List.mem_filter.mpr ⟨List.mem_of_getElem? (i := 152) (by decide +kernel), by decide +kernel⟩⟩, by decide +kernel, tyX7_ok 2 (by decide)⟩
theorem fl_X8_108 : FL RX8 108 7 3 := ⟨_, _, _, _, ci7, by decide, Or.inr ⟨RX8, List.mem_filter.mpr ⟨List.mem_of_getElem? (i := 153) (by decide +kernel), by decide +kernel⟩⟩⟩
theorem pl_X8_108 : PL RX8 108 7 3 (tyX7 3) := ⟨_, _, _, _, ci7, by decide, Or.inr ⟨RX8, List.mem_filter.mpr ⟨List.mem_of_getElem? (i := 153) (by decide +kernel), by decide +kernel⟩⟩, by decide +kernel, tyX7_ok 3 (by decide)⟩
theorem fl_X7_74 : FL RX7 74 7 3 := ⟨_, _, _, _, ci7, by decide, Or.inl (List.mem_filter.mpr ⟨List.mem_of_getElem? (i := 154) (by decide +kernel), by decide +kernel⟩)⟩
theorem pl_X7_74 : PL RX7 74 7 3 (tyX7 3) := ⟨_, _, _, _, ci7, by decide, Or.inl (List.mem_filter.mpr ⟨List.mem_of_getElem? (i := 154) (by decide +kernel), by decide +kernel⟩), by decide +kernel, tyX7_ok 3 (by decide)⟩
theorem fl_X7_42 : FL RX7 42 7 4 := ⟨_, _, _, _, ci7, by decide, Or.inl (List.mem_filter.mpr ⟨List.mem_of_getElem? (i := 155) (by decide +kernel), by decide +kernel⟩)⟩
theorem pl_X7_42 : PL RX7 42 7 4 (tyX7 4) := ⟨_, _, _, _, ci7, by decide, Or.inl (List.mem_filter.mpr ⟨List.mem_of_getElem? (i := 155) (by decide +kernel), by decide +kernel⟩), by decide +kernel, tyX7_ok 4 (by decide)⟩
theorem lk_X8_24 : LK RX8 24 yX2_init := Or.inr ⟨RX8, List.mem_filter.mpr ⟨List.mem_of_getElem? (i := 170) (by decide +kernel), by decide +kernel⟩⟩
theorem fl_X2_9 : FL RX2 9 2 0 := ⟨_, _, _, _, ci2, by decide, Or.inl (List.mem_filter.mpr ⟨List.mem_of_getElem? (i := 174) (by decide +kernel), by decide +kernel⟩)⟩
theorem pl_X2_9 : PL RX2 9 2 0 (tyX2 0) := ⟨_, _, _, _, ci2, by decide, Or.inl (List.mem_filter.mpr ⟨List.mem_of_getElem? (i := 174) (by decide +kernel), by decide +kernel⟩), by decide +kernel, tyX2_ok 0 (by decide)⟩
theorem fl_X7_45 : FL RX7 45 2 0 := ⟨_, _, _, _, ci2, by decide, Or.inr ⟨RX8, List.mem_filter.mpr ⟨List.mem_of_getElem? (i := 175) (by decide +kernel), by decide +kernel⟩⟩⟩
theorem pl_X7_45 : PL RX7 45 2 0 (tyX2 0) := ⟨_, _, _, _, ci2, by decide, Or.inr ⟨RX8, List.mem_filter.mpr ⟨List.mem_of_getElem? (i := 175) (by decide +kernel), by decide +kernel⟩⟩, by decide +kernel, tyX2_ok 0 (by decide)⟩
theorem fl_X8_271 : FL RX8 271 2 0 := ⟨_, _, _, _, ci2, by decide, Or.inr ⟨RX8, List.mem_filter.mpr ⟨List.mem_of_getElem? (i := 176) (by decide +kernel), by decide +kernel⟩⟩⟩
theorem pl_X8_271 : PL RX8 271 2 0 (tyX2 0) := ⟨_, _, _, _, ci2, by decide, Or.inr ⟨RX8, List.mem_filter.mpr ⟨List.mem_of_getElem? (i := 176) (by decide +kernel), by decide +kernel⟩⟩, by decide +kernel, tyX2_ok 0 (by decide)⟩
theorem fl_X2_15 : FL RX2 15 2 1 := ⟨_, _, _, _, ci2, by decide, Or.inl (List.mem_filter.mpr ⟨List.mem_of_getElem? (i := 177) (by decide +kernel), by decide +kernel⟩)⟩
theorem pl_X2_15 : PL RX2 15 2 1 (tyX2 1) := ⟨_, _, _, _, ci2, by decide, Or.inl (List.mem_filter.mpr ⟨List.mem_of_getElem? (i := 177) (by decide +kernel), by decide +kernel⟩), by decide +kernel, tyX2_ok 1 (by decide)⟩
theorem fl_X7_61 : FL RX7 61 2 1 := ⟨_, _, _, _, ci2, by decide, Or.inr ⟨RX8, List.mem_filter.mpr ⟨List.mem_of_getElem? (i := 178) (by decide +kernel), by decide +kernel⟩⟩⟩
theorem pl_X7_61 : PL RX7 61 2 1 (tyX2 1) := ⟨_, _, _, _, ci2, by decide, Or.inr ⟨RX8, List.mem_filter.mpr ⟨List.mem_of_getElem? (i := 178) (by decide +kernel), by decide +kernel⟩⟩, by decide +kernel, tyX2_ok 1 (by decide)⟩
theorem fl_X8_124 : FL RX8 124 2 1 := ⟨_, _, _, _, ci2, by decide, Or.inr ⟨RX8, List.mem_filter.mpr ⟨List.mem_of_getElem? (i := 179) (by decide +kernel), by decide +kernel⟩⟩⟩
theorem pl_X8_124 : PL RX8 124 2 1 (tyX2 1) := ⟨_, _, _, _, ci2, by decide, Or.inr ⟨RX8, List.mem_filter.mpr ⟨List.mem_of_getElem? (i := 179) (by decide +kernel), by decide +kernel⟩⟩, by decide +kernel, tyX2_ok 1 (by decide)⟩
theorem fl_X2_18 : FL RX2 18 2 2 := ⟨_, _, _, _, ci2, by decide, Or.inl (List.mem_filter.mpr ⟨List.mem_of_getElem? (i := 180) (by decide +kernel), by decide +kernel⟩)⟩
theorem pl_X2_18 : PL RX2 18 2 2 (tyX2 2) := ⟨_, _, _, _, ci2, by decide, Or.inl (List.mem_filter.mpr ⟨List.mem_of_getElem? (i := 180) (by decide +kernel), by decide +kernel⟩), by decide +kernel, tyX2_ok 2 (by decide)⟩
theorem fl_X7_48 : FL RX7 48 2 2 := ⟨_, _, _, _, ci2, by decide, Or.inr ⟨RX8, List.mem_filter.mpr ⟨List.mem_of_getElem? (i := 181) (by decide +kernel), by decide +kernel⟩⟩⟩
theorem pl_X7_48 : PL RX7 48 2 2 (tyX2 2) := ⟨_, _, _, _, ci2, by decide, Or.inr ⟨RX8, List.mem_filter.mpr ⟨List.mem_of_getElem? (i := 181) (by decide +kernel), by decide +kernel⟩⟩, by decide +kernel, tyX2_ok 2 (by decide)⟩
theorem fl_X8_159 : FL RX8 159 2 2 := ⟨_, _, _, _, ci2, by decide, Or.inr ⟨RX8, List.mem_filter.mpr ⟨List.mem_of_getElem? (i := 182) (by decide +kernel), by decide +kernel⟩⟩⟩
theorem pl_X8_159 : PL RX8 159 2 2 (tyX2 2) := ⟨_, _, _, _, ci2, by decide, Or.inr ⟨RX8, List.mem_filter.mpr ⟨List.mem_of_getElem? (i := 182) (by decide +kernel), by decide +kernel⟩⟩, by decide +kernel, tyX2_ok 2 (by decide)⟩
theorem fl_X2_21 : FL RX2 21 2 3 := ⟨_, _, _, _, ci2, by decide, Or.inl (List.mem_filter.mpr ⟨List.mem_of_getElem? (i := 183) (by decide +kernel), by decide +kernel⟩)⟩
theorem pl_X2_21 : PL RX2 21 2 3 (tyX2 3) := ⟨_, _, _, _, ci2, by decide, Or.inl (List.mem_filter.mpr ⟨List.mem_of_getElem? (i := 183) (by decide +kernel), by decide +kernel⟩), by decide +kernel, tyX2_ok 3 (by decide)⟩
theorem fl_X4_47 : FL RX4 47 2 3 := ⟨_, _, _, _, ci2, by decide, Or.inr ⟨RX8, List.mem_filter.mpr ⟨List.mem_of_getElem? (i := 184) (by decide +kernel), by decide +kernel⟩⟩⟩
theorem pl_X4_47 : PL RX4 47 2 3 (tyX2 3) := ⟨_, _, _, _, ci2, by decide, Or.inr ⟨RX8, List.mem_filter.mpr ⟨List.mem_of_getElem? (i := 184) (by decide +kernel), by decide +kernel⟩⟩, by decide +kernel, tyX2_ok 3 (by decide)⟩
theorem fl_X8_134 : FL RX8 134 2 3 := ⟨_, _, _, _, ci2, by decide, Or.inr ⟨RX8, List.mem_filter.mpr ⟨List.mem_of_getElem? (i := 185) (by decide +kernel), by decide +kernel⟩⟩⟩
theorem pl_X8_134 : PL RX8 134 2 3 (tyX2 3) := ⟨_, _, _, _, ci2, by decide, Or.inr ⟨RX8, List.mem_filter.mpr ⟨List.mem_of_getElem? (i := 185) (by decide +kernel), by decide +kernel⟩⟩, by decide +kernel, tyX2_ok 3 (by decide)⟩
theorem fl_X2_24 : FL RX2 24 2 4 := ⟨_, _, _, _, ci2, by decide, Or.inl (List.mem_filter.mpr ⟨List.mem_of_getElem? (i := 186) (by decide +kernel), by decide +kernel⟩)⟩
theorem pl_X2_24 : PL RX2 24 2 4 (tyX2 4) := ⟨_, _, _, _, ci2, by decide, Or.inl (List.mem_filter.mpr ⟨List.mem_of_getElem? (i := 186) (by decide +kernel), by decide +kernel⟩), by decide +kernel, tyX2_ok 4 (by decide)⟩
theorem fl_X2_27 : FL RX2 27 2 5 := ⟨_, _, _, _, ci2, by decide, Or.inl (List.mem_filter.mpr ⟨List.mem_of_getElem? (i := 187) (by decide +kernel), by decide +kernel⟩)⟩
theorem pl_X2_27 : PL RX2 27 2 5 (tyX2 5) := ⟨_, _, _, _, ci2, by decide, Or.inl (List.mem_filter.mpr ⟨List.mem_of_getElem? (i := 187) (by decide +kernel), by decide +kernel⟩), by decide +kernel, tyX2_ok 5 (by decide)⟩
theorem fl_X4_44 : FL RX4 44 2 5 := ⟨_, _, _, _, ci2, by decide, Or.inr ⟨RX8, List.mem_filter.mpr ⟨List.mem_of_getElem? (i := 188) (by decide +kernel), by decide +kernel⟩⟩⟩
theorem pl_X4_44 : PL RX4 44 2 5 (tyX2 5) := ⟨_, _, _, _, ci2, by decide, Or.inr ⟨RX8, List.mem_filter.mpr ⟨List.mem_of_getElem? (i := 188) (by decide +kernel), by decide +kernel⟩⟩, by decide +kernel, tyX2_ok 5 (by decide)⟩
theorem fl_X6_83 : FL RX6 83 2 5 := ⟨_, _, _, _, ci2, by decide, Or.inr ⟨RX8, List.mem_filter.mpr ⟨List.mem_of_getElem? (i := 189) (by decide +kernel), by decide +kernel⟩⟩⟩
theorem pl_X6_83 : PL RX6 83 2 5 (tyX2 5) := ⟨_, _, _, _, ci2, by decide, Or.inr ⟨RX8, List.mem_filter.mpr ⟨List.mem_of_getElem? (i := 189) (by decide +kernel), by decide +kernel⟩⟩, by decide +kernel, tyX2_ok 5 (by decide)⟩
theorem fl_X8_252 : FL RX8 252 2 5 := ⟨_, _, _, _, ci2, by decide, Or.inr ⟨RX8, List.mem_filter.mpr ⟨List.mem_of_getElem? (i := 190) (by decide +kernel), by decide +kernel⟩⟩⟩
theorem pl_X8_252 : PL RX8 252 2 5 (tyX2 5) := ⟨_, _, _, _, ci2, by decide, Or.inr ⟨RX8, List.mem_filter.mpr ⟨List.mem_of_getElem? (i := 190) (by decide +kernel), by decide +kernel⟩⟩, by decide +kernel, tyX2_ok 5 (by decide)⟩
theorem lk_X8_34 : LK RX8 34 yX0_init := Or.inr ⟨RX8, List.mem_filter.mpr ⟨List.mem_of_getElem? (i := 206) (by decide +kernel), by decide +kernel⟩⟩
theorem lk_X0_17 : LK RX0 17 yX2_init := Or.inr ⟨RX8, List.mem_filter.mpr ⟨List.mem_of_getElem? (i := 212) (by decide +kernel), by decide +kernel⟩⟩
theorem fl_X0_11 : FL RX0 11 0 0 := ⟨_, _, _, _, ci0, by decide, Or.inl (List.mem_filter.mpr ⟨List.mem_of_getElem? (i := 213) (by decide +kernel), by decide +kernel⟩)⟩
theorem pf_X0_11 : PF RX0 11 0 0 (tyX0 0) := ⟨_, _, _, _, ci0, by decide, List.mem_filter.mpr ⟨List.mem_of_getElem? (i := 213) (by decide +kernel), by decide +kernel⟩, by decide +kernel, by decide +kernel, tyX0_ok 0 (by decide)⟩
theorem fl_X0_18 : FL RX0 18 0 1 := ⟨_, _, _, _, ci0, by decide, Or.inl (List.mem_filter.mpr ⟨List.mem_of_getElem? (i := 214) (by decide +kernel), by decide +kernel⟩)⟩
theorem pl_X0_18 : PL RX0 18 0 1 (tyX0 1) := ⟨_, _, _, _, ci0, by decide, Or.inl (List.mem_filter.mpr ⟨List.mem_of_getElem? (i := 214) (by decide +kernel), by decide +kernel⟩), by decide +kernel, tyX0_ok 1 (by decide)⟩
theorem fl_X0_26 : FL RX0 26 0 2 := ⟨_, _, _, _, ci0, by decide, Or.inl (List.mem_filter.mpr ⟨List.mem_of_getElem? (i := 215) (by decide +kernel), by decide +kernel⟩)⟩
theorem pl_X0_26 : PL RX0 26 0 2 (tyX0 2) := ⟨_, _, _, _, ci0, by decide, Or.inl (List.mem_filter.mpr ⟨List.mem_of_getElem? (i := 215) (by decide +kernel), by decide +kernel⟩), by decide +kernel, tyX0_ok 2 (by decide)⟩
theorem fl_X8_165 : FL RX8 165 0 2 := ⟨_, _, _, _, ci0, by decide, Or.inr ⟨RX8, List.mem_filter.mpr ⟨List.mem_of_getElem? (i := 216) (by decide +kernel), by decide +kernel⟩⟩⟩
theorem pl_X8_165 : PL RX8 165 0 2 (tyX0 2) := ⟨_, _, _, _, ci0, by decide, Or.inr ⟨RX8, List.mem_filter.mpr ⟨List.mem_of_getElem? (i := 216) (by decide +kernel), by decide +kernel⟩⟩, by decide +kernel, tyX0_ok 2 (by decide)⟩
theorem lk_X8_45 : LK RX8 45 yX1_init := Or.inr ⟨RX8, List.mem_filter.mpr ⟨List.mem_of_getElem? (i := 226) (by decide +kernel), by decide +kernel⟩⟩
theorem fl_X1_9 : FL RX1 9 1 0 := ⟨_, _, _, _, ci1, by decide, Or.inl (List.mem_filter.mpr ⟨List.mem_of_getElem? (i := 230) (by decide +kernel), by decide +kernel⟩)⟩
theorem pf_X1_9 : PF RX1 9 1 0 (tyX1 0) := ⟨_, _, _, _, ci1, by decide, List.mem_filter.mpr ⟨List.mem_of_getElem? (i := 230) (by decide +kernel), by decide +kernel⟩, by decide +kernel, by decide +kernel, tyX1_ok 0 (by decide)⟩
theorem fl_X1_15 : FL RX1 15 1 1 := ⟨_, _, _, _, ci1, by decide, Or.inl (List.mem_filter.mpr ⟨List.mem_of_getElem? (i := 231) (by decide +kernel), by decide +kernel⟩)⟩
theorem pl_X1_15 : PL RX1 15 1 1 (tyX1 1) := ⟨_, _, _, _, ci1, by decide, Or.inl (List.mem_filter.mpr ⟨List.mem_of_getElem? (i := 231) (by decide +kernel), by decide +kernel⟩), by decide +kernel, tyX1_ok 1 (by decide)⟩
theorem fl_X1_19 : FL RX1 19 1 2 := ⟨_, _, _, _, ci1, by decide, Or.inl (List.mem_filter.mpr ⟨List.mem_of_getElem? (i := 232) (by decide +kernel), by decide +kernel⟩)⟩
theorem pl_X1_19 : PL RX1 19 1 2 (tyX1 2) := ⟨_, _, _, _, ci1, by decide, Or.inl (List.mem_filter.mpr ⟨List.mem_of_getElem? (i := 232) (by decide +kernel), by decide +kernel⟩), by decide +kernel, tyX1_ok 2 (by decide)⟩
theorem fl_X1_28 : FL RX1 28 1 3 := ⟨_, _, _, _, ci1, by decide, Or.inl (List.mem_filter.mpr ⟨List.mem_of_getElem? (i := 233) (by decide +kernel), by decide +kernel⟩)⟩
theorem pl_X1_28 : PL RX1 28 1 3 (tyX1 3) := ⟨_, _, _, _, ci1, by decide, Or.inl (List.mem_filter.mpr ⟨List.mem_of_getElem? (i := 233) (by decide +kernel), by decide +kernel⟩), by decide +kernel, tyX1_ok 3 (by decide)⟩
theorem fl_X1_34 : FL RX1 34 1 4 := ⟨_, _, _, _, ci1, by decide, Or.inl (List.mem_filter.mpr ⟨List.mem_of_getElem? (i := 234) (by decide +kernel), by decide +kernel⟩)⟩
theorem pl_X1_34 : PL RX1 34 1 4 (tyX1 4) := ⟨_, _, _, _, ci1, by decide, Or.inl (List.mem_filter.mpr ⟨List.mem_of_getElem? (i := 234) (by decide +kernel), by decide +kernel⟩), by decide +kernel, tyX1_ok 4 (by decide)⟩
theorem fl_X1_45 : FL RX1 45 1 5 := ⟨_, _, _, _, ci1, by decide, Or.inl (List.mem_filter.mpr ⟨List.mem_of_getElem? (i := 235) (by decide +kernel), by decide +kernel⟩)⟩
theorem pl_X1_45 : PL RX1 45 1 5 (tyX1 5) := ⟨_, _, _, _, ci1, by decide, Or.inl (List.mem_filter.mpr ⟨List.mem_of_getElem? (i := 235) (by decide +kernel), by decide +kernel⟩), by decide +kernel, tyX1_ok 5 (by decide)⟩
theorem lk_X8_50 : LK RX8 50 yX5_init := Or.inr ⟨RX8, List.mem_filter.mpr ⟨List.mem_of_getElem? (i := 250) (by decide +kernel), by decide +kernel⟩⟩
theorem fl_X5_11 : FL RX5 11 5 0 := ⟨_, _, _, _, ci5, by decide, Or.inl (List.mem_filter.mpr ⟨List.mem_of_getElem? (i := 254) (by decide +kernel), by decide +kernel⟩)⟩
theorem pl_X5_11 : PL RX5 11 5 0 (tyX5 0) := ⟨_, _, _, _, ci5, by decide, Or.inl (List.mem_filter.mpr ⟨List.mem_of_getElem? (i := 254) (by decide +kernel), by decide +kernel⟩), by decide +kernel, tyX5_ok 0 (by decide)⟩
theorem fl_X8_78 : FL RX8 78 5 0 := ⟨_, _, _, _, ci5, by decide, Or.inr ⟨RX8, List.mem_filter.mpr ⟨List.mem_of_getElem? (i := 255) (by decide +kernel), by decide +kernel⟩⟩⟩
theorem pl_X8_78 : PL RX8 78 5 0 (tyX5 0) := ⟨_, _, _, _, ci5, by decide, Or.inr ⟨RX8, List.mem_filter.mpr ⟨List.mem_of_getElem? (i := 255) (by decide +kernel), by decide +kernel⟩⟩, by decide +kernel, tyX5_ok 0 (by decide)⟩
theorem fl_X5_19 : FL RX5 19 5 1 := ⟨_, _, _, _, ci5, by decide, Or.inl (List.mem_filter.mpr ⟨List.mem_of_getElem? (i := 256) (by decide +kernel), by decide +kernel⟩)⟩
theorem pl_X5_19 : PL RX5 19 5 1 (tyX5 1) := ⟨_, _, _, _, ci5, by decide, Or.inl (List.mem_filter.mpr ⟨List.mem_of_getElem? (i := 256) (by decide +kernel), by decide +kernel⟩), by decide +kernel, tyX5_ok 1 (by decide)⟩
theorem fl_X5_15 : FL RX5 15 5 2 := ⟨_, _, _, _, ci5, by decide, Or.inl (List.mem_filter.mpr ⟨List.mem_of_getElem? (i := 257) (by decide +kernel), by decide +kernel⟩)⟩
theorem pf_X5_15 : PF RX5 15 5 2 (tyX5 2) := ⟨_, _, _, _, ci5, by decide, List.mem_filter.mpr ⟨List.mem_of_getElem? (i := 257) (by decide +kernel), by decide +kernel⟩, by decide +kernel, by decide +kernel, tyX5_ok 2 (by decide)⟩
theorem fl_X8_82 : FL RX8 82 5 2 := ⟨_, _, _, _, ci5, by decide, Or.inr ⟨RX8, List.mem_filter.mpr ⟨List.mem_of_getElem? (i := 258) (by decide +kernel), by decide +kernel⟩⟩⟩
theorem fl_X8_11 : FL RX8 11 8 0 := ⟨_, _, _, _, ci8, by decide, Or.inl (List.mem_filter.mpr ⟨List.mem_of_getElem? (i := 266) (by decide +kernel), by decide +kernel⟩)⟩
theorem pf_X8_11 : PF RX8 11 8 0 (tyX8 0) := ⟨_, _, _, _, ci8, by decide, List.mem_filter.mpr ⟨List.mem_of_getElem? (i := 266) (by decide +kernel), by decide +kernel⟩, by decide +kernel, by decide +kernel, tyX8_ok 0 (by decide)⟩
theorem fl_X8_18 : FL RX8 18 8 1 := ⟨_, _, _, _, ci8, by decide, Or.inl (List.mem_filter.mpr ⟨List.mem_of_getElem? (i := 267) (by decide +kernel), by decide +kernel⟩)⟩
theorem pf_X8_18 : PF RX8 18 8 1 (tyX8 1) := ⟨_, _, _, _, ci8, by decide, List.mem_filter.mpr ⟨List.mem_of_getElem? (i := 267) (by decide +kernel), by decide +kernel⟩, by decide +kernel, by decide +kernel, tyX8_ok 1 (by decide)⟩
theorem fl_X8_25 : FL RX8 25 8 2 := ⟨_, _, _, _, ci8, by decide, Or.inl (List.mem_filter.mpr ⟨List.mem_of_getElem? (i := 268) (by decide +kernel), by decide +kernel⟩)⟩
theorem pf_X8_25 : PF RX8 25 8 2 (tyX8 2) := ⟨_, _, _, _, ci8, by decide, List.mem_filter.mpr ⟨List.mem_of_getElem? (i := 268) (by decide +kernel), by decide +kernel⟩, by decide +kernel, by decide +kernel, tyX8_ok 2 (by decide)⟩
theorem fl_X8_29 : FL RX8 29 8 3 := ⟨_, _, _, _, ci8, by decide, Or.inl (List.mem_filter.mpr ⟨List.mem_of_getElem? (i := 269) (by decide +kernel), by decide +kernel⟩)⟩
theorem pf_X8_29 : PF RX8 29 8 3 (tyX8 3) := ⟨_, _, _, _, ci8, by decide, List.mem_filter.mpr ⟨List.mem_of_getElem? (i := 269) (by decide +kernel), by decide +kernel⟩, by decide +kernel, by decide +kernel, tyX8_ok 3 (by decide)⟩
theorem fl_X8_35 : FL RX8 35 8 4 := ⟨_, _, _, _, ci8, by decide, Or.inl (List.mem_filter.mpr ⟨List.mem_of_getElem? (i := 270) (by decide +kernel), by decide +kernel⟩)⟩
theorem pf_X8_35 : PF RX8 35 8 4 (tyX8 4) := ⟨_, _, _, _, ci8, by decide, List.mem_filter.mpr ⟨List.mem_of_getElem? (i := 270) (by decide +kernel), by decide +kernel⟩, by decide +kernel, by decide +kernel, tyX8_ok 4 (by decide)⟩
theorem fl_X8_39 : FL RX8 39 8 5 := ⟨_, _, _, _, ci8, by decide, Or.inl (List.mem_filter.mpr ⟨List.mem_of_getElem? (i := 271) (by decide +kernel), by decide +kernel⟩)⟩
theorem pf_X8_39 : PF RX8 39 8 5 (tyX8 5) := ⟨_, _, _, _, ci8, by decide, List.mem_filter.mpr ⟨List.mem_of_getElem? (i := 271) (by decide +kernel), by decide +kernel⟩, by decide +kernel, by decide +kernel, tyX8_ok 5 (by decide)⟩
theorem fl_X8_46 : FL RX8 46 8 6 := ⟨_, _, _, _, ci8, by decide, Or.inl (List.mem_filter.mpr ⟨List.mem_of_getElem? (i := 272) (by decide +kernel), by decide +kernel⟩)⟩
theorem pf_X8_46 : PF RX8 46 8 6 (tyX8 6) := ⟨_, _, _, _, ci8, by decide, List.mem_filter.mpr ⟨List.mem_of_getElem? (i := 272) (by decide +kernel), by decide +kernel⟩, by decide +kernel, by decide +kernel, tyX8_ok 6 (by decide)⟩
theorem fl_X8_281 : FL RX8 281 8 7 := ⟨_, _, _, _, ci8, by decide, Or.inl (List.mem_filter.mpr ⟨List.mem_of_getElem? (i := 273) (by decide +kernel), by decide +kernel⟩)⟩
theorem pl_X8_281 : PL RX8 281 8 7 (tyX8 7) := ⟨_, _, _, _, ci8, by decide, Or.inl (List.mem_filter.mpr ⟨List.mem_of_getElem? (i := 273) (by decide +kernel), by decide +kernel⟩), by decide +kernel, tyX8_ok 7 (by decide)⟩
theorem fl_X8_291 : FL RX8 291 8 8 := ⟨_, _, _, _, ci8, by decide, Or.inl (List.mem_filter.mpr ⟨List.mem_of_getElem? (i := 274) (by decide +kernel), by decide +kernel⟩)⟩
theorem pl_X8_291 : PL RX8 291 8 8 (tyX8 8) := ⟨_, _, _, _, ci8, by decide, Or.inl (List.mem_filter.mpr ⟨List.mem_of_getElem? (i := 274) (by decide +kernel), by decide +kernel⟩), by decide +kernel, tyX8_ok 8 (by decide)⟩
theorem fl_X8_312 : FL RX8 312 8 9 := ⟨_, _, _, _, ci8, by decide, Or.inl (List.mem_filter.mpr ⟨List.mem_of_getElem? (i := 275) (by decide +kernel), by decide +kernel⟩)⟩
theorem pl_X8_312 : PL RX8 312 8 9 (tyX8 9) := ⟨_, _, _, _, ci8, by decide, Or.inl (List.mem_filter.mpr ⟨List.mem_of_getElem? (i := 275) (by decide +kernel), by decide +kernel⟩), by decide +kernel, tyX8_ok 9 (by decide)⟩
theorem fl_X8_111 : FL RX8 111 8 10 := ⟨_, _, _, _, ci8, by decide, Or.inl (List.mem_filter.mpr ⟨List.mem_of_getElem? (i := 276) (by decide +kernel), by decide +kernel⟩)⟩
theorem pl_X8_111 : PL RX8 111 8 10 (tyX8 10) := ⟨_, _, _, _, ci8, by decide, Or.inl (List.mem_filter.mpr ⟨List.mem_of_getElem? (i := 276) (by decide +kernel), by decide +kernel⟩), by decide +kernel, tyX8_ok 10 (by decide)⟩
theorem fl_X8_274 : FL RX8 274 8 11 := ⟨_, _, _, _, ci8, by decide, Or.inl (List.mem_filter.mpr ⟨List.mem_of_getElem? (i := 277) (by decide +kernel), by decide +kernel⟩)⟩
theorem pl_X8_274 : PL RX8 274 8 11 (tyX8 11) := ⟨_, _, _, _, ci8, by decide, Or.inl (List.mem_filter.mpr ⟨List.mem_of_getElem? (i := 277) (by decide +kernel), by decide +kernel⟩), by decide +kernel, tyX8_ok 11 (by decide)⟩
theorem lk_L_13 : LK RL 13 yX8_row := Or.inl (List.mem_filter.mpr ⟨List.mem_of_getElem? (i := 303) (by decide +kernel), by decide +kernel⟩)
theorem lk_X8_51 : LK RX8 51 yX8_rowAt := Or.inl (List.mem_filter.mpr ⟨List.mem_of_getElem? (i := 307) (by decide +kernel), by decide +kernel⟩)
theorem kc_X8_55 : Cond.constant RX8 55 (-1000001) ∈ TB := List.mem_filter.mpr ⟨List.mem_of_getElem? (i := 311) (by decide +kernel), by decide +kernel⟩
theorem lk_X8_56 : LK RX8 56 yX8_found := Or.inl (List.mem_filter.mpr ⟨List.mem_of_getElem? (i := 312) (by decide +kernel), by decide +kernel⟩)
theorem kc_X8_277 : Cond.constant RX8 277 (-1000010) ∈ TB := List.mem_filter.mpr ⟨List.mem_of_getElem? (i := 316) (by decide +kernel), by decide +kernel⟩
theorem lk_X8_60 : LK RX8 60 yX5_begin := Or.inr ⟨RX8, List.mem_filter.mpr ⟨List.mem_of_getElem? (i := 317) (by decide +kernel), by decide +kernel⟩⟩
theorem lk_X5_22 : LK RX5 22 yJ7_fill_53178 := Or.inl (List.mem_filter.mpr ⟨List.mem_of_getElem? (i := 321) (by decide +kernel), by decide +kernel⟩)
theorem lk_X8_64 : LK RX8 64 yX8_well := Or.inl (List.mem_filter.mpr ⟨List.mem_of_getElem? (i := 324) (by decide +kernel), by decide +kernel⟩)
theorem lk_L_18 : LK RL 18 yX8_set := Or.inl (List.mem_filter.mpr ⟨List.mem_of_getElem? (i := 328) (by decide +kernel), by decide +kernel⟩)
theorem lk_X8_67 : LK RX8 67 yX5_flaw := Or.inr ⟨RX8, List.mem_filter.mpr ⟨List.mem_of_getElem? (i := 332) (by decide +kernel), by decide +kernel⟩⟩
theorem lk_X5_28 : LK RX5 28 yX5_isMissing := Or.inl (List.mem_filter.mpr ⟨List.mem_of_getElem? (i := 336) (by decide +kernel), by decide +kernel⟩)
theorem lk_X8_71 : LK RX8 71 yX5_store := Or.inr ⟨RX8, List.mem_filter.mpr ⟨List.mem_of_getElem? (i := 340) (by decide +kernel), by decide +kernel⟩⟩
theorem lk_L_22 : LK RL 22 yX8_copy := Or.inl (List.mem_filter.mpr ⟨List.mem_of_getElem? (i := 344) (by decide +kernel), by decide +kernel⟩)
theorem lk_X8_74 : LK RX8 74 yX5_isMissing := Or.inr ⟨RX8, List.mem_filter.mpr ⟨List.mem_of_getElem? (i := 348) (by decide +kernel), by decide +kernel⟩⟩
theorem lk_L_27 : LK RL 27 yX8_drop := Or.inl (List.mem_filter.mpr ⟨List.mem_of_getElem? (i := 352) (by decide +kernel), by decide +kernel⟩)
theorem lk_X8_92 : LK RX8 92 yX5_end := Or.inr ⟨RX8, List.mem_filter.mpr ⟨List.mem_of_getElem? (i := 356) (by decide +kernel), by decide +kernel⟩⟩
theorem lk_L_32 : LK RL 32 yX8_feed := Or.inl (List.mem_filter.mpr ⟨List.mem_of_getElem? (i := 360) (by decide +kernel), by decide +kernel⟩)
theorem lk_X8_96 : LK RX8 96 yX7_take := Or.inr ⟨RX8, List.mem_filter.mpr ⟨List.mem_of_getElem? (i := 364) (by decide +kernel), by decide +kernel⟩⟩
theorem kc_X8_103 : Cond.constant RX8 103 (-1000003) ∈ TB := List.mem_filter.mpr ⟨List.mem_of_getElem? (i := 368) (by decide +kernel), by decide +kernel⟩
theorem lk_L_36 : LK RL 36 yX8_board := Or.inl (List.mem_filter.mpr ⟨List.mem_of_getElem? (i := 369) (by decide +kernel), by decide +kernel⟩)
theorem lk_X8_104 : LK RX8 104 yX7_readInto := Or.inr ⟨RX8, List.mem_filter.mpr ⟨List.mem_of_getElem? (i := 373) (by decide +kernel), by decide +kernel⟩⟩
theorem lk_X7_22 : LK RX7 22 yX2_clear := Or.inr ⟨RX8, List.mem_filter.mpr ⟨List.mem_of_getElem? (i := 377) (by decide +kernel), by decide +kernel⟩⟩
theorem lk_X7_27 : LK RX7 27 yX7_readLaw := Or.inl (List.mem_filter.mpr ⟨List.mem_of_getElem? (i := 381) (by decide +kernel), by decide +kernel⟩)
theorem lk_X7_34 : LK RX7 34 yX7_passes := Or.inl (List.mem_filter.mpr ⟨List.mem_of_getElem? (i := 385) (by decide +kernel), by decide +kernel⟩)
theorem lk_X7_51 : LK RX7 51 yX7_byteAt := Or.inl (List.mem_filter.mpr ⟨List.mem_of_getElem? (i := 389) (by decide +kernel), by decide +kernel⟩)
theorem lk_X7_58 : LK RX7 58 yX7_faulty := Or.inl (List.mem_filter.mpr ⟨List.mem_of_getElem? (i := 393) (by decide +kernel), by decide +kernel⟩)
theorem lk_X7_38 : LK RX7 38 yX7_readNumber := Or.inl (List.mem_filter.mpr ⟨List.mem_of_getElem? (i := 397) (by decide +kernel), by decide +kernel⟩)
theorem lk_X7_71 : LK RX7 71 yX7_isFigure := Or.inl (List.mem_filter.mpr ⟨List.mem_of_getElem? (i := 401) (by decide +kernel), by decide +kernel⟩)
theorem lk_X7_31 : LK RX7 31 yX7_readDisc := Or.inl (List.mem_filter.mpr ⟨List.mem_of_getElem? (i := 404) (by decide +kernel), by decide +kernel⟩)
theorem lk_X7_55 : LK RX7 55 yX7_sortOf := Or.inl (List.mem_filter.mpr ⟨List.mem_of_getElem? (i := 408) (by decide +kernel), by decide +kernel⟩)
theorem lk_X7_64 : LK RX7 64 yX2_sortAs := Or.inr ⟨RX8, List.mem_filter.mpr ⟨List.mem_of_getElem? (i := 411) (by decide +kernel), by decide +kernel⟩⟩
theorem lk_X7_68 : LK RX7 68 yX2_layBy := Or.inr ⟨RX8, List.mem_filter.mpr ⟨List.mem_of_getElem? (i := 415) (by decide +kernel), by decide +kernel⟩⟩
theorem kc_X8_114 : Cond.constant RX8 114 (-1000100) ∈ TB := List.mem_filter.mpr ⟨List.mem_of_getElem? (i := 419) (by decide +kernel), by decide +kernel⟩
theorem lk_X8_118 : LK RX8 118 yX2_take := Or.inr ⟨RX8, List.mem_filter.mpr ⟨List.mem_of_getElem? (i := 420) (by decide +kernel), by decide +kernel⟩⟩
theorem lk_X8_121 : LK RX8 121 yX0_forget := Or.inr ⟨RX8, List.mem_filter.mpr ⟨List.mem_of_getElem? (i := 424) (by decide +kernel), by decide +kernel⟩⟩
theorem lk_L_41 : LK RL 41 yX8_fault := Or.inl (List.mem_filter.mpr ⟨List.mem_of_getElem? (i := 428) (by decide +kernel), by decide +kernel⟩)
theorem lk_L_45 : LK RL 45 yX8_move := Or.inl (List.mem_filter.mpr ⟨List.mem_of_getElem? (i := 432) (by decide +kernel), by decide +kernel⟩)
theorem lk_X8_127 : LK RX8 127 yX2_hasPeg := Or.inr ⟨RX8, List.mem_filter.mpr ⟨List.mem_of_getElem? (i := 436) (by decide +kernel), by decide +kernel⟩⟩
theorem lk_X8_130 : LK RX8 130 yX2_allows := Or.inr ⟨RX8, List.mem_filter.mpr ⟨List.mem_of_getElem? (i := 440) (by decide +kernel), by decide +kernel⟩⟩
theorem lk_X2_60 : LK RX2 60 yX2_movesNow := Or.inl (List.mem_filter.mpr ⟨List.mem_of_getElem? (i := 444) (by decide +kernel), by decide +kernel⟩)
theorem lk_X2_56 : LK RX2 56 yX2_movesFrom := Or.inl (List.mem_filter.mpr ⟨List.mem_of_getElem? (i := 448) (by decide +kernel), by decide +kernel⟩)
theorem lk_X2_47 : LK RX2 47 yX2_lyingIn := Or.inl (List.mem_filter.mpr ⟨List.mem_of_getElem? (i := 452) (by decide +kernel), by decide +kernel⟩)
theorem lk_X2_53 : LK RX2 53 yX2_leastOf := Or.inl (List.mem_filter.mpr ⟨List.mem_of_getElem? (i := 456) (by decide +kernel), by decide +kernel⟩)
theorem lk_X2_68 : LK RX2 68 yJ6_bitCount_0f7a4 := Or.inl (List.mem_filter.mpr ⟨List.mem_of_getElem? (i := 459) (by decide +kernel), by decide +kernel⟩)
theorem kc_J6_265 : Cond.constant RJ6 265 (1431655765) ∈ TB := List.mem_filter.mpr ⟨List.mem_of_getElem? (i := 462) (by decide +kernel), by decide +kernel⟩
theorem kc_J6_266 : Cond.constant RJ6 266 (858993459) ∈ TB := List.mem_filter.mpr ⟨List.mem_of_getElem? (i := 463) (by decide +kernel), by decide +kernel⟩
theorem kc_J6_267 : Cond.constant RJ6 267 (252645135) ∈ TB := List.mem_filter.mpr ⟨List.mem_of_getElem? (i := 464) (by decide +kernel), by decide +kernel⟩
theorem lk_X2_64 : LK RX2 64 yX2_mayGo := Or.inl (List.mem_filter.mpr ⟨List.mem_of_getElem? (i := 465) (by decide +kernel), by decide +kernel⟩)
theorem lk_X2_34 : LK RX2 34 yX2_kindOf := Or.inl (List.mem_filter.mpr ⟨List.mem_of_getElem? (i := 469) (by decide +kernel), by decide +kernel⟩)
theorem kc_X8_133 : Cond.constant RX8 133 (-1000002) ∈ TB := List.mem_filter.mpr ⟨List.mem_of_getElem? (i := 473) (by decide +kernel), by decide +kernel⟩
theorem lk_X8_137 : LK RX8 137 yX2_topOf := Or.inr ⟨RX8, List.mem_filter.mpr ⟨List.mem_of_getElem? (i := 474) (by decide +kernel), by decide +kernel⟩⟩
theorem lk_X2_50 : LK RX2 50 yX2_lyingOn := Or.inl (List.mem_filter.mpr ⟨List.mem_of_getElem? (i := 478) (by decide +kernel), by decide +kernel⟩)
theorem lk_X8_140 : LK RX8 140 yX0_keep := Or.inr ⟨RX8, List.mem_filter.mpr ⟨List.mem_of_getElem? (i := 482) (by decide +kernel), by decide +kernel⟩⟩
theorem lk_X0_22 : LK RX0 22 yX2_take := Or.inr ⟨RX8, List.mem_filter.mpr ⟨List.mem_of_getElem? (i := 486) (by decide +kernel), by decide +kernel⟩⟩
theorem lk_X8_143 : LK RX8 143 yX2_carryOut := Or.inr ⟨RX8, List.mem_filter.mpr ⟨List.mem_of_getElem? (i := 487) (by decide +kernel), by decide +kernel⟩⟩
theorem lk_X2_73 : LK RX2 73 yX2_behind := Or.inl (List.mem_filter.mpr ⟨List.mem_of_getElem? (i := 491) (by decide +kernel), by decide +kernel⟩)
theorem lk_L_50 : LK RL 50 yX8_put := Or.inl (List.mem_filter.mpr ⟨List.mem_of_getElem? (i := 495) (by decide +kernel), by decide +kernel⟩)
theorem lk_X8_147 : LK RX8 147 yX2_hasDisc := Or.inr ⟨RX8, List.mem_filter.mpr ⟨List.mem_of_getElem? (i := 499) (by decide +kernel), by decide +kernel⟩⟩
theorem lk_X8_150 : LK RX8 150 yX2_pegOf := Or.inr ⟨RX8, List.mem_filter.mpr ⟨List.mem_of_getElem? (i := 503) (by decide +kernel), by decide +kernel⟩⟩
theorem lk_X8_153 : LK RX8 153 yX2_layBy := Or.inr ⟨RX8, List.mem_filter.mpr ⟨List.mem_of_getElem? (i := 507) (by decide +kernel), by decide +kernel⟩⟩
theorem lk_L_54 : LK RL 54 yX8_high := Or.inl (List.mem_filter.mpr ⟨List.mem_of_getElem? (i := 508) (by decide +kernel), by decide +kernel⟩)
theorem lk_X8_156 : LK RX8 156 yX2_isNone := Or.inr ⟨RX8, List.mem_filter.mpr ⟨List.mem_of_getElem? (i := 512) (by decide +kernel), by decide +kernel⟩⟩
theorem lk_L_58 : LK RL 58 yX8_undo := Or.inl (List.mem_filter.mpr ⟨List.mem_of_getElem? (i := 516) (by decide +kernel), by decide +kernel⟩)
theorem lk_X8_162 : LK RX8 162 yX0_takeBack := Or.inr ⟨RX8, List.mem_filter.mpr ⟨List.mem_of_getElem? (i := 520) (by decide +kernel), by decide +kernel⟩⟩
theorem lk_L_62 : LK RL 62 yX8_disc := Or.inl (List.mem_filter.mpr ⟨List.mem_of_getElem? (i := 524) (by decide +kernel), by decide +kernel⟩)
theorem lk_X8_168 : LK RX8 168 yX2_movesNow := Or.inr ⟨RX8, List.mem_filter.mpr ⟨List.mem_of_getElem? (i := 528) (by decide +kernel), by decide +kernel⟩⟩
theorem lk_L_66 : LK RL 66 yX8_peg := Or.inl (List.mem_filter.mpr ⟨List.mem_of_getElem? (i := 529) (by decide +kernel), by decide +kernel⟩)
theorem lk_X8_171 : LK RX8 171 yX2_lyingOn := Or.inr ⟨RX8, List.mem_filter.mpr ⟨List.mem_of_getElem? (i := 533) (by decide +kernel), by decide +kernel⟩⟩
theorem lk_X8_174 : LK RX8 174 yJ6_bitCount_0f7a4 := Or.inl (List.mem_filter.mpr ⟨List.mem_of_getElem? (i := 534) (by decide +kernel), by decide +kernel⟩)
theorem kc_X8_179 : Cond.constant RX8 179 (-1000000) ∈ TB := List.mem_filter.mpr ⟨List.mem_of_getElem? (i := 535) (by decide +kernel), by decide +kernel⟩
theorem lk_L_70 : LK RL 70 yX8_can := Or.inl (List.mem_filter.mpr ⟨List.mem_of_getElem? (i := 536) (by decide +kernel), by decide +kernel⟩)
theorem lk_L_74 : LK RL 74 yX8_least := Or.inl (List.mem_filter.mpr ⟨List.mem_of_getElem? (i := 540) (by decide +kernel), by decide +kernel⟩)
theorem lk_X8_180 : LK RX8 180 yX2_arrangedBy := Or.inr ⟨RX8, List.mem_filter.mpr ⟨List.mem_of_getElem? (i := 544) (by decide +kernel), by decide +kernel⟩⟩
theorem lk_X2_38 : LK RX2 38 yX5_itemAt := Or.inr ⟨RX8, List.mem_filter.mpr ⟨List.mem_of_getElem? (i := 548) (by decide +kernel), by decide +kernel⟩⟩
theorem kc_X5_32 : Cond.constant RX5 32 (-1000000) ∈ TB := List.mem_filter.mpr ⟨List.mem_of_getElem? (i := 552) (by decide +kernel), by decide +kernel⟩
theorem lk_X2_43 : LK RX2 43 yX2_hasPeg := Or.inl (List.mem_filter.mpr ⟨List.mem_of_getElem? (i := 553) (by decide +kernel), by decide +kernel⟩)
theorem lk_X8_184 : LK RX8 184 yX8_searched := Or.inl (List.mem_filter.mpr ⟨List.mem_of_getElem? (i := 554) (by decide +kernel), by decide +kernel⟩)
theorem lk_X8_295 : LK RX8 295 yX6_init := Or.inr ⟨RX8, List.mem_filter.mpr ⟨List.mem_of_getElem? (i := 560) (by decide +kernel), by decide +kernel⟩⟩
theorem lk_X6_11 : LK RX6 11 yX2_init := Or.inr ⟨RX8, List.mem_filter.mpr ⟨List.mem_of_getElem? (i := 565) (by decide +kernel), by decide +kernel⟩⟩
theorem fl_X6_12 : FL RX6 12 6 0 := ⟨_, _, _, _, ci6, by decide, Or.inl (List.mem_filter.mpr ⟨List.mem_of_getElem? (i := 566) (by decide +kernel), by decide +kernel⟩)⟩
theorem pf_X6_12 : PF RX6 12 6 0 (tyX6 0) := ⟨_, _, _, _, ci6, by decide, List.mem_filter.mpr ⟨List.mem_of_getElem? (i := 566) (by decide +kernel), by decide +kernel⟩, by decide +kernel, by decide +kernel, tyX6_ok 0 (by decide)⟩
theorem fl_X8_296 : FL RX8 296 6 0 := ⟨_, _, _, _, ci6, by decide, Or.inr ⟨RX8, List.mem_filter.mpr ⟨List.mem_of_getElem? (i := 567) (by decide +kernel), by decide +kernel⟩⟩⟩
theorem fl_X6_18 : FL RX6 18 6 1 := ⟨_, _, _, _, ci6, by decide, Or.inl (List.mem_filter.mpr ⟨List.mem_of_getElem? (i := 568) (by decide +kernel), by decide +kernel⟩)⟩
theorem pf_X6_18 : PF RX6 18 6 1 (tyX6 1) := ⟨_, _, _, _, ci6, by decide, List.mem_filter.mpr ⟨List.mem_of_getElem? (i := 568) (by decide +kernel), by decide +kernel⟩, by decide +kernel, by decide +kernel, tyX6_ok 1 (by decide)⟩
theorem fl_X6_22 : FL RX6 22 6 2 := ⟨_, _, _, _, ci6, by decide, Or.inl (List.mem_filter.mpr ⟨List.mem_of_getElem? (i := 569) (by decide +kernel), by decide +kernel⟩)⟩
theorem pf_X6_22 : PF RX6 22 6 2 (tyX6 2) := ⟨_, _, _, _, ci6, by decide, List.mem_filter.mpr ⟨List.mem_of_getElem? (i := 569) (by decide +kernel), by decide +kernel⟩, by decide +kernel, by decide +kernel, tyX6_ok 2 (by decide)⟩
theorem fl_X6_25 : FL RX6 25 6 3 := ⟨_, _, _, _, ci6, by decide, Or.inl (List.mem_filter.mpr ⟨List.mem_of_getElem? (i := 570) (by decide +kernel), by decide +kernel⟩)⟩
theorem pf_X6_25 : PF RX6 25 6 3 (tyX6 3) := ⟨_, _, _, _, ci6, by decide, List.mem_filter.mpr ⟨List.mem_of_getElem? (i := 570) (by decide +kernel), by decide +kernel⟩, by decide +kernel, by decide +kernel, tyX6_ok 3 (by decide)⟩
theorem fl_X6_28 : FL RX6 28 6 4 := ⟨_, _, _, _, ci6, by decide, Or.inl (List.mem_filter.mpr ⟨List.mem_of_getElem? (i := 571) (by decide +kernel), by decide +kernel⟩)⟩
theorem pf_X6_28 : PF RX6 28 6 4 (tyX6 4) := ⟨_, _, _, _, ci6, by decide, List.mem_filter.mpr ⟨List.mem_of_getElem? (i := 571) (by decide +kernel), by decide +kernel⟩, by decide +kernel, by decide +kernel, tyX6_ok 4 (by decide)⟩
theorem fl_X6_41 : FL RX6 41 6 5 := ⟨_, _, _, _, ci6, by decide, Or.inl (List.mem_filter.mpr ⟨List.mem_of_getElem? (i := 572) (by decide +kernel), by decide +kernel⟩)⟩
theorem pl_X6_41 : PL RX6 41 6 5 (tyX6 5) := ⟨_, _, _, _, ci6, by decide, Or.inl (List.mem_filter.mpr ⟨List.mem_of_getElem? (i := 572) (by decide +kernel), by decide +kernel⟩), by decide +kernel, tyX6_ok 5 (by decide)⟩
theorem fl_X6_45 : FL RX6 45 6 6 := ⟨_, _, _, _, ci6, by decide, Or.inl (List.mem_filter.mpr ⟨List.mem_of_getElem? (i := 573) (by decide +kernel), by decide +kernel⟩)⟩
theorem pl_X6_45 : PL RX6 45 6 6 (tyX6 6) := ⟨_, _, _, _, ci6, by decide, Or.inl (List.mem_filter.mpr ⟨List.mem_of_getElem? (i := 573) (by decide +kernel), by decide +kernel⟩), by decide +kernel, tyX6_ok 6 (by decide)⟩
theorem fl_X8_196 : FL RX8 196 6 6 := ⟨_, _, _, _, ci6, by decide, Or.inr ⟨RX8, List.mem_filter.mpr ⟨List.mem_of_getElem? (i := 574) (by decide +kernel), by decide +kernel⟩⟩⟩
theorem pl_X8_196 : PL RX8 196 6 6 (tyX6 6) := ⟨_, _, _, _, ci6, by decide, Or.inr ⟨RX8, List.mem_filter.mpr ⟨List.mem_of_getElem? (i := 574) (by decide +kernel), by decide +kernel⟩⟩, by decide +kernel, tyX6_ok 6 (by decide)⟩
theorem fl_X6_48 : FL RX6 48 6 7 := ⟨_, _, _, _, ci6, by decide, Or.inl (List.mem_filter.mpr ⟨List.mem_of_getElem? (i := 575) (by decide +kernel), by decide +kernel⟩)⟩
theorem pl_X6_48 : PL RX6 48 6 7 (tyX6 7) := ⟨_, _, _, _, ci6, by decide, Or.inl (List.mem_filter.mpr ⟨List.mem_of_getElem? (i := 575) (by decide +kernel), by decide +kernel⟩), by decide +kernel, tyX6_ok 7 (by decide)⟩
theorem fl_X8_199 : FL RX8 199 6 7 := ⟨_, _, _, _, ci6, by decide, Or.inr ⟨RX8, List.mem_filter.mpr ⟨List.mem_of_getElem? (i := 576) (by decide +kernel), by decide +kernel⟩⟩⟩
theorem pl_X8_199 : PL RX8 199 6 7 (tyX6 7) := ⟨_, _, _, _, ci6, by decide, Or.inr ⟨RX8, List.mem_filter.mpr ⟨List.mem_of_getElem? (i := 576) (by decide +kernel), by decide +kernel⟩⟩, by decide +kernel, tyX6_ok 7 (by decide)⟩
theorem fl_X6_51 : FL RX6 51 6 8 := ⟨_, _, _, _, ci6, by decide, Or.inl (List.mem_filter.mpr ⟨List.mem_of_getElem? (i := 577) (by decide +kernel), by decide +kernel⟩)⟩
theorem pl_X6_51 : PL RX6 51 6 8 (tyX6 8) := ⟨_, _, _, _, ci6, by decide, Or.inl (List.mem_filter.mpr ⟨List.mem_of_getElem? (i := 577) (by decide +kernel), by decide +kernel⟩), by decide +kernel, tyX6_ok 8 (by decide)⟩
theorem fl_X8_202 : FL RX8 202 6 8 := ⟨_, _, _, _, ci6, by decide, Or.inr ⟨RX8, List.mem_filter.mpr ⟨List.mem_of_getElem? (i := 578) (by decide +kernel), by decide +kernel⟩⟩⟩
theorem pl_X8_202 : PL RX8 202 6 8 (tyX6 8) := ⟨_, _, _, _, ci6, by decide, Or.inr ⟨RX8, List.mem_filter.mpr ⟨List.mem_of_getElem? (i := 578) (by decide +kernel), by decide +kernel⟩⟩, by decide +kernel, tyX6_ok 8 (by decide)⟩
theorem fl_X6_54 : FL RX6 54 6 9 := ⟨_, _, _, _, ci6, by decide, Or.inl (List.mem_filter.mpr ⟨List.mem_of_getElem? (i := 579) (by decide +kernel), by decide +kernel⟩)⟩
theorem pl_X6_54 : PL RX6 54 6 9 (tyX6 9) := ⟨_, _, _, _, ci6, by decide, Or.inl (List.mem_filter.mpr ⟨List.mem_of_getElem? (i := 579) (by decide +kernel), by decide +kernel⟩), by decide +kernel, tyX6_ok 9 (by decide)⟩
theorem fl_X8_208 : FL RX8 208 6 9 := ⟨_, _, _, _, ci6, by decide, Or.inr ⟨RX8, List.mem_filter.mpr ⟨List.mem_of_getElem? (i := 580) (by decide +kernel), by decide +kernel⟩⟩⟩
theorem pl_X8_208 : PL RX8 208 6 9 (tyX6 9) := ⟨_, _, _, _, ci6, by decide, Or.inr ⟨RX8, List.mem_filter.mpr ⟨List.mem_of_getElem? (i := 580) (by decide +kernel), by decide +kernel⟩⟩, by decide +kernel, tyX6_ok 9 (by decide)⟩
theorem fl_X6_58 : FL RX6 58 6 10 := ⟨_, _, _, _, ci6, by decide, Or.inl (List.mem_filter.mpr ⟨List.mem_of_getElem? (i := 581) (by decide +kernel), by decide +kernel⟩)⟩
theorem pl_X6_58 : PL RX6 58 6 10 (tyX6 10) := ⟨_, _, _, _, ci6, by decide, Or.inl (List.mem_filter.mpr ⟨List.mem_of_getElem? (i := 581) (by decide +kernel), by decide +kernel⟩), by decide +kernel, tyX6_ok 10 (by decide)⟩
theorem fl_X8_211 : FL RX8 211 6 10 := ⟨_, _, _, _, ci6, by decide, Or.inr ⟨RX8, List.mem_filter.mpr ⟨List.mem_of_getElem? (i := 582) (by decide +kernel), by decide +kernel⟩⟩⟩
theorem pl_X8_211 : PL RX8 211 6 10 (tyX6 10) := ⟨_, _, _, _, ci6, by decide, Or.inr ⟨RX8, List.mem_filter.mpr ⟨List.mem_of_getElem? (i := 582) (by decide +kernel), by decide +kernel⟩⟩, by decide +kernel, tyX6_ok 10 (by decide)⟩
theorem lk_X8_299 : LK RX8 299 yX2_hasFutureOf := Or.inr ⟨RX8, List.mem_filter.mpr ⟨List.mem_of_getElem? (i := 606) (by decide +kernel), by decide +kernel⟩⟩
theorem lk_X2_30 : LK RX2 30 yX2_hasLawOf := Or.inl (List.mem_filter.mpr ⟨List.mem_of_getElem? (i := 610) (by decide +kernel), by decide +kernel⟩)
theorem lk_X8_302 : LK RX8 302 yX6_begin := Or.inr ⟨RX8, List.mem_filter.mpr ⟨List.mem_of_getElem? (i := 614) (by decide +kernel), by decide +kernel⟩⟩
theorem lk_X6_31 : LK RX6 31 yX2_take := Or.inr ⟨RX8, List.mem_filter.mpr ⟨List.mem_of_getElem? (i := 618) (by decide +kernel), by decide +kernel⟩⟩
theorem lk_X6_35 : LK RX6 35 yJ7_fill_53178 := Or.inl (List.mem_filter.mpr ⟨List.mem_of_getElem? (i := 619) (by decide +kernel), by decide +kernel⟩)
theorem kc_X6_57 : Cond.constant RX6 57 (-1000000) ∈ TB := List.mem_filter.mpr ⟨List.mem_of_getElem? (i := 620) (by decide +kernel), by decide +kernel⟩
theorem lk_X8_304 : LK RX8 304 yX8_netNow := Or.inl (List.mem_filter.mpr ⟨List.mem_of_getElem? (i := 621) (by decide +kernel), by decide +kernel⟩)
theorem lk_X8_287 : LK RX8 287 yX4_init := Or.inr ⟨RX8, List.mem_filter.mpr ⟨List.mem_of_getElem? (i := 627) (by decide +kernel), by decide +kernel⟩⟩
theorem lk_X4_11 : LK RX4 11 yX2_init := Or.inr ⟨RX8, List.mem_filter.mpr ⟨List.mem_of_getElem? (i := 632) (by decide +kernel), by decide +kernel⟩⟩
theorem fl_X4_12 : FL RX4 12 4 0 := ⟨_, _, _, _, ci4, by decide, Or.inl (List.mem_filter.mpr ⟨List.mem_of_getElem? (i := 633) (by decide +kernel), by decide +kernel⟩)⟩
theorem pf_X4_12 : PF RX4 12 4 0 (tyX4 0) := ⟨_, _, _, _, ci4, by decide, List.mem_filter.mpr ⟨List.mem_of_getElem? (i := 633) (by decide +kernel), by decide +kernel⟩, by decide +kernel, by decide +kernel, tyX4_ok 0 (by decide)⟩
theorem fl_X3_48 : FL RX3 48 4 0 := ⟨_, _, _, _, ci4, by decide, Or.inr ⟨RX8, List.mem_filter.mpr ⟨List.mem_of_getElem? (i := 634) (by decide +kernel), by decide +kernel⟩⟩⟩
theorem fl_X4_18 : FL RX4 18 4 1 := ⟨_, _, _, _, ci4, by decide, Or.inl (List.mem_filter.mpr ⟨List.mem_of_getElem? (i := 635) (by decide +kernel), by decide +kernel⟩)⟩
theorem pf_X4_18 : PF RX4 18 4 1 (tyX4 1) := ⟨_, _, _, _, ci4, by decide, List.mem_filter.mpr ⟨List.mem_of_getElem? (i := 635) (by decide +kernel), by decide +kernel⟩, by decide +kernel, by decide +kernel, tyX4_ok 1 (by decide)⟩
theorem fl_X4_36 : FL RX4 36 4 2 := ⟨_, _, _, _, ci4, by decide, Or.inl (List.mem_filter.mpr ⟨List.mem_of_getElem? (i := 636) (by decide +kernel), by decide +kernel⟩)⟩
theorem pl_X4_36 : PL RX4 36 4 2 (tyX4 2) := ⟨_, _, _, _, ci4, by decide, Or.inl (List.mem_filter.mpr ⟨List.mem_of_getElem? (i := 636) (by decide +kernel), by decide +kernel⟩), by decide +kernel, tyX4_ok 2 (by decide)⟩
theorem fl_X3_70 : FL RX3 70 4 2 := ⟨_, _, _, _, ci4, by decide, Or.inr ⟨RX8, List.mem_filter.mpr ⟨List.mem_of_getElem? (i := 637) (by decide +kernel), by decide +kernel⟩⟩⟩
theorem pl_X3_70 : PL RX3 70 4 2 (tyX4 2) := ⟨_, _, _, _, ci4, by decide, Or.inr ⟨RX8, List.mem_filter.mpr ⟨List.mem_of_getElem? (i := 637) (by decide +kernel), by decide +kernel⟩⟩, by decide +kernel, tyX4_ok 2 (by decide)⟩
theorem lk_X8_288 : LK RX8 288 yX4_lookAt := Or.inr ⟨RX8, List.mem_filter.mpr ⟨List.mem_of_getElem? (i := 645) (by decide +kernel), by decide +kernel⟩⟩
theorem lk_X4_22 : LK RX4 22 yX2_hasLawOf := Or.inr ⟨RX8, List.mem_filter.mpr ⟨List.mem_of_getElem? (i := 649) (by decide +kernel), by decide +kernel⟩⟩
theorem lk_X4_26 : LK RX4 26 yJ7_fill_53178 := Or.inl (List.mem_filter.mpr ⟨List.mem_of_getElem? (i := 650) (by decide +kernel), by decide +kernel⟩)
theorem lk_X4_32 : LK RX4 32 yX2_hasFrail := Or.inr ⟨RX8, List.mem_filter.mpr ⟨List.mem_of_getElem? (i := 651) (by decide +kernel), by decide +kernel⟩⟩
theorem lk_X4_40 : LK RX4 40 yX2_take := Or.inr ⟨RX8, List.mem_filter.mpr ⟨List.mem_of_getElem? (i := 655) (by decide +kernel), by decide +kernel⟩⟩
theorem lk_X8_308 : LK RX8 308 yX6_spread := Or.inr ⟨RX8, List.mem_filter.mpr ⟨List.mem_of_getElem? (i := 656) (by decide +kernel), by decide +kernel⟩⟩
theorem lk_X6_61 : LK RX6 61 yX4_start := Or.inr ⟨RX8, List.mem_filter.mpr ⟨List.mem_of_getElem? (i := 660) (by decide +kernel), by decide +kernel⟩⟩
theorem lk_X6_67 : LK RX6 67 yX4_movesAt := Or.inr ⟨RX8, List.mem_filter.mpr ⟨List.mem_of_getElem? (i := 664) (by decide +kernel), by decide +kernel⟩⟩
theorem lk_X4_50 : LK RX4 50 yX2_movesFrom := Or.inr ⟨RX8, List.mem_filter.mpr ⟨List.mem_of_getElem? (i := 668) (by decide +kernel), by decide +kernel⟩⟩
theorem lk_X6_71 : LK RX6 71 yX6_noteArrangement := Or.inl (List.mem_filter.mpr ⟨List.mem_of_getElem? (i := 669) (by decide +kernel), by decide +kernel⟩)
theorem lk_X6_75 : LK RX6 75 yX4_stateBehind := Or.inr ⟨RX8, List.mem_filter.mpr ⟨List.mem_of_getElem? (i := 673) (by decide +kernel), by decide +kernel⟩⟩
theorem lk_X4_54 : LK RX4 54 yX2_behind := Or.inr ⟨RX8, List.mem_filter.mpr ⟨List.mem_of_getElem? (i := 677) (by decide +kernel), by decide +kernel⟩⟩
theorem lk_X6_79 : LK RX6 79 yX6_comeTo := Or.inl (List.mem_filter.mpr ⟨List.mem_of_getElem? (i := 678) (by decide +kernel), by decide +kernel⟩)
theorem lk_X8_188 : LK RX8 188 yX6_fewest := Or.inr ⟨RX8, List.mem_filter.mpr ⟨List.mem_of_getElem? (i := 682) (by decide +kernel), by decide +kernel⟩⟩
theorem lk_X6_86 : LK RX6 86 yX6_soonestOf := Or.inl (List.mem_filter.mpr ⟨List.mem_of_getElem? (i := 686) (by decide +kernel), by decide +kernel⟩)
theorem lk_L_78 : LK RL 78 yX8_tower := Or.inl (List.mem_filter.mpr ⟨List.mem_of_getElem? (i := 690) (by decide +kernel), by decide +kernel⟩)
theorem lk_X8_193 : LK RX8 193 yX2_allOn := Or.inr ⟨RX8, List.mem_filter.mpr ⟨List.mem_of_getElem? (i := 694) (by decide +kernel), by decide +kernel⟩⟩
theorem lk_L_82 : LK RL 82 yX8_world := Or.inl (List.mem_filter.mpr ⟨List.mem_of_getElem? (i := 698) (by decide +kernel), by decide +kernel⟩)
theorem lk_X8_205 : LK RX8 205 yX2_codeOf := Or.inr ⟨RX8, List.mem_filter.mpr ⟨List.mem_of_getElem? (i := 702) (by decide +kernel), by decide +kernel⟩⟩
theorem lk_L_86 : LK RL 86 yX8_ring := Or.inl (List.mem_filter.mpr ⟨List.mem_of_getElem? (i := 706) (by decide +kernel), by decide +kernel⟩)
theorem lk_L_90 : LK RL 90 yX8_ways := Or.inl (List.mem_filter.mpr ⟨List.mem_of_getElem? (i := 710) (by decide +kernel), by decide +kernel⟩)
theorem kj_X8_214 : Cond.constantLong RX8 214 (-1000002) ∈ TB := List.mem_filter.mpr ⟨List.mem_of_getElem? (i := 714) (by decide +kernel), by decide +kernel⟩
theorem kj_X8_216 : Cond.constantLong RX8 216 (-1000001) ∈ TB := List.mem_filter.mpr ⟨List.mem_of_getElem? (i := 715) (by decide +kernel), by decide +kernel⟩
theorem lk_X8_218 : LK RX8 218 yX8_layered := Or.inl (List.mem_filter.mpr ⟨List.mem_of_getElem? (i := 716) (by decide +kernel), by decide +kernel⟩)
theorem lk_X8_316 : LK RX8 316 yX3_init := Or.inr ⟨RX8, List.mem_filter.mpr ⟨List.mem_of_getElem? (i := 722) (by decide +kernel), by decide +kernel⟩⟩
theorem fl_X3_9 : FL RX3 9 3 0 := ⟨_, _, _, _, ci3, by decide, Or.inl (List.mem_filter.mpr ⟨List.mem_of_getElem? (i := 726) (by decide +kernel), by decide +kernel⟩)⟩
theorem pl_X3_9 : PL RX3 9 3 0 (tyX3 0) := ⟨_, _, _, _, ci3, by decide, Or.inl (List.mem_filter.mpr ⟨List.mem_of_getElem? (i := 726) (by decide +kernel), by decide +kernel⟩), by decide +kernel, tyX3_ok 0 (by decide)⟩
theorem fl_X3_15 : FL RX3 15 3 1 := ⟨_, _, _, _, ci3, by decide, Or.inl (List.mem_filter.mpr ⟨List.mem_of_getElem? (i := 727) (by decide +kernel), by decide +kernel⟩)⟩
theorem pl_X3_15 : PL RX3 15 3 1 (tyX3 1) := ⟨_, _, _, _, ci3, by decide, Or.inl (List.mem_filter.mpr ⟨List.mem_of_getElem? (i := 727) (by decide +kernel), by decide +kernel⟩), by decide +kernel, tyX3_ok 1 (by decide)⟩
theorem fl_X3_18 : FL RX3 18 3 2 := ⟨_, _, _, _, ci3, by decide, Or.inl (List.mem_filter.mpr ⟨List.mem_of_getElem? (i := 728) (by decide +kernel), by decide +kernel⟩)⟩
theorem pf_X3_18 : PF RX3 18 3 2 (tyX3 2) := ⟨_, _, _, _, ci3, by decide, List.mem_filter.mpr ⟨List.mem_of_getElem? (i := 728) (by decide +kernel), by decide +kernel⟩, by decide +kernel, by decide +kernel, tyX3_ok 2 (by decide)⟩
theorem fl_X3_34 : FL RX3 34 3 3 := ⟨_, _, _, _, ci3, by decide, Or.inl (List.mem_filter.mpr ⟨List.mem_of_getElem? (i := 729) (by decide +kernel), by decide +kernel⟩)⟩
theorem pl_X3_34 : PL RX3 34 3 3 (tyX3 3) := ⟨_, _, _, _, ci3, by decide, Or.inl (List.mem_filter.mpr ⟨List.mem_of_getElem? (i := 729) (by decide +kernel), by decide +kernel⟩), by decide +kernel, tyX3_ok 3 (by decide)⟩
theorem lk_X8_318 : LK RX8 318 yX3_begin := Or.inr ⟨RX8, List.mem_filter.mpr ⟨List.mem_of_getElem? (i := 740) (by decide +kernel), by decide +kernel⟩⟩
theorem lk_X3_22 : LK RX3 22 yX4_start := Or.inr ⟨RX8, List.mem_filter.mpr ⟨List.mem_of_getElem? (i := 744) (by decide +kernel), by decide +kernel⟩⟩
theorem lk_X3_28 : LK RX3 28 yJ7_fill_d0a16 := Or.inl (List.mem_filter.mpr ⟨List.mem_of_getElem? (i := 745) (by decide +kernel), by decide +kernel⟩)
theorem lk_X8_222 : LK RX8 222 yX3_rowsTo := Or.inr ⟨RX8, List.mem_filter.mpr ⟨List.mem_of_getElem? (i := 748) (by decide +kernel), by decide +kernel⟩⟩
theorem lk_X3_38 : LK RX3 38 yX3_goOn := Or.inl (List.mem_filter.mpr ⟨List.mem_of_getElem? (i := 752) (by decide +kernel), by decide +kernel⟩)
theorem lk_X3_52 : LK RX3 52 yX2_arrangements := Or.inr ⟨RX8, List.mem_filter.mpr ⟨List.mem_of_getElem? (i := 756) (by decide +kernel), by decide +kernel⟩⟩
theorem lk_X3_57 : LK RX3 57 yX4_movesAt := Or.inr ⟨RX8, List.mem_filter.mpr ⟨List.mem_of_getElem? (i := 760) (by decide +kernel), by decide +kernel⟩⟩
theorem lk_X3_61 : LK RX3 61 yJ6_bitCount_0f7a4 := Or.inl (List.mem_filter.mpr ⟨List.mem_of_getElem? (i := 761) (by decide +kernel), by decide +kernel⟩)
theorem lk_X3_66 : LK RX3 66 yX3_hand := Or.inl (List.mem_filter.mpr ⟨List.mem_of_getElem? (i := 762) (by decide +kernel), by decide +kernel⟩)
theorem lk_X3_73 : LK RX3 73 yX2_behind := Or.inr ⟨RX8, List.mem_filter.mpr ⟨List.mem_of_getElem? (i := 766) (by decide +kernel), by decide +kernel⟩⟩
theorem lk_L_95 : LK RL 95 yX8_judge := Or.inl (List.mem_filter.mpr ⟨List.mem_of_getElem? (i := 767) (by decide +kernel), by decide +kernel⟩)
theorem lk_X8_228 : LK RX8 228 yX2_firstWrong := Or.inr ⟨RX8, List.mem_filter.mpr ⟨List.mem_of_getElem? (i := 771) (by decide +kernel), by decide +kernel⟩⟩
theorem lk_X2_77 : LK RX2 77 yX2_numberOf := Or.inl (List.mem_filter.mpr ⟨List.mem_of_getElem? (i := 775) (by decide +kernel), by decide +kernel⟩)
theorem lk_X2_80 : LK RX2 80 yX2_allows := Or.inl (List.mem_filter.mpr ⟨List.mem_of_getElem? (i := 779) (by decide +kernel), by decide +kernel⟩)
theorem lk_X2_83 : LK RX2 83 yX2_carryOut := Or.inl (List.mem_filter.mpr ⟨List.mem_of_getElem? (i := 780) (by decide +kernel), by decide +kernel⟩)
theorem kc_X2_87 : Cond.constant RX2 87 (-1000000) ∈ TB := List.mem_filter.mpr ⟨List.mem_of_getElem? (i := 781) (by decide +kernel), by decide +kernel⟩
theorem lk_L_99 : LK RL 99 yX8_fits := Or.inl (List.mem_filter.mpr ⟨List.mem_of_getElem? (i := 782) (by decide +kernel), by decide +kernel⟩)
theorem lk_X8_232 : LK RX8 232 yX8_suppose := Or.inl (List.mem_filter.mpr ⟨List.mem_of_getElem? (i := 786) (by decide +kernel), by decide +kernel⟩)
theorem lk_X8_278 : LK RX8 278 yX2_sortAs := Or.inr ⟨RX8, List.mem_filter.mpr ⟨List.mem_of_getElem? (i := 790) (by decide +kernel), by decide +kernel⟩⟩
theorem lk_L_103 : LK RL 103 yX8_chance := Or.inl (List.mem_filter.mpr ⟨List.mem_of_getElem? (i := 791) (by decide +kernel), by decide +kernel⟩)
theorem lk_X8_236 : LK RX8 236 yX3_partsOn := Or.inr ⟨RX8, List.mem_filter.mpr ⟨List.mem_of_getElem? (i := 795) (by decide +kernel), by decide +kernel⟩⟩
theorem kj_X3_42 : Cond.constantLong RX3 42 (60) ∈ TB := List.mem_filter.mpr ⟨List.mem_of_getElem? (i := 799) (by decide +kernel), by decide +kernel⟩
theorem lk_X3_44 : LK RX3 44 yX3_weightsOn := Or.inl (List.mem_filter.mpr ⟨List.mem_of_getElem? (i := 800) (by decide +kernel), by decide +kernel⟩)
theorem lk_X8_240 : LK RX8 240 yX3_partsOfAll := Or.inr ⟨RX8, List.mem_filter.mpr ⟨List.mem_of_getElem? (i := 804) (by decide +kernel), by decide +kernel⟩⟩
theorem lk_X8_244 : LK RX8 244 yX8_commonOf := Or.inl (List.mem_filter.mpr ⟨List.mem_of_getElem? (i := 808) (by decide +kernel), by decide +kernel⟩)
theorem lk_L_108 : LK RL 108 yX8_drawn := Or.inl (List.mem_filter.mpr ⟨List.mem_of_getElem? (i := 811) (by decide +kernel), by decide +kernel⟩)
theorem kc_X8_248 : Cond.constant RX8 248 (999999) ∈ TB := List.mem_filter.mpr ⟨List.mem_of_getElem? (i := 815) (by decide +kernel), by decide +kernel⟩
theorem lk_X8_249 : LK RX8 249 yX2_spendEvening := Or.inr ⟨RX8, List.mem_filter.mpr ⟨List.mem_of_getElem? (i := 816) (by decide +kernel), by decide +kernel⟩⟩
theorem kj_X2_88 : Cond.constantLong RX2 88 (16807) ∈ TB := List.mem_filter.mpr ⟨List.mem_of_getElem? (i := 820) (by decide +kernel), by decide +kernel⟩
theorem kj_X2_90 : Cond.constantLong RX2 90 (2147483647) ∈ TB := List.mem_filter.mpr ⟨List.mem_of_getElem? (i := 821) (by decide +kernel), by decide +kernel⟩
theorem lk_X2_92 : LK RX2 92 yX2_pick := Or.inl (List.mem_filter.mpr ⟨List.mem_of_getElem? (i := 822) (by decide +kernel), by decide +kernel⟩)
theorem lk_X2_95 : LK RX2 95 yX2_topOf := Or.inl (List.mem_filter.mpr ⟨List.mem_of_getElem? (i := 825) (by decide +kernel), by decide +kernel⟩)
theorem lk_L_112 : LK RL 112 yX8_image := Or.inl (List.mem_filter.mpr ⟨List.mem_of_getElem? (i := 826) (by decide +kernel), by decide +kernel⟩)
theorem lk_L_116 : LK RL 116 yX8_restore := Or.inl (List.mem_filter.mpr ⟨List.mem_of_getElem? (i := 830) (by decide +kernel), by decide +kernel⟩)
theorem lk_L_120 : LK RL 120 yX8_kind := Or.inl (List.mem_filter.mpr ⟨List.mem_of_getElem? (i := 834) (by decide +kernel), by decide +kernel⟩)
theorem lk_X8_255 : LK RX8 255 yX2_kindOf := Or.inr ⟨RX8, List.mem_filter.mpr ⟨List.mem_of_getElem? (i := 838) (by decide +kernel), by decide +kernel⟩⟩
theorem lk_L_124 : LK RL 124 yX8_as := Or.inl (List.mem_filter.mpr ⟨List.mem_of_getElem? (i := 839) (by decide +kernel), by decide +kernel⟩)
theorem lk_L_128 : LK RL 128 yX8_ask := Or.inl (List.mem_filter.mpr ⟨List.mem_of_getElem? (i := 845) (by decide +kernel), by decide +kernel⟩)
theorem lk_X8_261 : LK RX8 261 yX1_answer := Or.inr ⟨RX8, List.mem_filter.mpr ⟨List.mem_of_getElem? (i := 849) (by decide +kernel), by decide +kernel⟩⟩
theorem lk_X1_22 : LK RX1 22 yX2_kindOf := Or.inr ⟨RX8, List.mem_filter.mpr ⟨List.mem_of_getElem? (i := 853) (by decide +kernel), by decide +kernel⟩⟩
theorem lk_X1_31 : LK RX1 31 yX2_pegOf := Or.inr ⟨RX8, List.mem_filter.mpr ⟨List.mem_of_getElem? (i := 854) (by decide +kernel), by decide +kernel⟩⟩
theorem lk_X1_37 : LK RX1 37 yX2_lyingOn := Or.inr ⟨RX8, List.mem_filter.mpr ⟨List.mem_of_getElem? (i := 855) (by decide +kernel), by decide +kernel⟩⟩
theorem lk_X1_40 : LK RX1 40 yJ6_bitCount_0f7a4 := Or.inl (List.mem_filter.mpr ⟨List.mem_of_getElem? (i := 856) (by decide +kernel), by decide +kernel⟩)
theorem lk_X1_54 : LK RX1 54 yX1_give := Or.inl (List.mem_filter.mpr ⟨List.mem_of_getElem? (i := 861) (by decide +kernel), by decide +kernel⟩)
theorem lk_X1_59 : LK RX1 59 yX1_leaveNumber := Or.inl (List.mem_filter.mpr ⟨List.mem_of_getElem? (i := 865) (by decide +kernel), by decide +kernel⟩)
theorem lk_L_132 : LK RL 132 yX8_trace := Or.inl (List.mem_filter.mpr ⟨List.mem_of_getElem? (i := 869) (by decide +kernel), by decide +kernel⟩)
theorem lk_X8_265 : LK RX8 265 yX1_tracedAt := Or.inr ⟨RX8, List.mem_filter.mpr ⟨List.mem_of_getElem? (i := 873) (by decide +kernel), by decide +kernel⟩⟩
theorem kc_X1_58 : Cond.constant RX1 58 (-1000000) ∈ TB := List.mem_filter.mpr ⟨List.mem_of_getElem? (i := 877) (by decide +kernel), by decide +kernel⟩
theorem lk_L_136 : LK RL 136 yX8_count := Or.inl (List.mem_filter.mpr ⟨List.mem_of_getElem? (i := 878) (by decide +kernel), by decide +kernel⟩)
theorem lk_X8_268 : LK RX8 268 yX8_rowsThere := Or.inl (List.mem_filter.mpr ⟨List.mem_of_getElem? (i := 882) (by decide +kernel), by decide +kernel⟩)
theorem lk_L_140 : LK RL 140 yX8_status := Or.inl (List.mem_filter.mpr ⟨List.mem_of_getElem? (i := 886) (by decide +kernel), by decide +kernel⟩)
theorem lk_L_12 : LK RL 12 yX9_init := Or.inl (List.mem_filter.mpr ⟨List.mem_of_getElem? (i := 892) (by decide +kernel), by decide +kernel⟩)
theorem fl_X9_7 : FL RX9 7 9 0 := ⟨_, _, _, _, ci9, by decide, Or.inl (List.mem_filter.mpr ⟨List.mem_of_getElem? (i := 896) (by decide +kernel), by decide +kernel⟩)⟩
theorem pf_X9_7 : PF RX9 7 9 0 (tyX9 0) := ⟨_, _, _, _, ci9, by decide, List.mem_filter.mpr ⟨List.mem_of_getElem? (i := 896) (by decide +kernel), by decide +kernel⟩, by decide +kernel, by decide +kernel, tyX9_ok 0 (by decide)⟩
theorem fl_X9_13 : FL RX9 13 9 1 := ⟨_, _, _, _, ci9, by decide, Or.inl (List.mem_filter.mpr ⟨List.mem_of_getElem? (i := 897) (by decide +kernel), by decide +kernel⟩)⟩
theorem pf_X9_13 : PF RX9 13 9 1 (tyX9 1) := ⟨_, _, _, _, ci9, by decide, List.mem_filter.mpr ⟨List.mem_of_getElem? (i := 897) (by decide +kernel), by decide +kernel⟩, by decide +kernel, by decide +kernel, tyX9_ok 1 (by decide)⟩
theorem fl_X9_16 : FL RX9 16 9 2 := ⟨_, _, _, _, ci9, by decide, Or.inl (List.mem_filter.mpr ⟨List.mem_of_getElem? (i := 898) (by decide +kernel), by decide +kernel⟩)⟩
theorem pf_X9_16 : PF RX9 16 9 2 (tyX9 2) := ⟨_, _, _, _, ci9, by decide, List.mem_filter.mpr ⟨List.mem_of_getElem? (i := 898) (by decide +kernel), by decide +kernel⟩, by decide +kernel, by decide +kernel, tyX9_ok 2 (by decide)⟩
theorem fl_X9_49 : FL RX9 49 9 3 := ⟨_, _, _, _, ci9, by decide, Or.inl (List.mem_filter.mpr ⟨List.mem_of_getElem? (i := 899) (by decide +kernel), by decide +kernel⟩)⟩
theorem pl_X9_49 : PL RX9 49 9 3 (tyX9 3) := ⟨_, _, _, _, ci9, by decide, Or.inl (List.mem_filter.mpr ⟨List.mem_of_getElem? (i := 899) (by decide +kernel), by decide +kernel⟩), by decide +kernel, tyX9_ok 3 (by decide)⟩
theorem fl_X9_84 : FL RX9 84 9 4 := ⟨_, _, _, _, ci9, by decide, Or.inl (List.mem_filter.mpr ⟨List.mem_of_getElem? (i := 900) (by decide +kernel), by decide +kernel⟩)⟩
theorem pl_X9_84 : PL RX9 84 9 4 (tyX9 4) := ⟨_, _, _, _, ci9, by decide, Or.inl (List.mem_filter.mpr ⟨List.mem_of_getElem? (i := 900) (by decide +kernel), by decide +kernel⟩), by decide +kernel, tyX9_ok 4 (by decide)⟩
theorem fl_X9_19 : FL RX9 19 9 5 := ⟨_, _, _, _, ci9, by decide, Or.inl (List.mem_filter.mpr ⟨List.mem_of_getElem? (i := 901) (by decide +kernel), by decide +kernel⟩)⟩
theorem pf_X9_19 : PF RX9 19 9 5 (tyX9 5) := ⟨_, _, _, _, ci9, by decide, List.mem_filter.mpr ⟨List.mem_of_getElem? (i := 901) (by decide +kernel), by decide +kernel⟩, by decide +kernel, by decide +kernel, tyX9_ok 5 (by decide)⟩
theorem fl_X9_125 : FL RX9 125 9 6 := ⟨_, _, _, _, ci9, by decide, Or.inl (List.mem_filter.mpr ⟨List.mem_of_getElem? (i := 902) (by decide +kernel), by decide +kernel⟩)⟩
theorem pl_X9_125 : PL RX9 125 9 6 (tyX9 6) := ⟨_, _, _, _, ci9, by decide, Or.inl (List.mem_filter.mpr ⟨List.mem_of_getElem? (i := 902) (by decide +kernel), by decide +kernel⟩), by decide +kernel, tyX9_ok 6 (by decide)⟩
theorem fl_X9_94 : FL RX9 94 9 7 := ⟨_, _, _, _, ci9, by decide, Or.inl (List.mem_filter.mpr ⟨List.mem_of_getElem? (i := 903) (by decide +kernel), by decide +kernel⟩)⟩
theorem pl_X9_94 : PL RX9 94 9 7 (tyX9 7) := ⟨_, _, _, _, ci9, by decide, Or.inl (List.mem_filter.mpr ⟨List.mem_of_getElem? (i := 903) (by decide +kernel), by decide +kernel⟩), by decide +kernel, tyX9_ok 7 (by decide)⟩
theorem fl_X9_91 : FL RX9 91 9 8 := ⟨_, _, _, _, ci9, by decide, Or.inl (List.mem_filter.mpr ⟨List.mem_of_getElem? (i := 904) (by decide +kernel), by decide +kernel⟩)⟩
theorem pl_X9_91 : PL RX9 91 9 8 (tyX9 8) := ⟨_, _, _, _, ci9, by decide, Or.inl (List.mem_filter.mpr ⟨List.mem_of_getElem? (i := 904) (by decide +kernel), by decide +kernel⟩), by decide +kernel, tyX9_ok 8 (by decide)⟩
theorem fl_X9_88 : FL RX9 88 9 9 := ⟨_, _, _, _, ci9, by decide, Or.inl (List.mem_filter.mpr ⟨List.mem_of_getElem? (i := 905) (by decide +kernel), by decide +kernel⟩)⟩
theorem pl_X9_88 : PL RX9 88 9 9 (tyX9 9) := ⟨_, _, _, _, ci9, by decide, Or.inl (List.mem_filter.mpr ⟨List.mem_of_getElem? (i := 905) (by decide +kernel), by decide +kernel⟩), by decide +kernel, tyX9_ok 9 (by decide)⟩
theorem fl_X9_23 : FL RX9 23 9 10 := ⟨_, _, _, _, ci9, by decide, Or.inl (List.mem_filter.mpr ⟨List.mem_of_getElem? (i := 906) (by decide +kernel), by decide +kernel⟩)⟩
theorem pf_X9_23 : PF RX9 23 9 10 (tyX9 10) := ⟨_, _, _, _, ci9, by decide, List.mem_filter.mpr ⟨List.mem_of_getElem? (i := 906) (by decide +kernel), by decide +kernel⟩, by decide +kernel, by decide +kernel, tyX9_ok 10 (by decide)⟩
theorem fl_X9_132 : FL RX9 132 9 11 := ⟨_, _, _, _, ci9, by decide, Or.inl (List.mem_filter.mpr ⟨List.mem_of_getElem? (i := 907) (by decide +kernel), by decide +kernel⟩)⟩
theorem pl_X9_132 : PL RX9 132 9 11 (tyX9 11) := ⟨_, _, _, _, ci9, by decide, Or.inl (List.mem_filter.mpr ⟨List.mem_of_getElem? (i := 907) (by decide +kernel), by decide +kernel⟩), by decide +kernel, tyX9_ok 11 (by decide)⟩
theorem fl_X9_26 : FL RX9 26 9 12 := ⟨_, _, _, _, ci9, by decide, Or.inl (List.mem_filter.mpr ⟨List.mem_of_getElem? (i := 908) (by decide +kernel), by decide +kernel⟩)⟩
theorem pf_X9_26 : PF RX9 26 9 12 (tyX9 12) := ⟨_, _, _, _, ci9, by decide, List.mem_filter.mpr ⟨List.mem_of_getElem? (i := 908) (by decide +kernel), by decide +kernel⟩, by decide +kernel, by decide +kernel, tyX9_ok 12 (by decide)⟩
theorem fl_X9_30 : FL RX9 30 9 13 := ⟨_, _, _, _, ci9, by decide, Or.inl (List.mem_filter.mpr ⟨List.mem_of_getElem? (i := 909) (by decide +kernel), by decide +kernel⟩)⟩
theorem pf_X9_30 : PF RX9 30 9 13 (tyX9 13) := ⟨_, _, _, _, ci9, by decide, List.mem_filter.mpr ⟨List.mem_of_getElem? (i := 909) (by decide +kernel), by decide +kernel⟩, by decide +kernel, by decide +kernel, tyX9_ok 13 (by decide)⟩
theorem fl_X9_33 : FL RX9 33 9 14 := ⟨_, _, _, _, ci9, by decide, Or.inl (List.mem_filter.mpr ⟨List.mem_of_getElem? (i := 910) (by decide +kernel), by decide +kernel⟩)⟩
theorem pf_X9_33 : PF RX9 33 9 14 (tyX9 14) := ⟨_, _, _, _, ci9, by decide, List.mem_filter.mpr ⟨List.mem_of_getElem? (i := 910) (by decide +kernel), by decide +kernel⟩, by decide +kernel, by decide +kernel, tyX9_ok 14 (by decide)⟩
theorem fl_X9_36 : FL RX9 36 9 15 := ⟨_, _, _, _, ci9, by decide, Or.inl (List.mem_filter.mpr ⟨List.mem_of_getElem? (i := 911) (by decide +kernel), by decide +kernel⟩)⟩
theorem pf_X9_36 : PF RX9 36 9 15 (tyX9 15) := ⟨_, _, _, _, ci9, by decide, List.mem_filter.mpr ⟨List.mem_of_getElem? (i := 911) (by decide +kernel), by decide +kernel⟩, by decide +kernel, by decide +kernel, tyX9_ok 15 (by decide)⟩
theorem fl_X9_196 : FL RX9 196 9 16 := ⟨_, _, _, _, ci9, by decide, Or.inl (List.mem_filter.mpr ⟨List.mem_of_getElem? (i := 912) (by decide +kernel), by decide +kernel⟩)⟩
theorem pl_X9_196 : PL RX9 196 9 16 (tyX9 16) := ⟨_, _, _, _, ci9, by decide, Or.inl (List.mem_filter.mpr ⟨List.mem_of_getElem? (i := 912) (by decide +kernel), by decide +kernel⟩), by decide +kernel, tyX9_ok 16 (by decide)⟩
theorem fl_X9_39 : FL RX9 39 9 17 := ⟨_, _, _, _, ci9, by decide, Or.inl (List.mem_filter.mpr ⟨List.mem_of_getElem? (i := 913) (by decide +kernel), by decide +kernel⟩)⟩
theorem pf_X9_39 : PF RX9 39 9 17 (tyX9 17) := ⟨_, _, _, _, ci9, by decide, List.mem_filter.mpr ⟨List.mem_of_getElem? (i := 913) (by decide +kernel), by decide +kernel⟩, by decide +kernel, by decide +kernel, tyX9_ok 17 (by decide)⟩
theorem fl_X9_43 : FL RX9 43 9 18 := ⟨_, _, _, _, ci9, by decide, Or.inl (List.mem_filter.mpr ⟨List.mem_of_getElem? (i := 914) (by decide +kernel), by decide +kernel⟩)⟩
theorem pf_X9_43 : PF RX9 43 9 18 (tyX9 18) := ⟨_, _, _, _, ci9, by decide, List.mem_filter.mpr ⟨List.mem_of_getElem? (i := 914) (by decide +kernel), by decide +kernel⟩, by decide +kernel, by decide +kernel, tyX9_ok 18 (by decide)⟩
theorem fl_X9_145 : FL RX9 145 9 19 := ⟨_, _, _, _, ci9, by decide, Or.inl (List.mem_filter.mpr ⟨List.mem_of_getElem? (i := 915) (by decide +kernel), by decide +kernel⟩)⟩
theorem pl_X9_145 : PL RX9 145 9 19 (tyX9 19) := ⟨_, _, _, _, ci9, by decide, Or.inl (List.mem_filter.mpr ⟨List.mem_of_getElem? (i := 915) (by decide +kernel), by decide +kernel⟩), by decide +kernel, tyX9_ok 19 (by decide)⟩
theorem fl_X9_142 : FL RX9 142 9 20 := ⟨_, _, _, _, ci9, by decide, Or.inl (List.mem_filter.mpr ⟨List.mem_of_getElem? (i := 916) (by decide +kernel), by decide +kernel⟩)⟩
theorem pl_X9_142 : PL RX9 142 9 20 (tyX9 20) := ⟨_, _, _, _, ci9, by decide, Or.inl (List.mem_filter.mpr ⟨List.mem_of_getElem? (i := 916) (by decide +kernel), by decide +kernel⟩), by decide +kernel, tyX9_ok 20 (by decide)⟩
theorem fl_X9_160 : FL RX9 160 9 21 := ⟨_, _, _, _, ci9, by decide, Or.inl (List.mem_filter.mpr ⟨List.mem_of_getElem? (i := 917) (by decide +kernel), by decide +kernel⟩)⟩
theorem pl_X9_160 : PL RX9 160 9 21 (tyX9 21) := ⟨_, _, _, _, ci9, by decide, Or.inl (List.mem_filter.mpr ⟨List.mem_of_getElem? (i := 917) (by decide +kernel), by decide +kernel⟩), by decide +kernel, tyX9_ok 21 (by decide)⟩
theorem fl_X9_46 : FL RX9 46 9 22 := ⟨_, _, _, _, ci9, by decide, Or.inl (List.mem_filter.mpr ⟨List.mem_of_getElem? (i := 918) (by decide +kernel), by decide +kernel⟩)⟩
theorem pf_X9_46 : PF RX9 46 9 22 (tyX9 22) := ⟨_, _, _, _, ci9, by decide, List.mem_filter.mpr ⟨List.mem_of_getElem? (i := 918) (by decide +kernel), by decide +kernel⟩, by decide +kernel, by decide +kernel, tyX9_ok 22 (by decide)⟩
theorem fl_X9_260 : FL RX9 260 9 23 := ⟨_, _, _, _, ci9, by decide, Or.inl (List.mem_filter.mpr ⟨List.mem_of_getElem? (i := 919) (by decide +kernel), by decide +kernel⟩)⟩
theorem pl_X9_260 : PL RX9 260 9 23 (tyX9 23) := ⟨_, _, _, _, ci9, by decide, Or.inl (List.mem_filter.mpr ⟨List.mem_of_getElem? (i := 919) (by decide +kernel), by decide +kernel⟩), by decide +kernel, tyX9_ok 23 (by decide)⟩
theorem lk_L_17 : LK RL 17 yX9_row := Or.inl (List.mem_filter.mpr ⟨List.mem_of_getElem? (i := 971) (by decide +kernel), by decide +kernel⟩)
theorem lk_X9_60 : LK RX9 60 yX9_isRow := Or.inl (List.mem_filter.mpr ⟨List.mem_of_getElem? (i := 975) (by decide +kernel), by decide +kernel⟩)
theorem kj_X9_54 : Cond.constantLong RX9 54 (7) ∈ TB := List.mem_filter.mpr ⟨List.mem_of_getElem? (i := 978) (by decide +kernel), by decide +kernel⟩
theorem lk_X9_56 : LK RX9 56 yX9_in := Or.inl (List.mem_filter.mpr ⟨List.mem_of_getElem? (i := 979) (by decide +kernel), by decide +kernel⟩)
theorem kj_X9_64 : Cond.constantLong RX9 64 (2) ∈ TB := List.mem_filter.mpr ⟨List.mem_of_getElem? (i := 982) (by decide +kernel), by decide +kernel⟩
theorem kc_X9_66 : Cond.constant RX9 66 (-1000001) ∈ TB := List.mem_filter.mpr ⟨List.mem_of_getElem? (i := 983) (by decide +kernel), by decide +kernel⟩
theorem lk_X9_67 : LK RX9 67 yX9_finds := Or.inl (List.mem_filter.mpr ⟨List.mem_of_getElem? (i := 984) (by decide +kernel), by decide +kernel⟩)
theorem kc_X9_53 : Cond.constant RX9 53 (-1000010) ∈ TB := List.mem_filter.mpr ⟨List.mem_of_getElem? (i := 988) (by decide +kernel), by decide +kernel⟩
theorem lk_X9_71 : LK RX9 71 yX9_good := Or.inl (List.mem_filter.mpr ⟨List.mem_of_getElem? (i := 989) (by decide +kernel), by decide +kernel⟩)
theorem lk_L_21 : LK RL 21 yX9_set := Or.inl (List.mem_filter.mpr ⟨List.mem_of_getElem? (i := 993) (by decide +kernel), by decide +kernel⟩)
theorem lk_X9_74 : LK RX9 74 yX9_cut := Or.inl (List.mem_filter.mpr ⟨List.mem_of_getElem? (i := 997) (by decide +kernel), by decide +kernel⟩)
theorem lk_L_26 : LK RL 26 yX9_copy := Or.inl (List.mem_filter.mpr ⟨List.mem_of_getElem? (i := 1000) (by decide +kernel), by decide +kernel⟩)
theorem lk_X9_78 : LK RX9 78 yX9_isWithin := Or.inl (List.mem_filter.mpr ⟨List.mem_of_getElem? (i := 1004) (by decide +kernel), by decide +kernel⟩)
theorem lk_L_31 : LK RL 31 yX9_drop := Or.inl (List.mem_filter.mpr ⟨List.mem_of_getElem? (i := 1008) (by decide +kernel), by decide +kernel⟩)
theorem lk_L_35 : LK RL 35 yX9_feed := Or.inl (List.mem_filter.mpr ⟨List.mem_of_getElem? (i := 1012) (by decide +kernel), by decide +kernel⟩)
theorem kj_X9_82 : Cond.constantLong RX9 82 (255) ∈ TB := List.mem_filter.mpr ⟨List.mem_of_getElem? (i := 1016) (by decide +kernel), by decide +kernel⟩
theorem kc_X9_87 : Cond.constant RX9 87 (-1000003) ∈ TB := List.mem_filter.mpr ⟨List.mem_of_getElem? (i := 1017) (by decide +kernel), by decide +kernel⟩
theorem lk_L_40 : LK RL 40 yX9_board := Or.inl (List.mem_filter.mpr ⟨List.mem_of_getElem? (i := 1018) (by decide +kernel), by decide +kernel⟩)
theorem lk_X9_115 : LK RX9 115 yX9_sign := Or.inl (List.mem_filter.mpr ⟨List.mem_of_getElem? (i := 1022) (by decide +kernel), by decide +kernel⟩)
theorem lk_X9_97 : LK RX9 97 yX9_byteAt := Or.inl (List.mem_filter.mpr ⟨List.mem_of_getElem? (i := 1026) (by decide +kernel), by decide +kernel⟩)
theorem lk_X9_100 : LK RX9 100 yX9_fails := Or.inl (List.mem_filter.mpr ⟨List.mem_of_getElem? (i := 1030) (by decide +kernel), by decide +kernel⟩)
theorem lk_X9_111 : LK RX9 111 yX9_number := Or.inl (List.mem_filter.mpr ⟨List.mem_of_getElem? (i := 1034) (by decide +kernel), by decide +kernel⟩)
theorem kj_X9_104 : Cond.constantLong RX9 104 (48) ∈ TB := List.mem_filter.mpr ⟨List.mem_of_getElem? (i := 1038) (by decide +kernel), by decide +kernel⟩
theorem kj_X9_106 : Cond.constantLong RX9 106 (57) ∈ TB := List.mem_filter.mpr ⟨List.mem_of_getElem? (i := 1039) (by decide +kernel), by decide +kernel⟩
theorem lk_X9_119 : LK RX9 119 yX9_discItem := Or.inl (List.mem_filter.mpr ⟨List.mem_of_getElem? (i := 1040) (by decide +kernel), by decide +kernel⟩)
theorem lk_X9_108 : LK RX9 108 yX9_sortOf := Or.inl (List.mem_filter.mpr ⟨List.mem_of_getElem? (i := 1044) (by decide +kernel), by decide +kernel⟩)
theorem lk_X9_122 : LK RX9 122 yX9_smaller := Or.inl (List.mem_filter.mpr ⟨List.mem_of_getElem? (i := 1047) (by decide +kernel), by decide +kernel⟩)
theorem kc_X9_128 : Cond.constant RX9 128 (-1000100) ∈ TB := List.mem_filter.mpr ⟨List.mem_of_getElem? (i := 1050) (by decide +kernel), by decide +kernel⟩
theorem lk_X9_129 : LK RX9 129 yX9_copies := Or.inl (List.mem_filter.mpr ⟨List.mem_of_getElem? (i := 1051) (by decide +kernel), by decide +kernel⟩)
theorem lk_L_44 : LK RL 44 yX9_fault := Or.inl (List.mem_filter.mpr ⟨List.mem_of_getElem? (i := 1055) (by decide +kernel), by decide +kernel⟩)
theorem lk_L_49 : LK RL 49 yX9_move := Or.inl (List.mem_filter.mpr ⟨List.mem_of_getElem? (i := 1059) (by decide +kernel), by decide +kernel⟩)
theorem lk_X9_163 : LK RX9 163 yX9_isPeg := Or.inl (List.mem_filter.mpr ⟨List.mem_of_getElem? (i := 1063) (by decide +kernel), by decide +kernel⟩)
theorem lk_X9_166 : LK RX9 166 yX9_asTold := Or.inl (List.mem_filter.mpr ⟨List.mem_of_getElem? (i := 1067) (by decide +kernel), by decide +kernel⟩)
theorem lk_X9_169 : LK RX9 169 yX9_state := Or.inl (List.mem_filter.mpr ⟨List.mem_of_getElem? (i := 1071) (by decide +kernel), by decide +kernel⟩)
theorem lk_X9_173 : LK RX9 173 yX9_mover := Or.inl (List.mem_filter.mpr ⟨List.mem_of_getElem? (i := 1075) (by decide +kernel), by decide +kernel⟩)
theorem lk_X9_148 : LK RX9 148 yX9_lying := Or.inl (List.mem_filter.mpr ⟨List.mem_of_getElem? (i := 1079) (by decide +kernel), by decide +kernel⟩)
theorem lk_X9_135 : LK RX9 135 yX9_pegIn := Or.inl (List.mem_filter.mpr ⟨List.mem_of_getElem? (i := 1083) (by decide +kernel), by decide +kernel⟩)
theorem lk_X9_151 : LK RX9 151 yX9_lowest := Or.inl (List.mem_filter.mpr ⟨List.mem_of_getElem? (i := 1086) (by decide +kernel), by decide +kernel⟩)
theorem lk_X9_138 : LK RX9 138 yX9_has := Or.inl (List.mem_filter.mpr ⟨List.mem_of_getElem? (i := 1089) (by decide +kernel), by decide +kernel⟩)
theorem lk_X9_154 : LK RX9 154 yX9_kindTold := Or.inl (List.mem_filter.mpr ⟨List.mem_of_getElem? (i := 1092) (by decide +kernel), by decide +kernel⟩)
theorem lk_X9_157 : LK RX9 157 yX9_bits := Or.inl (List.mem_filter.mpr ⟨List.mem_of_getElem? (i := 1096) (by decide +kernel), by decide +kernel⟩)
theorem kc_X9_176 : Cond.constant RX9 176 (-1000002) ∈ TB := List.mem_filter.mpr ⟨List.mem_of_getElem? (i := 1099) (by decide +kernel), by decide +kernel⟩
theorem lk_X9_177 : LK RX9 177 yX9_known := Or.inl (List.mem_filter.mpr ⟨List.mem_of_getElem? (i := 1100) (by decide +kernel), by decide +kernel⟩)
theorem lk_L_53 : LK RL 53 yX9_put := Or.inl (List.mem_filter.mpr ⟨List.mem_of_getElem? (i := 1104) (by decide +kernel), by decide +kernel⟩)
theorem lk_X9_180 : LK RX9 180 yX9_isDisc := Or.inl (List.mem_filter.mpr ⟨List.mem_of_getElem? (i := 1108) (by decide +kernel), by decide +kernel⟩)
theorem lk_L_57 : LK RL 57 yX9_high := Or.inl (List.mem_filter.mpr ⟨List.mem_of_getElem? (i := 1112) (by decide +kernel), by decide +kernel⟩)
theorem lk_X9_183 : LK RX9 183 yX9_isBoard := Or.inl (List.mem_filter.mpr ⟨List.mem_of_getElem? (i := 1116) (by decide +kernel), by decide +kernel⟩)
theorem kj_X9_187 : Cond.constantLong RX9 187 (6) ∈ TB := List.mem_filter.mpr ⟨List.mem_of_getElem? (i := 1120) (by decide +kernel), by decide +kernel⟩
theorem lk_L_61 : LK RL 61 yX9_undo := Or.inl (List.mem_filter.mpr ⟨List.mem_of_getElem? (i := 1121) (by decide +kernel), by decide +kernel⟩)
theorem lk_L_65 : LK RL 65 yX9_disc := Or.inl (List.mem_filter.mpr ⟨List.mem_of_getElem? (i := 1125) (by decide +kernel), by decide +kernel⟩)
theorem lk_L_69 : LK RL 69 yX9_peg := Or.inl (List.mem_filter.mpr ⟨List.mem_of_getElem? (i := 1129) (by decide +kernel), by decide +kernel⟩)
theorem kc_X9_189 : Cond.constant RX9 189 (-1000000) ∈ TB := List.mem_filter.mpr ⟨List.mem_of_getElem? (i := 1133) (by decide +kernel), by decide +kernel⟩
theorem lk_L_73 : LK RL 73 yX9_can := Or.inl (List.mem_filter.mpr ⟨List.mem_of_getElem? (i := 1134) (by decide +kernel), by decide +kernel⟩)
theorem lk_X9_190 : LK RX9 190 yX9_movesOf := Or.inl (List.mem_filter.mpr ⟨List.mem_of_getElem? (i := 1138) (by decide +kernel), by decide +kernel⟩)
theorem lk_L_77 : LK RL 77 yX9_least := Or.inl (List.mem_filter.mpr ⟨List.mem_of_getElem? (i := 1142) (by decide +kernel), by decide +kernel⟩)
theorem lk_X9_211 : LK RX9 211 yX9_wrongOf := Or.inl (List.mem_filter.mpr ⟨List.mem_of_getElem? (i := 1146) (by decide +kernel), by decide +kernel⟩)
theorem lk_X9_214 : LK RX9 214 yX9_told := Or.inl (List.mem_filter.mpr ⟨List.mem_of_getElem? (i := 1150) (by decide +kernel), by decide +kernel⟩)
theorem lk_X9_217 : LK RX9 217 yX9_leastTo := Or.inl (List.mem_filter.mpr ⟨List.mem_of_getElem? (i := 1154) (by decide +kernel), by decide +kernel⟩)
theorem lk_X9_202 : LK RX9 202 yX9_spreads := Or.inl (List.mem_filter.mpr ⟨List.mem_of_getElem? (i := 1158) (by decide +kernel), by decide +kernel⟩)
theorem lk_X9_199 : LK RX9 199 yX9_behind := Or.inl (List.mem_filter.mpr ⟨List.mem_of_getElem? (i := 1162) (by decide +kernel), by decide +kernel⟩)
theorem lk_X9_193 : LK RX9 193 yX9_moved := Or.inl (List.mem_filter.mpr ⟨List.mem_of_getElem? (i := 1166) (by decide +kernel), by decide +kernel⟩)
theorem lk_X9_205 : LK RX9 205 yX9_farTo := Or.inl (List.mem_filter.mpr ⟨List.mem_of_getElem? (i := 1169) (by decide +kernel), by decide +kernel⟩)
theorem lk_X9_208 : LK RX9 208 yX9_kth := Or.inl (List.mem_filter.mpr ⟨List.mem_of_getElem? (i := 1173) (by decide +kernel), by decide +kernel⟩)
theorem lk_L_81 : LK RL 81 yX9_tower := Or.inl (List.mem_filter.mpr ⟨List.mem_of_getElem? (i := 1177) (by decide +kernel), by decide +kernel⟩)
theorem lk_L_85 : LK RL 85 yX9_world := Or.inl (List.mem_filter.mpr ⟨List.mem_of_getElem? (i := 1181) (by decide +kernel), by decide +kernel⟩)
theorem kj_X9_220 : Cond.constantLong RX9 220 (3) ∈ TB := List.mem_filter.mpr ⟨List.mem_of_getElem? (i := 1185) (by decide +kernel), by decide +kernel⟩
theorem lk_X9_222 : LK RX9 222 yX9_codeOf := Or.inl (List.mem_filter.mpr ⟨List.mem_of_getElem? (i := 1186) (by decide +kernel), by decide +kernel⟩)
theorem lk_X9_225 : LK RX9 225 yX9_larger := Or.inl (List.mem_filter.mpr ⟨List.mem_of_getElem? (i := 1190) (by decide +kernel), by decide +kernel⟩)
theorem lk_L_89 : LK RL 89 yX9_ring := Or.inl (List.mem_filter.mpr ⟨List.mem_of_getElem? (i := 1193) (by decide +kernel), by decide +kernel⟩)
theorem lk_L_94 : LK RL 94 yX9_ways := Or.inl (List.mem_filter.mpr ⟨List.mem_of_getElem? (i := 1197) (by decide +kernel), by decide +kernel⟩)
theorem kj_X9_230 : Cond.constantLong RX9 230 (-1000002) ∈ TB := List.mem_filter.mpr ⟨List.mem_of_getElem? (i := 1201) (by decide +kernel), by decide +kernel⟩
theorem kj_X9_232 : Cond.constantLong RX9 232 (12) ∈ TB := List.mem_filter.mpr ⟨List.mem_of_getElem? (i := 1202) (by decide +kernel), by decide +kernel⟩
theorem kj_X9_234 : Cond.constantLong RX9 234 (-1000001) ∈ TB := List.mem_filter.mpr ⟨List.mem_of_getElem? (i := 1203) (by decide +kernel), by decide +kernel⟩
theorem lk_X9_236 : LK RX9 236 yX9_beginsWays := Or.inl (List.mem_filter.mpr ⟨List.mem_of_getElem? (i := 1204) (by decide +kernel), by decide +kernel⟩)
theorem lk_X9_239 : LK RX9 239 yX9_stepWays := Or.inl (List.mem_filter.mpr ⟨List.mem_of_getElem? (i := 1208) (by decide +kernel), by decide +kernel⟩)
theorem kj_X9_228 : Cond.constantLong RX9 228 (60) ∈ TB := List.mem_filter.mpr ⟨List.mem_of_getElem? (i := 1212) (by decide +kernel), by decide +kernel⟩
theorem lk_L_98 : LK RL 98 yX9_judge := Or.inl (List.mem_filter.mpr ⟨List.mem_of_getElem? (i := 1213) (by decide +kernel), by decide +kernel⟩)
theorem kj_X9_243 : Cond.constantLong RX9 243 (16) ∈ TB := List.mem_filter.mpr ⟨List.mem_of_getElem? (i := 1217) (by decide +kernel), by decide +kernel⟩
theorem lk_X9_245 : LK RX9 245 yX9_judged := Or.inl (List.mem_filter.mpr ⟨List.mem_of_getElem? (i := 1218) (by decide +kernel), by decide +kernel⟩)
theorem lk_L_102 : LK RL 102 yX9_fits := Or.inl (List.mem_filter.mpr ⟨List.mem_of_getElem? (i := 1222) (by decide +kernel), by decide +kernel⟩)
theorem kj_X9_249 : Cond.constantLong RX9 249 (5) ∈ TB := List.mem_filter.mpr ⟨List.mem_of_getElem? (i := 1226) (by decide +kernel), by decide +kernel⟩
theorem lk_L_107 : LK RL 107 yX9_chance := Or.inl (List.mem_filter.mpr ⟨List.mem_of_getElem? (i := 1227) (by decide +kernel), by decide +kernel⟩)
theorem lk_L_111 : LK RL 111 yX9_drawn := Or.inl (List.mem_filter.mpr ⟨List.mem_of_getElem? (i := 1231) (by decide +kernel), by decide +kernel⟩)
theorem kj_X9_251 : Cond.constantLong RX9 251 (999999) ∈ TB := List.mem_filter.mpr ⟨List.mem_of_getElem? (i := 1235) (by decide +kernel), by decide +kernel⟩
theorem kj_X9_253 : Cond.constantLong RX9 253 (16807) ∈ TB := List.mem_filter.mpr ⟨List.mem_of_getElem? (i := 1236) (by decide +kernel), by decide +kernel⟩
theorem kj_X9_255 : Cond.constantLong RX9 255 (2147483647) ∈ TB := List.mem_filter.mpr ⟨List.mem_of_getElem? (i := 1237) (by decide +kernel), by decide +kernel⟩
theorem lk_L_115 : LK RL 115 yX9_image := Or.inl (List.mem_filter.mpr ⟨List.mem_of_getElem? (i := 1238) (by decide +kernel), by decide +kernel⟩)
theorem lk_L_119 : LK RL 119 yX9_restore := Or.inl (List.mem_filter.mpr ⟨List.mem_of_getElem? (i := 1242) (by decide +kernel), by decide +kernel⟩)
theorem lk_L_123 : LK RL 123 yX9_kind := Or.inl (List.mem_filter.mpr ⟨List.mem_of_getElem? (i := 1246) (by decide +kernel), by decide +kernel⟩)
theorem lk_L_127 : LK RL 127 yX9_as := Or.inl (List.mem_filter.mpr ⟨List.mem_of_getElem? (i := 1250) (by decide +kernel), by decide +kernel⟩)
theorem lk_X9_257 : LK RX9 257 yX9_isOf := Or.inl (List.mem_filter.mpr ⟨List.mem_of_getElem? (i := 1254) (by decide +kernel), by decide +kernel⟩)
theorem lk_L_131 : LK RL 131 yX9_ask := Or.inl (List.mem_filter.mpr ⟨List.mem_of_getElem? (i := 1257) (by decide +kernel), by decide +kernel⟩)
theorem lk_X9_293 : LK RX9 293 yX9_plainMark := Or.inl (List.mem_filter.mpr ⟨List.mem_of_getElem? (i := 1261) (by decide +kernel), by decide +kernel⟩)
theorem lk_X9_287 : LK RX9 287 yX9_body24 := Or.inl (List.mem_filter.mpr ⟨List.mem_of_getElem? (i := 1265) (by decide +kernel), by decide +kernel⟩)
theorem lk_X9_263 : LK RX9 263 yX9_leaves := Or.inl (List.mem_filter.mpr ⟨List.mem_of_getElem? (i := 1269) (by decide +kernel), by decide +kernel⟩)
theorem lk_X9_272 : LK RX9 272 yX9_body21 := Or.inl (List.mem_filter.mpr ⟨List.mem_of_getElem? (i := 1273) (by decide +kernel), by decide +kernel⟩)
theorem lk_X9_266 : LK RX9 266 yX9_body20 := Or.inl (List.mem_filter.mpr ⟨List.mem_of_getElem? (i := 1277) (by decide +kernel), by decide +kernel⟩)
theorem lk_X9_269 : LK RX9 269 yX9_many := Or.inl (List.mem_filter.mpr ⟨List.mem_of_getElem? (i := 1281) (by decide +kernel), by decide +kernel⟩)
theorem lk_X9_290 : LK RX9 290 yX9_body22 := Or.inl (List.mem_filter.mpr ⟨List.mem_of_getElem? (i := 1285) (by decide +kernel), by decide +kernel⟩)
theorem lk_X9_299 : LK RX9 299 yX9_body23 := Or.inl (List.mem_filter.mpr ⟨List.mem_of_getElem? (i := 1289) (by decide +kernel), by decide +kernel⟩)
theorem lk_X9_275 : LK RX9 275 yX9_glassSize := Or.inl (List.mem_filter.mpr ⟨List.mem_of_getElem? (i := 1293) (by decide +kernel), by decide +kernel⟩)
theorem lk_X9_284 : LK RX9 284 yX9_body14 := Or.inl (List.mem_filter.mpr ⟨List.mem_of_getElem? (i := 1297) (by decide +kernel), by decide +kernel⟩)
theorem lk_X9_281 : LK RX9 281 yX9_body13 := Or.inl (List.mem_filter.mpr ⟨List.mem_of_getElem? (i := 1301) (by decide +kernel), by decide +kernel⟩)
theorem lk_X9_278 : LK RX9 278 yX9_body10 := Or.inl (List.mem_filter.mpr ⟨List.mem_of_getElem? (i := 1305) (by decide +kernel), by decide +kernel⟩)
theorem lk_X9_302 : LK RX9 302 yX9_body12 := Or.inl (List.mem_filter.mpr ⟨List.mem_of_getElem? (i := 1309) (by decide +kernel), by decide +kernel⟩)
theorem lk_X9_296 : LK RX9 296 yX9_body11 := Or.inl (List.mem_filter.mpr ⟨List.mem_of_getElem? (i := 1313) (by decide +kernel), by decide +kernel⟩)
theorem lk_L_135 : LK RL 135 yX9_trace := Or.inl (List.mem_filter.mpr ⟨List.mem_of_getElem? (i := 1317) (by decide +kernel), by decide +kernel⟩)
theorem lk_L_139 : LK RL 139 yX9_count := Or.inl (List.mem_filter.mpr ⟨List.mem_of_getElem? (i := 1321) (by decide +kernel), by decide +kernel⟩)
theorem lk_L_143 : LK RL 143 yX9_status := Or.inl (List.mem_filter.mpr ⟨List.mem_of_getElem? (i := 1325) (by decide +kernel), by decide +kernel⟩)
theorem mw_X0_init : MW yX0_init cX0_init 2 none 0 := ⟨List.mem_filter.mpr ⟨List.mem_of_getElem? (i := 208) (by decide +kernel), by decide +kernel⟩, List.mem_filter.mpr ⟨List.mem_of_getElem? (i := 122) (by decide +kernel), by decide +kernel⟩, ⟨by decide +kernel, by decide +kernel, by decide +kernel⟩, by decide⟩
theorem mv_X0_keep : MV 0 yX0_keep cX0_keep 2 none 1 := ⟨⟨List.mem_filter.mpr ⟨List.mem_of_getElem? (i := 485) (by decide +kernel), by decide +kernel⟩, List.mem_filter.mpr ⟨List.mem_of_getElem? (i := 122) (by decide +kernel), by decide +kernel⟩, ⟨by decide +kernel, by decide +kernel, by decide +kernel⟩, by decide⟩, List.mem_filter.mpr ⟨List.mem_of_getElem? (i := 484) (by decide +kernel), by decide +kernel⟩, List.mem_filter.mpr ⟨List.mem_of_getElem? (i := 30) (by decide +kernel), by decide +kernel⟩, ⟨_, _, rfl⟩⟩
theorem mv_X0_takeBack : MV 0 yX0_takeBack cX0_takeBack 2 (some .boolean) 1 := ⟨⟨List.mem_filter.mpr ⟨List.mem_of_getElem? (i := 523) (by decide +kernel), by decide +kernel⟩, List.mem_filter.mpr ⟨List.mem_of_getElem? (i := 122) (by decide +kernel), by decide +kernel⟩, ⟨by decide +kernel, by decide +kernel, by decide +kernel⟩, by decide⟩, List.mem_filter.mpr ⟨List.mem_of_getElem? (i := 522) (by decide +kernel), by decide +kernel⟩, List.mem_filter.mpr ⟨List.mem_of_getElem? (i := 36) (by decide +kernel), by decide +kernel⟩, ⟨_, _, rfl⟩⟩
theorem mv_X0_forget : MV 0 yX0_forget cX0_forget 1 none 0 := ⟨⟨List.mem_filter.mpr ⟨List.mem_of_getElem? (i := 427) (by decide +kernel), by decide +kernel⟩, List.mem_filter.mpr ⟨List.mem_of_getElem? (i := 122) (by decide +kernel), by decide +kernel⟩, ⟨by decide +kernel, by decide +kernel, by decide +kernel⟩, by decide⟩, List.mem_filter.mpr ⟨List.mem_of_getElem? (i := 426) (by decide +kernel), by decide +kernel⟩, List.mem_filter.mpr ⟨List.mem_of_getElem? (i := 20) (by decide +kernel), by decide +kernel⟩, ⟨_, _, rfl⟩⟩
theorem mw_X1_init : MW yX1_init cX1_init 1 none 0 := ⟨List.mem_filter.mpr ⟨List.mem_of_getElem? (i := 228) (by decide +kernel), by decide +kernel⟩, List.mem_filter.mpr ⟨List.mem_of_getElem? (i := 123) (by decide +kernel), by decide +kernel⟩, ⟨by decide +kernel, by decide +kernel, by decide +kernel⟩, by decide⟩
theorem mv_X1_answer : MV 1 yX1_answer cX1_answer 4 (some .int) 3 := ⟨⟨List.mem_filter.mpr ⟨List.mem_of_getElem? (i := 852) (by decide +kernel), by decide +kernel⟩, List.mem_filter.mpr ⟨List.mem_of_getElem? (i := 123) (by decide +kernel), by decide +kernel⟩, ⟨by decide +kernel, by decide +kernel, by decide +kernel⟩, by decide⟩, List.mem_filter.mpr ⟨List.mem_of_getElem? (i := 851) (by decide +kernel), by decide +kernel⟩, List.mem_filter.mpr ⟨List.mem_of_getElem? (i := 69) (by decide +kernel), by decide +kernel⟩, ⟨_, _, rfl⟩⟩
theorem mv_X1_tracedAt : MV 1 yX1_tracedAt cX1_tracedAt 2 (some .int) 1 := ⟨⟨List.mem_filter.mpr ⟨List.mem_of_getElem? (i := 876) (by decide +kernel), by decide +kernel⟩, List.mem_filter.mpr ⟨List.mem_of_getElem? (i := 123) (by decide +kernel), by decide +kernel⟩, ⟨by decide +kernel, by decide +kernel, by decide +kernel⟩, by decide⟩, List.mem_filter.mpr ⟨List.mem_of_getElem? (i := 875) (by decide +kernel), by decide +kernel⟩, List.mem_filter.mpr ⟨List.mem_of_getElem? (i := 72) (by decide +kernel), by decide +kernel⟩, ⟨_, _, rfl⟩⟩
theorem mv_X1_give : MV 1 yX1_give cX1_give 4 (some .int) 2 := ⟨⟨List.mem_filter.mpr ⟨List.mem_of_getElem? (i := 864) (by decide +kernel), by decide +kernel⟩, List.mem_filter.mpr ⟨List.mem_of_getElem? (i := 123) (by decide +kernel), by decide +kernel⟩, ⟨by decide +kernel, by decide +kernel, by decide +kernel⟩, by decide⟩, List.mem_filter.mpr ⟨List.mem_of_getElem? (i := 863) (by decide +kernel), by decide +kernel⟩, List.mem_filter.mpr ⟨List.mem_of_getElem? (i := 70) (by decide +kernel), by decide +kernel⟩, ⟨_, _, rfl⟩⟩
theorem mv_X1_leaveNumber : MV 1 yX1_leaveNumber cX1_leaveNumber 2 none 1 := ⟨⟨List.mem_filter.mpr ⟨List.mem_of_getElem? (i := 868) (by decide +kernel), by decide +kernel⟩, List.mem_filter.mpr ⟨List.mem_of_getElem? (i := 123) (by decide +kernel), by decide +kernel⟩, ⟨by decide +kernel, by decide +kernel, by decide +kernel⟩, by decide⟩, List.mem_filter.mpr ⟨List.mem_of_getElem? (i := 867) (by decide +kernel), by decide +kernel⟩, List.mem_filter.mpr ⟨List.mem_of_getElem? (i := 71) (by decide +kernel), by decide +kernel⟩, ⟨_, _, rfl⟩⟩
theorem mw_X2_init : MW yX2_init cX2_init 1 none 0 := ⟨List.mem_filter.mpr ⟨List.mem_of_getElem? (i := 172) (by decide +kernel), by decide +kernel⟩, List.mem_filter.mpr ⟨List.mem_of_getElem? (i := 121) (by decide +kernel), by decide +kernel⟩, ⟨by decide +kernel, by decide +kernel, by decide +kernel⟩, by decide⟩
theorem mv_X2_clear : MV 2 yX2_clear cX2_clear 1 none 0 := ⟨⟨List.mem_filter.mpr ⟨List.mem_of_getElem? (i := 380) (by decide +kernel), by decide +kernel⟩, List.mem_filter.mpr ⟨List.mem_of_getElem? (i := 121) (by decide +kernel), by decide +kernel⟩, ⟨by decide +kernel, by decide +kernel, by decide +kernel⟩, by decide⟩, List.mem_filter.mpr ⟨List.mem_of_getElem? (i := 379) (by decide +kernel), by decide +kernel⟩, List.mem_filter.mpr ⟨List.mem_of_getElem? (i := 10) (by decide +kernel), by decide +kernel⟩, ⟨_, _, rfl⟩⟩
theorem mv_X2_take : MV 2 yX2_take cX2_take 2 none 1 := ⟨⟨List.mem_filter.mpr ⟨List.mem_of_getElem? (i := 423) (by decide +kernel), by decide +kernel⟩, List.mem_filter.mpr ⟨List.mem_of_getElem? (i := 121) (by decide +kernel), by decide +kernel⟩, ⟨by decide +kernel, by decide +kernel, by decide +kernel⟩, by decide⟩, List.mem_filter.mpr ⟨List.mem_of_getElem? (i := 422) (by decide +kernel), by decide +kernel⟩, List.mem_filter.mpr ⟨List.mem_of_getElem? (i := 19) (by decide +kernel), by decide +kernel⟩, ⟨_, _, rfl⟩⟩
theorem mv_X2_isNone : MV 2 yX2_isNone cX2_isNone 1 (some .boolean) 0 := ⟨⟨List.mem_filter.mpr ⟨List.mem_of_getElem? (i := 515) (by decide +kernel), by decide +kernel⟩, List.mem_filter.mpr ⟨List.mem_of_getElem? (i := 121) (by decide +kernel), by decide +kernel⟩, ⟨by decide +kernel, by decide +kernel, by decide +kernel⟩, by decide⟩, List.mem_filter.mpr ⟨List.mem_of_getElem? (i := 514) (by decide +kernel), by decide +kernel⟩, List.mem_filter.mpr ⟨List.mem_of_getElem? (i := 35) (by decide +kernel), by decide +kernel⟩, ⟨_, _, rfl⟩⟩
theorem mv_X2_hasPeg : MV 2 yX2_hasPeg cX2_hasPeg 2 (some .boolean) 1 := ⟨⟨List.mem_filter.mpr ⟨List.mem_of_getElem? (i := 439) (by decide +kernel), by decide +kernel⟩, List.mem_filter.mpr ⟨List.mem_of_getElem? (i := 121) (by decide +kernel), by decide +kernel⟩, ⟨by decide +kernel, by decide +kernel, by decide +kernel⟩, by decide⟩, List.mem_filter.mpr ⟨List.mem_of_getElem? (i := 438) (by decide +kernel), by decide +kernel⟩, List.mem_filter.mpr ⟨List.mem_of_getElem? (i := 21) (by decide +kernel), by decide +kernel⟩, ⟨_, _, rfl⟩⟩
theorem mv_X2_hasDisc : MV 2 yX2_hasDisc cX2_hasDisc 2 (some .boolean) 1 := ⟨⟨List.mem_filter.mpr ⟨List.mem_of_getElem? (i := 502) (by decide +kernel), by decide +kernel⟩, List.mem_filter.mpr ⟨List.mem_of_getElem? (i := 121) (by decide +kernel), by decide +kernel⟩, ⟨by decide +kernel, by decide +kernel, by decide +kernel⟩, by decide⟩, List.mem_filter.mpr ⟨List.mem_of_getElem? (i := 501) (by decide +kernel), by decide +kernel⟩, List.mem_filter.mpr ⟨List.mem_of_getElem? (i := 33) (by decide +kernel), by decide +kernel⟩, ⟨_, _, rfl⟩⟩
theorem mv_X2_pegOf : MV 2 yX2_pegOf cX2_pegOf 2 (some .int) 1 := ⟨⟨List.mem_filter.mpr ⟨List.mem_of_getElem? (i := 506) (by decide +kernel), by decide +kernel⟩, List.mem_filter.mpr ⟨List.mem_of_getElem? (i := 121) (by decide +kernel), by decide +kernel⟩, ⟨by decide +kernel, by decide +kernel, by decide +kernel⟩, by decide⟩, List.mem_filter.mpr ⟨List.mem_of_getElem? (i := 505) (by decide +kernel), by decide +kernel⟩, List.mem_filter.mpr ⟨List.mem_of_getElem? (i := 34) (by decide +kernel), by decide +kernel⟩, ⟨_, _, rfl⟩⟩
theorem mv_X2_kindOf : MV 2 yX2_kindOf cX2_kindOf 3 (some .int) 1 := ⟨⟨List.mem_filter.mpr ⟨List.mem_of_getElem? (i := 472) (by decide +kernel), by decide +kernel⟩, List.mem_filter.mpr ⟨List.mem_of_getElem? (i := 121) (by decide +kernel), by decide +kernel⟩, ⟨by decide +kernel, by decide +kernel, by decide +kernel⟩, by decide⟩, List.mem_filter.mpr ⟨List.mem_of_getElem? (i := 471) (by decide +kernel), by decide +kernel⟩, List.mem_filter.mpr ⟨List.mem_of_getElem? (i := 27) (by decide +kernel), by decide +kernel⟩, ⟨_, _, rfl⟩⟩
theorem mv_X2_layBy : MV 2 yX2_layBy cX2_layBy 3 none 2 := ⟨⟨List.mem_filter.mpr ⟨List.mem_of_getElem? (i := 418) (by decide +kernel), by decide +kernel⟩, List.mem_filter.mpr ⟨List.mem_of_getElem? (i := 121) (by decide +kernel), by decide +kernel⟩, ⟨by decide +kernel, by decide +kernel, by decide +kernel⟩, by decide⟩, List.mem_filter.mpr ⟨List.mem_of_getElem? (i := 417) (by decide +kernel), by decide +kernel⟩, List.mem_filter.mpr ⟨List.mem_of_getElem? (i := 18) (by decide +kernel), by decide +kernel⟩, ⟨_, _, rfl⟩⟩
theorem mv_X2_sortAs : MV 2 yX2_sortAs cX2_sortAs 3 none 2 := ⟨⟨List.mem_filter.mpr ⟨List.mem_of_getElem? (i := 414) (by decide +kernel), by decide +kernel⟩, List.mem_filter.mpr ⟨List.mem_of_getElem? (i := 121) (by decide +kernel), by decide +kernel⟩, ⟨by decide +kernel, by decide +kernel, by decide +kernel⟩, by decide⟩, List.mem_filter.mpr ⟨List.mem_of_getElem? (i := 413) (by decide +kernel), by decide +kernel⟩, List.mem_filter.mpr ⟨List.mem_of_getElem? (i := 17) (by decide +kernel), by decide +kernel⟩, ⟨_, _, rfl⟩⟩
theorem mv_X2_hasLawOf : MV 2 yX2_hasLawOf cX2_hasLawOf 2 (some .boolean) 1 := ⟨⟨List.mem_filter.mpr ⟨List.mem_of_getElem? (i := 613) (by decide +kernel), by decide +kernel⟩, List.mem_filter.mpr ⟨List.mem_of_getElem? (i := 121) (by decide +kernel), by decide +kernel⟩, ⟨by decide +kernel, by decide +kernel, by decide +kernel⟩, by decide⟩, List.mem_filter.mpr ⟨List.mem_of_getElem? (i := 612) (by decide +kernel), by decide +kernel⟩, List.mem_filter.mpr ⟨List.mem_of_getElem? (i := 41) (by decide +kernel), by decide +kernel⟩, ⟨_, _, rfl⟩⟩
theorem mv_X2_hasFutureOf : MV 2 yX2_hasFutureOf cX2_hasFutureOf 2 (some .boolean) 1 := ⟨⟨List.mem_filter.mpr ⟨List.mem_of_getElem? (i := 609) (by decide +kernel), by decide +kernel⟩, List.mem_filter.mpr ⟨List.mem_of_getElem? (i := 121) (by decide +kernel), by decide +kernel⟩, ⟨by decide +kernel, by decide +kernel, by decide +kernel⟩, by decide⟩, List.mem_filter.mpr ⟨List.mem_of_getElem? (i := 608) (by decide +kernel), by decide +kernel⟩, List.mem_filter.mpr ⟨List.mem_of_getElem? (i := 40) (by decide +kernel), by decide +kernel⟩, ⟨_, _, rfl⟩⟩
theorem mv_X2_hasFrail : MV 2 yX2_hasFrail cX2_hasFrail 3 (some .boolean) 0 := ⟨⟨List.mem_filter.mpr ⟨List.mem_of_getElem? (i := 654) (by decide +kernel), by decide +kernel⟩, List.mem_filter.mpr ⟨List.mem_of_getElem? (i := 121) (by decide +kernel), by decide +kernel⟩, ⟨by decide +kernel, by decide +kernel, by decide +kernel⟩, by decide⟩, List.mem_filter.mpr ⟨List.mem_of_getElem? (i := 653) (by decide +kernel), by decide +kernel⟩, List.mem_filter.mpr ⟨List.mem_of_getElem? (i := 45) (by decide +kernel), by decide +kernel⟩, ⟨_, _, rfl⟩⟩
theorem mv_X2_arrangements : MV 2 yX2_arrangements cX2_arrangements 1 (some .int) 0 := ⟨⟨List.mem_filter.mpr ⟨List.mem_of_getElem? (i := 759) (by decide +kernel), by decide +kernel⟩, List.mem_filter.mpr ⟨List.mem_of_getElem? (i := 121) (by decide +kernel), by decide +kernel⟩, ⟨by decide +kernel, by decide +kernel, by decide +kernel⟩, by decide⟩, List.mem_filter.mpr ⟨List.mem_of_getElem? (i := 758) (by decide +kernel), by decide +kernel⟩, List.mem_filter.mpr ⟨List.mem_of_getElem? (i := 60) (by decide +kernel), by decide +kernel⟩, ⟨_, _, rfl⟩⟩
theorem mv_X2_allOn : MV 2 yX2_allOn cX2_allOn 4 (some .int) 1 := ⟨⟨List.mem_filter.mpr ⟨List.mem_of_getElem? (i := 697) (by decide +kernel), by decide +kernel⟩, List.mem_filter.mpr ⟨List.mem_of_getElem? (i := 121) (by decide +kernel), by decide +kernel⟩, ⟨by decide +kernel, by decide +kernel, by decide +kernel⟩, by decide⟩, List.mem_filter.mpr ⟨List.mem_of_getElem? (i := 696) (by decide +kernel), by decide +kernel⟩, List.mem_filter.mpr ⟨List.mem_of_getElem? (i := 54) (by decide +kernel), by decide +kernel⟩, ⟨_, _, rfl⟩⟩
theorem mv_X2_arrangedBy : MV 2 yX2_arrangedBy cX2_arrangedBy 6 (some .int) 2 := ⟨⟨List.mem_filter.mpr ⟨List.mem_of_getElem? (i := 547) (by decide +kernel), by decide +kernel⟩, List.mem_filter.mpr ⟨List.mem_of_getElem? (i := 121) (by decide +kernel), by decide +kernel⟩, ⟨by decide +kernel, by decide +kernel, by decide +kernel⟩, by decide⟩, List.mem_filter.mpr ⟨List.mem_of_getElem? (i := 546) (by decide +kernel), by decide +kernel⟩, List.mem_filter.mpr ⟨List.mem_of_getElem? (i := 37) (by decide +kernel), by decide +kernel⟩, ⟨_, _, rfl⟩⟩
theorem mv_X2_codeOf : MV 2 yX2_codeOf cX2_codeOf 4 (some .int) 1 := ⟨⟨List.mem_filter.mpr ⟨List.mem_of_getElem? (i := 705) (by decide +kernel), by decide +kernel⟩, List.mem_filter.mpr ⟨List.mem_of_getElem? (i := 121) (by decide +kernel), by decide +kernel⟩, ⟨by decide +kernel, by decide +kernel, by decide +kernel⟩, by decide⟩, List.mem_filter.mpr ⟨List.mem_of_getElem? (i := 704) (by decide +kernel), by decide +kernel⟩, List.mem_filter.mpr ⟨List.mem_of_getElem? (i := 55) (by decide +kernel), by decide +kernel⟩, ⟨_, _, rfl⟩⟩
theorem mv_X2_lyingOn : MV 2 yX2_lyingOn cX2_lyingOn 2 (some .int) 1 := ⟨⟨List.mem_filter.mpr ⟨List.mem_of_getElem? (i := 481) (by decide +kernel), by decide +kernel⟩, List.mem_filter.mpr ⟨List.mem_of_getElem? (i := 121) (by decide +kernel), by decide +kernel⟩, ⟨by decide +kernel, by decide +kernel, by decide +kernel⟩, by decide⟩, List.mem_filter.mpr ⟨List.mem_of_getElem? (i := 480) (by decide +kernel), by decide +kernel⟩, List.mem_filter.mpr ⟨List.mem_of_getElem? (i := 29) (by decide +kernel), by decide +kernel⟩, ⟨_, _, rfl⟩⟩
theorem mv_X2_topOf : MV 2 yX2_topOf cX2_topOf 2 (some .int) 1 := ⟨⟨List.mem_filter.mpr ⟨List.mem_of_getElem? (i := 477) (by decide +kernel), by decide +kernel⟩, List.mem_filter.mpr ⟨List.mem_of_getElem? (i := 121) (by decide +kernel), by decide +kernel⟩, ⟨by decide +kernel, by decide +kernel, by decide +kernel⟩, by decide⟩, List.mem_filter.mpr ⟨List.mem_of_getElem? (i := 476) (by decide +kernel), by decide +kernel⟩, List.mem_filter.mpr ⟨List.mem_of_getElem? (i := 28) (by decide +kernel), by decide +kernel⟩, ⟨_, _, rfl⟩⟩
theorem mv_X2_lyingIn : MV 2 yX2_lyingIn cX2_lyingIn 4 (some .int) 1 := ⟨⟨List.mem_filter.mpr ⟨List.mem_of_getElem? (i := 455) (by decide +kernel), by decide +kernel⟩, List.mem_filter.mpr ⟨List.mem_of_getElem? (i := 121) (by decide +kernel), by decide +kernel⟩, ⟨by decide +kernel, by decide +kernel, by decide +kernel⟩, by decide⟩, List.mem_filter.mpr ⟨List.mem_of_getElem? (i := 454) (by decide +kernel), by decide +kernel⟩, List.mem_filter.mpr ⟨List.mem_of_getElem? (i := 25) (by decide +kernel), by decide +kernel⟩, ⟨_, _, rfl⟩⟩
theorem mv_X2_movesNow : MV 2 yX2_movesNow cX2_movesNow 1 (some .int) 0 := ⟨⟨List.mem_filter.mpr ⟨List.mem_of_getElem? (i := 447) (by decide +kernel), by decide +kernel⟩, List.mem_filter.mpr ⟨List.mem_of_getElem? (i := 121) (by decide +kernel), by decide +kernel⟩, ⟨by decide +kernel, by decide +kernel, by decide +kernel⟩, by decide⟩, List.mem_filter.mpr ⟨List.mem_of_getElem? (i := 446) (by decide +kernel), by decide +kernel⟩, List.mem_filter.mpr ⟨List.mem_of_getElem? (i := 23) (by decide +kernel), by decide +kernel⟩, ⟨_, _, rfl⟩⟩
theorem mv_X2_allows : MV 2 yX2_allows cX2_allows 2 (some .boolean) 1 := ⟨⟨List.mem_filter.mpr ⟨List.mem_of_getElem? (i := 443) (by decide +kernel), by decide +kernel⟩, List.mem_filter.mpr ⟨List.mem_of_getElem? (i := 121) (by decide +kernel), by decide +kernel⟩, ⟨by decide +kernel, by decide +kernel, by decide +kernel⟩, by decide⟩, List.mem_filter.mpr ⟨List.mem_of_getElem? (i := 442) (by decide +kernel), by decide +kernel⟩, List.mem_filter.mpr ⟨List.mem_of_getElem? (i := 22) (by decide +kernel), by decide +kernel⟩, ⟨_, _, rfl⟩⟩
theorem mv_X2_movesFrom : MV 2 yX2_movesFrom cX2_movesFrom 8 (some .int) 2 := ⟨⟨List.mem_filter.mpr ⟨List.mem_of_getElem? (i := 451) (by decide +kernel), by decide +kernel⟩, List.mem_filter.mpr ⟨List.mem_of_getElem? (i := 121) (by decide +kernel), by decide +kernel⟩, ⟨by decide +kernel, by decide +kernel, by decide +kernel⟩, by decide⟩, List.mem_filter.mpr ⟨List.mem_of_getElem? (i := 450) (by decide +kernel), by decide +kernel⟩, List.mem_filter.mpr ⟨List.mem_of_getElem? (i := 24) (by decide +kernel), by decide +kernel⟩, ⟨_, _, rfl⟩⟩
theorem mv_X2_mayGo : MV 2 yX2_mayGo cX2_mayGo 5 (some .boolean) 4 := ⟨⟨List.mem_filter.mpr ⟨List.mem_of_getElem? (i := 468) (by decide +kernel), by decide +kernel⟩, List.mem_filter.mpr ⟨List.mem_of_getElem? (i := 121) (by decide +kernel), by decide +kernel⟩, ⟨by decide +kernel, by decide +kernel, by decide +kernel⟩, by decide⟩, List.mem_filter.mpr ⟨List.mem_of_getElem? (i := 467) (by decide +kernel), by decide +kernel⟩, List.mem_filter.mpr ⟨List.mem_of_getElem? (i := 26) (by decide +kernel), by decide +kernel⟩, ⟨_, _, rfl⟩⟩
theorem mv_X2_behind : MV 2 yX2_behind cX2_behind 5 (some .int) 2 := ⟨⟨List.mem_filter.mpr ⟨List.mem_of_getElem? (i := 494) (by decide +kernel), by decide +kernel⟩, List.mem_filter.mpr ⟨List.mem_of_getElem? (i := 121) (by decide +kernel), by decide +kernel⟩, ⟨by decide +kernel, by decide +kernel, by decide +kernel⟩, by decide⟩, List.mem_filter.mpr ⟨List.mem_of_getElem? (i := 493) (by decide +kernel), by decide +kernel⟩, List.mem_filter.mpr ⟨List.mem_of_getElem? (i := 32) (by decide +kernel), by decide +kernel⟩, ⟨_, _, rfl⟩⟩
theorem mv_X2_carryOut : MV 2 yX2_carryOut cX2_carryOut 2 none 1 := ⟨⟨List.mem_filter.mpr ⟨List.mem_of_getElem? (i := 490) (by decide +kernel), by decide +kernel⟩, List.mem_filter.mpr ⟨List.mem_of_getElem? (i := 121) (by decide +kernel), by decide +kernel⟩, ⟨by decide +kernel, by decide +kernel, by decide +kernel⟩, by decide⟩, List.mem_filter.mpr ⟨List.mem_of_getElem? (i := 489) (by decide +kernel), by decide +kernel⟩, List.mem_filter.mpr ⟨List.mem_of_getElem? (i := 31) (by decide +kernel), by decide +kernel⟩, ⟨_, _, rfl⟩⟩
theorem mv_X2_firstWrong : MV 2 yX2_firstWrong cX2_firstWrong 6 (some .int) 3 := ⟨⟨List.mem_filter.mpr ⟨List.mem_of_getElem? (i := 774) (by decide +kernel), by decide +kernel⟩, List.mem_filter.mpr ⟨List.mem_of_getElem? (i := 121) (by decide +kernel), by decide +kernel⟩, ⟨by decide +kernel, by decide +kernel, by decide +kernel⟩, by decide⟩, List.mem_filter.mpr ⟨List.mem_of_getElem? (i := 773) (by decide +kernel), by decide +kernel⟩, List.mem_filter.mpr ⟨List.mem_of_getElem? (i := 62) (by decide +kernel), by decide +kernel⟩, ⟨_, _, rfl⟩⟩
theorem mv_X2_numberOf : MV 2 yX2_numberOf cX2_numberOf 2 (some .int) 1 := ⟨⟨List.mem_filter.mpr ⟨List.mem_of_getElem? (i := 778) (by decide +kernel), by decide +kernel⟩, List.mem_filter.mpr ⟨List.mem_of_getElem? (i := 121) (by decide +kernel), by decide +kernel⟩, ⟨by decide +kernel, by decide +kernel, by decide +kernel⟩, by decide⟩, List.mem_filter.mpr ⟨List.mem_of_getElem? (i := 777) (by decide +kernel), by decide +kernel⟩, List.mem_filter.mpr ⟨List.mem_of_getElem? (i := 63) (by decide +kernel), by decide +kernel⟩, ⟨_, _, rfl⟩⟩
theorem mv_X2_spendEvening : MV 2 yX2_spendEvening cX2_spendEvening 10 (some .int) 2 := ⟨⟨List.mem_filter.mpr ⟨List.mem_of_getElem? (i := 819) (by decide +kernel), by decide +kernel⟩, List.mem_filter.mpr ⟨List.mem_of_getElem? (i := 121) (by decide +kernel), by decide +kernel⟩, ⟨by decide +kernel, by decide +kernel, by decide +kernel⟩, by decide⟩, List.mem_filter.mpr ⟨List.mem_of_getElem? (i := 818) (by decide +kernel), by decide +kernel⟩, List.mem_filter.mpr ⟨List.mem_of_getElem? (i := 68) (by decide +kernel), by decide +kernel⟩, ⟨_, _, rfl⟩⟩
theorem ms_X2_pick : MS yX2_pick cX2_pick 4 (some .int) 2 := ⟨⟨List.mem_filter.mpr ⟨List.mem_of_getElem? (i := 824) (by decide +kernel), by decide +kernel⟩, List.mem_filter.mpr ⟨List.mem_of_getElem? (i := 121) (by decide +kernel), by decide +kernel⟩, ⟨by decide +kernel, by decide +kernel, by decide +kernel⟩, by decide⟩, List.mem_filter.mpr ⟨List.mem_of_getElem? (i := 823) (by decide +kernel), by decide +kernel⟩⟩
theorem ms_X2_leastOf : MS yX2_leastOf cX2_leastOf 1 (some .int) 1 := ⟨⟨List.mem_filter.mpr ⟨List.mem_of_getElem? (i := 458) (by decide +kernel), by decide +kernel⟩, List.mem_filter.mpr ⟨List.mem_of_getElem? (i := 121) (by decide +kernel), by decide +kernel⟩, ⟨by decide +kernel, by decide +kernel, by decide +kernel⟩, by decide⟩, List.mem_filter.mpr ⟨List.mem_of_getElem? (i := 457) (by decide +kernel), by decide +kernel⟩⟩
theorem mw_X3_init : MW yX3_init cX3_init 2 none 1 := ⟨List.mem_filter.mpr ⟨List.mem_of_getElem? (i := 724) (by decide +kernel), by decide +kernel⟩, List.mem_filter.mpr ⟨List.mem_of_getElem? (i := 131) (by decide +kernel), by decide +kernel⟩, ⟨by decide +kernel, by decide +kernel, by decide +kernel⟩, by decide⟩
theorem mv_X3_begin : MV 3 yX3_begin cX3_begin 2 none 0 := ⟨⟨List.mem_filter.mpr ⟨List.mem_of_getElem? (i := 743) (by decide +kernel), by decide +kernel⟩, List.mem_filter.mpr ⟨List.mem_of_getElem? (i := 131) (by decide +kernel), by decide +kernel⟩, ⟨by decide +kernel, by decide +kernel, by decide +kernel⟩, by decide⟩, List.mem_filter.mpr ⟨List.mem_of_getElem? (i := 742) (by decide +kernel), by decide +kernel⟩, List.mem_filter.mpr ⟨List.mem_of_getElem? (i := 57) (by decide +kernel), by decide +kernel⟩, ⟨_, _, rfl⟩⟩
theorem mv_X3_rowsTo : MV 3 yX3_rowsTo cX3_rowsTo 4 (some .long) 2 := ⟨⟨List.mem_filter.mpr ⟨List.mem_of_getElem? (i := 751) (by decide +kernel), by decide +kernel⟩, List.mem_filter.mpr ⟨List.mem_of_getElem? (i := 131) (by decide +kernel), by decide +kernel⟩, ⟨by decide +kernel, by decide +kernel, by decide +kernel⟩, by decide⟩, List.mem_filter.mpr ⟨List.mem_of_getElem? (i := 750) (by decide +kernel), by decide +kernel⟩, List.mem_filter.mpr ⟨List.mem_of_getElem? (i := 58) (by decide +kernel), by decide +kernel⟩, ⟨_, _, rfl⟩⟩
theorem mv_X3_partsOn : MV 3 yX3_partsOn cX3_partsOn 7 (some .long) 3 := ⟨⟨List.mem_filter.mpr ⟨List.mem_of_getElem? (i := 798) (by decide +kernel), by decide +kernel⟩, List.mem_filter.mpr ⟨List.mem_of_getElem? (i := 131) (by decide +kernel), by decide +kernel⟩, ⟨by decide +kernel, by decide +kernel, by decide +kernel⟩, by decide⟩, List.mem_filter.mpr ⟨List.mem_of_getElem? (i := 797) (by decide +kernel), by decide +kernel⟩, List.mem_filter.mpr ⟨List.mem_of_getElem? (i := 65) (by decide +kernel), by decide +kernel⟩, ⟨_, _, rfl⟩⟩
theorem mv_X3_partsOfAll : MV 3 yX3_partsOfAll cX3_partsOfAll 5 (some .long) 1 := ⟨⟨List.mem_filter.mpr ⟨List.mem_of_getElem? (i := 807) (by decide +kernel), by decide +kernel⟩, List.mem_filter.mpr ⟨List.mem_of_getElem? (i := 131) (by decide +kernel), by decide +kernel⟩, ⟨by decide +kernel, by decide +kernel, by decide +kernel⟩, by decide⟩, List.mem_filter.mpr ⟨List.mem_of_getElem? (i := 806) (by decide +kernel), by decide +kernel⟩, List.mem_filter.mpr ⟨List.mem_of_getElem? (i := 67) (by decide +kernel), by decide +kernel⟩, ⟨_, _, rfl⟩⟩
theorem mv_X3_weightsOn : MV 3 yX3_weightsOn cX3_weightsOn 8 (some .long) 3 := ⟨⟨List.mem_filter.mpr ⟨List.mem_of_getElem? (i := 803) (by decide +kernel), by decide +kernel⟩, List.mem_filter.mpr ⟨List.mem_of_getElem? (i := 131) (by decide +kernel), by decide +kernel⟩, ⟨by decide +kernel, by decide +kernel, by decide +kernel⟩, by decide⟩, List.mem_filter.mpr ⟨List.mem_of_getElem? (i := 802) (by decide +kernel), by decide +kernel⟩, List.mem_filter.mpr ⟨List.mem_of_getElem? (i := 66) (by decide +kernel), by decide +kernel⟩, ⟨_, _, rfl⟩⟩
theorem mv_X3_goOn : MV 3 yX3_goOn cX3_goOn 6 none 1 := ⟨⟨List.mem_filter.mpr ⟨List.mem_of_getElem? (i := 755) (by decide +kernel), by decide +kernel⟩, List.mem_filter.mpr ⟨List.mem_of_getElem? (i := 131) (by decide +kernel), by decide +kernel⟩, ⟨by decide +kernel, by decide +kernel, by decide +kernel⟩, by decide⟩, List.mem_filter.mpr ⟨List.mem_of_getElem? (i := 754) (by decide +kernel), by decide +kernel⟩, List.mem_filter.mpr ⟨List.mem_of_getElem? (i := 59) (by decide +kernel), by decide +kernel⟩, ⟨_, _, rfl⟩⟩
theorem mv_X3_hand : MV 3 yX3_hand cX3_hand 6 none 3 := ⟨⟨List.mem_filter.mpr ⟨List.mem_of_getElem? (i := 765) (by decide +kernel), by decide +kernel⟩, List.mem_filter.mpr ⟨List.mem_of_getElem? (i := 131) (by decide +kernel), by decide +kernel⟩, ⟨by decide +kernel, by decide +kernel, by decide +kernel⟩, by decide⟩, List.mem_filter.mpr ⟨List.mem_of_getElem? (i := 764) (by decide +kernel), by decide +kernel⟩, List.mem_filter.mpr ⟨List.mem_of_getElem? (i := 61) (by decide +kernel), by decide +kernel⟩, ⟨_, _, rfl⟩⟩
theorem mw_X4_init : MW yX4_init cX4_init 1 none 0 := ⟨List.mem_filter.mpr ⟨List.mem_of_getElem? (i := 629) (by decide +kernel), by decide +kernel⟩, List.mem_filter.mpr ⟨List.mem_of_getElem? (i := 130) (by decide +kernel), by decide +kernel⟩, ⟨by decide +kernel, by decide +kernel, by decide +kernel⟩, by decide⟩
theorem mv_X4_lookAt : MV 4 yX4_lookAt cX4_lookAt 2 none 1 := ⟨⟨List.mem_filter.mpr ⟨List.mem_of_getElem? (i := 648) (by decide +kernel), by decide +kernel⟩, List.mem_filter.mpr ⟨List.mem_of_getElem? (i := 130) (by decide +kernel), by decide +kernel⟩, ⟨by decide +kernel, by decide +kernel, by decide +kernel⟩, by decide⟩, List.mem_filter.mpr ⟨List.mem_of_getElem? (i := 647) (by decide +kernel), by decide +kernel⟩, List.mem_filter.mpr ⟨List.mem_of_getElem? (i := 44) (by decide +kernel), by decide +kernel⟩, ⟨_, _, rfl⟩⟩
theorem mv_X4_start : MV 4 yX4_start cX4_start 1 (some .int) 0 := ⟨⟨List.mem_filter.mpr ⟨List.mem_of_getElem? (i := 663) (by decide +kernel), by decide +kernel⟩, List.mem_filter.mpr ⟨List.mem_of_getElem? (i := 130) (by decide +kernel), by decide +kernel⟩, ⟨by decide +kernel, by decide +kernel, by decide +kernel⟩, by decide⟩, List.mem_filter.mpr ⟨List.mem_of_getElem? (i := 662) (by decide +kernel), by decide +kernel⟩, List.mem_filter.mpr ⟨List.mem_of_getElem? (i := 47) (by decide +kernel), by decide +kernel⟩, ⟨_, _, rfl⟩⟩
theorem mv_X4_movesAt : MV 4 yX4_movesAt cX4_movesAt 3 (some .int) 1 := ⟨⟨List.mem_filter.mpr ⟨List.mem_of_getElem? (i := 667) (by decide +kernel), by decide +kernel⟩, List.mem_filter.mpr ⟨List.mem_of_getElem? (i := 130) (by decide +kernel), by decide +kernel⟩, ⟨by decide +kernel, by decide +kernel, by decide +kernel⟩, by decide⟩, List.mem_filter.mpr ⟨List.mem_of_getElem? (i := 666) (by decide +kernel), by decide +kernel⟩, List.mem_filter.mpr ⟨List.mem_of_getElem? (i := 48) (by decide +kernel), by decide +kernel⟩, ⟨_, _, rfl⟩⟩
theorem mv_X4_stateBehind : MV 4 yX4_stateBehind cX4_stateBehind 3 (some .int) 2 := ⟨⟨List.mem_filter.mpr ⟨List.mem_of_getElem? (i := 676) (by decide +kernel), by decide +kernel⟩, List.mem_filter.mpr ⟨List.mem_of_getElem? (i := 130) (by decide +kernel), by decide +kernel⟩, ⟨by decide +kernel, by decide +kernel, by decide +kernel⟩, by decide⟩, List.mem_filter.mpr ⟨List.mem_of_getElem? (i := 675) (by decide +kernel), by decide +kernel⟩, List.mem_filter.mpr ⟨List.mem_of_getElem? (i := 50) (by decide +kernel), by decide +kernel⟩, ⟨_, _, rfl⟩⟩
theorem mw_X5_init : MW yX5_init cX5_init 1 none 0 := ⟨List.mem_filter.mpr ⟨List.mem_of_getElem? (i := 252) (by decide +kernel), by decide +kernel⟩, List.mem_filter.mpr ⟨List.mem_of_getElem? (i := 124) (by decide +kernel), by decide +kernel⟩, ⟨by decide +kernel, by decide +kernel, by decide +kernel⟩, by decide⟩
theorem mv_X5_isMissing : MV 5 yX5_isMissing cX5_isMissing 1 (some .boolean) 0 := ⟨⟨List.mem_filter.mpr ⟨List.mem_of_getElem? (i := 339) (by decide +kernel), by decide +kernel⟩, List.mem_filter.mpr ⟨List.mem_of_getElem? (i := 124) (by decide +kernel), by decide +kernel⟩, ⟨by decide +kernel, by decide +kernel, by decide +kernel⟩, by decide⟩, List.mem_filter.mpr ⟨List.mem_of_getElem? (i := 338) (by decide +kernel), by decide +kernel⟩, List.mem_filter.mpr ⟨List.mem_of_getElem? (i := 5) (by decide +kernel), by decide +kernel⟩, ⟨_, _, rfl⟩⟩
theorem mv_X5_begin : MV 5 yX5_begin cX5_begin 3 none 2 := ⟨⟨List.mem_filter.mpr ⟨List.mem_of_getElem? (i := 320) (by decide +kernel), by decide +kernel⟩, List.mem_filter.mpr ⟨List.mem_of_getElem? (i := 124) (by decide +kernel), by decide +kernel⟩, ⟨by decide +kernel, by decide +kernel, by decide +kernel⟩, by decide⟩, List.mem_filter.mpr ⟨List.mem_of_getElem? (i := 319) (by decide +kernel), by decide +kernel⟩, List.mem_filter.mpr ⟨List.mem_of_getElem? (i := 2) (by decide +kernel), by decide +kernel⟩, ⟨_, _, rfl⟩⟩
theorem mv_X5_end : MV 5 yX5_end cX5_end 2 (some .int) 0 := ⟨⟨List.mem_filter.mpr ⟨List.mem_of_getElem? (i := 359) (by decide +kernel), by decide +kernel⟩, List.mem_filter.mpr ⟨List.mem_of_getElem? (i := 124) (by decide +kernel), by decide +kernel⟩, ⟨by decide +kernel, by decide +kernel, by decide +kernel⟩, by decide⟩, List.mem_filter.mpr ⟨List.mem_of_getElem? (i := 358) (by decide +kernel), by decide +kernel⟩, List.mem_filter.mpr ⟨List.mem_of_getElem? (i := 7) (by decide +kernel), by decide +kernel⟩, ⟨_, _, rfl⟩⟩
theorem mv_X5_flaw : MV 5 yX5_flaw cX5_flaw 3 (some .int) 2 := ⟨⟨List.mem_filter.mpr ⟨List.mem_of_getElem? (i := 335) (by decide +kernel), by decide +kernel⟩, List.mem_filter.mpr ⟨List.mem_of_getElem? (i := 124) (by decide +kernel), by decide +kernel⟩, ⟨by decide +kernel, by decide +kernel, by decide +kernel⟩, by decide⟩, List.mem_filter.mpr ⟨List.mem_of_getElem? (i := 334) (by decide +kernel), by decide +kernel⟩, List.mem_filter.mpr ⟨List.mem_of_getElem? (i := 4) (by decide +kernel), by decide +kernel⟩, ⟨_, _, rfl⟩⟩
theorem mv_X5_store : MV 5 yX5_store cX5_store 4 (some .int) 2 := ⟨⟨List.mem_filter.mpr ⟨List.mem_of_getElem? (i := 343) (by decide +kernel), by decide +kernel⟩, List.mem_filter.mpr ⟨List.mem_of_getElem? (i := 124) (by decide +kernel), by decide +kernel⟩, ⟨by decide +kernel, by decide +kernel, by decide +kernel⟩, by decide⟩, List.mem_filter.mpr ⟨List.mem_of_getElem? (i := 342) (by decide +kernel), by decide +kernel⟩, List.mem_filter.mpr ⟨List.mem_of_getElem? (i := 6) (by decide +kernel), by decide +kernel⟩, ⟨_, _, rfl⟩⟩
theorem mv_X5_itemAt : MV 5 yX5_itemAt cX5_itemAt 2 (some .int) 1 := ⟨⟨List.mem_filter.mpr ⟨List.mem_of_getElem? (i := 551) (by decide +kernel), by decide +kernel⟩, List.mem_filter.mpr ⟨List.mem_of_getElem? (i := 124) (by decide +kernel), by decide +kernel⟩, ⟨by decide +kernel, by decide +kernel, by decide +kernel⟩, by decide⟩, List.mem_filter.mpr ⟨List.mem_of_getElem? (i := 550) (by decide +kernel), by decide +kernel⟩, List.mem_filter.mpr ⟨List.mem_of_getElem? (i := 38) (by decide +kernel), by decide +kernel⟩, ⟨_, _, rfl⟩⟩
theorem mw_X6_init : MW yX6_init cX6_init 1 none 0 := ⟨List.mem_filter.mpr ⟨List.mem_of_getElem? (i := 562) (by decide +kernel), by decide +kernel⟩, List.mem_filter.mpr ⟨List.mem_of_getElem? (i := 129) (by decide +kernel), by decide +kernel⟩, ⟨by decide +kernel, by decide +kernel, by decide +kernel⟩, by decide⟩
theorem mv_X6_begin : MV 6 yX6_begin cX6_begin 2 none 1 := ⟨⟨List.mem_filter.mpr ⟨List.mem_of_getElem? (i := 617) (by decide +kernel), by decide +kernel⟩, List.mem_filter.mpr ⟨List.mem_of_getElem? (i := 129) (by decide +kernel), by decide +kernel⟩, ⟨by decide +kernel, by decide +kernel, by decide +kernel⟩, by decide⟩, List.mem_filter.mpr ⟨List.mem_of_getElem? (i := 616) (by decide +kernel), by decide +kernel⟩, List.mem_filter.mpr ⟨List.mem_of_getElem? (i := 42) (by decide +kernel), by decide +kernel⟩, ⟨_, _, rfl⟩⟩
theorem mv_X6_spread : MV 6 yX6_spread cX6_spread 7 none 1 := ⟨⟨List.mem_filter.mpr ⟨List.mem_of_getElem? (i := 659) (by decide +kernel), by decide +kernel⟩, List.mem_filter.mpr ⟨List.mem_of_getElem? (i := 129) (by decide +kernel), by decide +kernel⟩, ⟨by decide +kernel, by decide +kernel, by decide +kernel⟩, by decide⟩, List.mem_filter.mpr ⟨List.mem_of_getElem? (i := 658) (by decide +kernel), by decide +kernel⟩, List.mem_filter.mpr ⟨List.mem_of_getElem? (i := 46) (by decide +kernel), by decide +kernel⟩, ⟨_, _, rfl⟩⟩
theorem mv_X6_noteArrangement : MV 6 yX6_noteArrangement cX6_noteArrangement 5 none 2 := ⟨⟨List.mem_filter.mpr ⟨List.mem_of_getElem? (i := 672) (by decide +kernel), by decide +kernel⟩, List.mem_filter.mpr ⟨List.mem_of_getElem? (i := 129) (by decide +kernel), by decide +kernel⟩, ⟨by decide +kernel, by decide +kernel, by decide +kernel⟩, by decide⟩, List.mem_filter.mpr ⟨List.mem_of_getElem? (i := 671) (by decide +kernel), by decide +kernel⟩, List.mem_filter.mpr ⟨List.mem_of_getElem? (i := 49) (by decide +kernel), by decide +kernel⟩, ⟨_, _, rfl⟩⟩
theorem mv_X6_comeTo : MV 6 yX6_comeTo cX6_comeTo 4 none 3 := ⟨⟨List.mem_filter.mpr ⟨List.mem_of_getElem? (i := 681) (by decide +kernel), by decide +kernel⟩, List.mem_filter.mpr ⟨List.mem_of_getElem? (i := 129) (by decide +kernel), by decide +kernel⟩, ⟨by decide +kernel, by decide +kernel, by decide +kernel⟩, by decide⟩, List.mem_filter.mpr ⟨List.mem_of_getElem? (i := 680) (by decide +kernel), by decide +kernel⟩, List.mem_filter.mpr ⟨List.mem_of_getElem? (i := 51) (by decide +kernel), by decide +kernel⟩, ⟨_, _, rfl⟩⟩
theorem mv_X6_fewest : MV 6 yX6_fewest cX6_fewest 6 (some .int) 2 := ⟨⟨List.mem_filter.mpr ⟨List.mem_of_getElem? (i := 685) (by decide +kernel), by decide +kernel⟩, List.mem_filter.mpr ⟨List.mem_of_getElem? (i := 129) (by decide +kernel), by decide +kernel⟩, ⟨by decide +kernel, by decide +kernel, by decide +kernel⟩, by decide⟩, List.mem_filter.mpr ⟨List.mem_of_getElem? (i := 684) (by decide +kernel), by decide +kernel⟩, List.mem_filter.mpr ⟨List.mem_of_getElem? (i := 52) (by decide +kernel), by decide +kernel⟩, ⟨_, _, rfl⟩⟩
theorem mv_X6_soonestOf : MV 6 yX6_soonestOf cX6_soonestOf 5 (some .int) 1 := ⟨⟨List.mem_filter.mpr ⟨List.mem_of_getElem? (i := 689) (by decide +kernel), by decide +kernel⟩, List.mem_filter.mpr ⟨List.mem_of_getElem? (i := 129) (by decide +kernel), by decide +kernel⟩, ⟨by decide +kernel, by decide +kernel, by decide +kernel⟩, by decide⟩, List.mem_filter.mpr ⟨List.mem_of_getElem? (i := 688) (by decide +kernel), by decide +kernel⟩, List.mem_filter.mpr ⟨List.mem_of_getElem? (i := 53) (by decide +kernel), by decide +kernel⟩, ⟨_, _, rfl⟩⟩
theorem mw_X7_init : MW yX7_init cX7_init 1 none 0 := ⟨List.mem_filter.mpr ⟨List.mem_of_getElem? (i := 146) (by decide +kernel), by decide +kernel⟩, List.mem_filter.mpr ⟨List.mem_of_getElem? (i := 120) (by decide +kernel), by decide +kernel⟩, ⟨by decide +kernel, by decide +kernel, by decide +kernel⟩, by decide⟩
theorem mv_X7_take : MV 7 yX7_take cX7_take 2 (some .boolean) 1 := ⟨⟨List.mem_filter.mpr ⟨List.mem_of_getElem? (i := 367) (by decide +kernel), by decide +kernel⟩, List.mem_filter.mpr ⟨List.mem_of_getElem? (i := 120) (by decide +kernel), by decide +kernel⟩, ⟨by decide +kernel, by decide +kernel, by decide +kernel⟩, by decide⟩, List.mem_filter.mpr ⟨List.mem_of_getElem? (i := 366) (by decide +kernel), by decide +kernel⟩, List.mem_filter.mpr ⟨List.mem_of_getElem? (i := 8) (by decide +kernel), by decide +kernel⟩, ⟨_, _, rfl⟩⟩
theorem mv_X7_readInto : MV 7 yX7_readInto cX7_readInto 3 (some .boolean) 1 := ⟨⟨List.mem_filter.mpr ⟨List.mem_of_getElem? (i := 376) (by decide +kernel), by decide +kernel⟩, List.mem_filter.mpr ⟨List.mem_of_getElem? (i := 120) (by decide +kernel), by decide +kernel⟩, ⟨by decide +kernel, by decide +kernel, by decide +kernel⟩, by decide⟩, List.mem_filter.mpr ⟨List.mem_of_getElem? (i := 375) (by decide +kernel), by decide +kernel⟩, List.mem_filter.mpr ⟨List.mem_of_getElem? (i := 9) (by decide +kernel), by decide +kernel⟩, ⟨_, _, rfl⟩⟩
theorem mv_X7_readLaw : MV 7 yX7_readLaw cX7_readLaw 2 (some .boolean) 1 := ⟨⟨List.mem_filter.mpr ⟨List.mem_of_getElem? (i := 384) (by decide +kernel), by decide +kernel⟩, List.mem_filter.mpr ⟨List.mem_of_getElem? (i := 120) (by decide +kernel), by decide +kernel⟩, ⟨by decide +kernel, by decide +kernel, by decide +kernel⟩, by decide⟩, List.mem_filter.mpr ⟨List.mem_of_getElem? (i := 383) (by decide +kernel), by decide +kernel⟩, List.mem_filter.mpr ⟨List.mem_of_getElem? (i := 11) (by decide +kernel), by decide +kernel⟩, ⟨_, _, rfl⟩⟩
theorem mv_X7_readDisc : MV 7 yX7_readDisc cX7_readDisc 3 (some .boolean) 1 := ⟨⟨List.mem_filter.mpr ⟨List.mem_of_getElem? (i := 407) (by decide +kernel), by decide +kernel⟩, List.mem_filter.mpr ⟨List.mem_of_getElem? (i := 120) (by decide +kernel), by decide +kernel⟩, ⟨by decide +kernel, by decide +kernel, by decide +kernel⟩, by decide⟩, List.mem_filter.mpr ⟨List.mem_of_getElem? (i := 406) (by decide +kernel), by decide +kernel⟩, List.mem_filter.mpr ⟨List.mem_of_getElem? (i := 16) (by decide +kernel), by decide +kernel⟩, ⟨_, _, rfl⟩⟩
theorem mv_X7_passes : MV 7 yX7_passes cX7_passes 2 (some .boolean) 1 := ⟨⟨List.mem_filter.mpr ⟨List.mem_of_getElem? (i := 388) (by decide +kernel), by decide +kernel⟩, List.mem_filter.mpr ⟨List.mem_of_getElem? (i := 120) (by decide +kernel), by decide +kernel⟩, ⟨by decide +kernel, by decide +kernel, by decide +kernel⟩, by decide⟩, List.mem_filter.mpr ⟨List.mem_of_getElem? (i := 387) (by decide +kernel), by decide +kernel⟩, List.mem_filter.mpr ⟨List.mem_of_getElem? (i := 12) (by decide +kernel), by decide +kernel⟩, ⟨_, _, rfl⟩⟩
theorem mv_X7_readNumber : MV 7 yX7_readNumber cX7_readNumber 4 (some .boolean) 2 := ⟨⟨List.mem_filter.mpr ⟨List.mem_of_getElem? (i := 400) (by decide +kernel), by decide +kernel⟩, List.mem_filter.mpr ⟨List.mem_of_getElem? (i := 120) (by decide +kernel), by decide +kernel⟩, ⟨by decide +kernel, by decide +kernel, by decide +kernel⟩, by decide⟩, List.mem_filter.mpr ⟨List.mem_of_getElem? (i := 399) (by decide +kernel), by decide +kernel⟩, List.mem_filter.mpr ⟨List.mem_of_getElem? (i := 15) (by decide +kernel), by decide +kernel⟩, ⟨_, _, rfl⟩⟩
theorem mv_X7_faulty : MV 7 yX7_faulty cX7_faulty 2 (some .boolean) 1 := ⟨⟨List.mem_filter.mpr ⟨List.mem_of_getElem? (i := 396) (by decide +kernel), by decide +kernel⟩, List.mem_filter.mpr ⟨List.mem_of_getElem? (i := 120) (by decide +kernel), by decide +kernel⟩, ⟨by decide +kernel, by decide +kernel, by decide +kernel⟩, by decide⟩, List.mem_filter.mpr ⟨List.mem_of_getElem? (i := 395) (by decide +kernel), by decide +kernel⟩, List.mem_filter.mpr ⟨List.mem_of_getElem? (i := 14) (by decide +kernel), by decide +kernel⟩, ⟨_, _, rfl⟩⟩
theorem mv_X7_byteAt : MV 7 yX7_byteAt cX7_byteAt 2 (some .int) 1 := ⟨⟨List.mem_filter.mpr ⟨List.mem_of_getElem? (i := 392) (by decide +kernel), by decide +kernel⟩, List.mem_filter.mpr ⟨List.mem_of_getElem? (i := 120) (by decide +kernel), by decide +kernel⟩, ⟨by decide +kernel, by decide +kernel, by decide +kernel⟩, by decide⟩, List.mem_filter.mpr ⟨List.mem_of_getElem? (i := 391) (by decide +kernel), by decide +kernel⟩, List.mem_filter.mpr ⟨List.mem_of_getElem? (i := 13) (by decide +kernel), by decide +kernel⟩, ⟨_, _, rfl⟩⟩
theorem ms_X7_isFigure : MS yX7_isFigure cX7_isFigure 1 (some .boolean) 1 := ⟨⟨List.mem_filter.mpr ⟨List.mem_of_getElem? (i := 403) (by decide +kernel), by decide +kernel⟩, List.mem_filter.mpr ⟨List.mem_of_getElem? (i := 120) (by decide +kernel), by decide +kernel⟩, ⟨by decide +kernel, by decide +kernel, by decide +kernel⟩, by decide⟩, List.mem_filter.mpr ⟨List.mem_of_getElem? (i := 402) (by decide +kernel), by decide +kernel⟩⟩
theorem ms_X7_sortOf : MS yX7_sortOf cX7_sortOf 1 (some .int) 1 := ⟨⟨List.mem_filter.mpr ⟨List.mem_of_getElem? (i := 410) (by decide +kernel), by decide +kernel⟩, List.mem_filter.mpr ⟨List.mem_of_getElem? (i := 120) (by decide +kernel), by decide +kernel⟩, ⟨by decide +kernel, by decide +kernel, by decide +kernel⟩, by decide⟩, List.mem_filter.mpr ⟨List.mem_of_getElem? (i := 409) (by decide +kernel), by decide +kernel⟩⟩
theorem mw_X8_init : MW yX8_init cX8_init 2 none 0 := ⟨List.mem_filter.mpr ⟨List.mem_of_getElem? (i := 136) (by decide +kernel), by decide +kernel⟩, List.mem_filter.mpr ⟨List.mem_of_getElem? (i := 119) (by decide +kernel), by decide +kernel⟩, ⟨by decide +kernel, by decide +kernel, by decide +kernel⟩, by decide⟩
theorem mv_X8_row : MV 8 yX8_row cX8_row 5 (some .int) 3 := ⟨⟨List.mem_filter.mpr ⟨List.mem_of_getElem? (i := 306) (by decide +kernel), by decide +kernel⟩, List.mem_filter.mpr ⟨List.mem_of_getElem? (i := 119) (by decide +kernel), by decide +kernel⟩, ⟨by decide +kernel, by decide +kernel, by decide +kernel⟩, by decide⟩, List.mem_filter.mpr ⟨List.mem_of_getElem? (i := 304) (by decide +kernel), by decide +kernel⟩, List.mem_filter.mpr ⟨List.mem_of_getElem? (i := 305) (by decide +kernel), by decide +kernel⟩, ⟨_, _, rfl⟩⟩
theorem mv_X8_set : MV 8 yX8_set cX8_set 6 (some .int) 3 := ⟨⟨List.mem_filter.mpr ⟨List.mem_of_getElem? (i := 331) (by decide +kernel), by decide +kernel⟩, List.mem_filter.mpr ⟨List.mem_of_getElem? (i := 119) (by decide +kernel), by decide +kernel⟩, ⟨by decide +kernel, by decide +kernel, by decide +kernel⟩, by decide⟩, List.mem_filter.mpr ⟨List.mem_of_getElem? (i := 329) (by decide +kernel), by decide +kernel⟩, List.mem_filter.mpr ⟨List.mem_of_getElem? (i := 330) (by decide +kernel), by decide +kernel⟩, ⟨_, _, rfl⟩⟩
theorem mv_X8_copy : MV 8 yX8_copy cX8_copy 8 (some .int) 5 := ⟨⟨List.mem_filter.mpr ⟨List.mem_of_getElem? (i := 347) (by decide +kernel), by decide +kernel⟩, List.mem_filter.mpr ⟨List.mem_of_getElem? (i := 119) (by decide +kernel), by decide +kernel⟩, ⟨by decide +kernel, by decide +kernel, by decide +kernel⟩, by decide⟩, List.mem_filter.mpr ⟨List.mem_of_getElem? (i := 345) (by decide +kernel), by decide +kernel⟩, List.mem_filter.mpr ⟨List.mem_of_getElem? (i := 346) (by decide +kernel), by decide +kernel⟩, ⟨_, _, rfl⟩⟩
theorem mv_X8_drop : MV 8 yX8_drop cX8_drop 3 (some .int) 1 := ⟨⟨List.mem_filter.mpr ⟨List.mem_of_getElem? (i := 355) (by decide +kernel), by decide +kernel⟩, List.mem_filter.mpr ⟨List.mem_of_getElem? (i := 119) (by decide +kernel), by decide +kernel⟩, ⟨by decide +kernel, by decide +kernel, by decide +kernel⟩, by decide⟩, List.mem_filter.mpr ⟨List.mem_of_getElem? (i := 353) (by decide +kernel), by decide +kernel⟩, List.mem_filter.mpr ⟨List.mem_of_getElem? (i := 354) (by decide +kernel), by decide +kernel⟩, ⟨_, _, rfl⟩⟩
theorem mv_X8_feed : MV 8 yX8_feed cX8_feed 2 (some .int) 1 := ⟨⟨List.mem_filter.mpr ⟨List.mem_of_getElem? (i := 363) (by decide +kernel), by decide +kernel⟩, List.mem_filter.mpr ⟨List.mem_of_getElem? (i := 119) (by decide +kernel), by decide +kernel⟩, ⟨by decide +kernel, by decide +kernel, by decide +kernel⟩, by decide⟩, List.mem_filter.mpr ⟨List.mem_of_getElem? (i := 361) (by decide +kernel), by decide +kernel⟩, List.mem_filter.mpr ⟨List.mem_of_getElem? (i := 362) (by decide +kernel), by decide +kernel⟩, ⟨_, _, rfl⟩⟩
theorem mv_X8_board : MV 8 yX8_board cX8_board 2 (some .int) 0 := ⟨⟨List.mem_filter.mpr ⟨List.mem_of_getElem? (i := 372) (by decide +kernel), by decide +kernel⟩, List.mem_filter.mpr ⟨List.mem_of_getElem? (i := 119) (by decide +kernel), by decide +kernel⟩, ⟨by decide +kernel, by decide +kernel, by decide +kernel⟩, by decide⟩, List.mem_filter.mpr ⟨List.mem_of_getElem? (i := 370) (by decide +kernel), by decide +kernel⟩, List.mem_filter.mpr ⟨List.mem_of_getElem? (i := 371) (by decide +kernel), by decide +kernel⟩, ⟨_, _, rfl⟩⟩
theorem mv_X8_fault : MV 8 yX8_fault cX8_fault 1 (some .int) 0 := ⟨⟨List.mem_filter.mpr ⟨List.mem_of_getElem? (i := 431) (by decide +kernel), by decide +kernel⟩, List.mem_filter.mpr ⟨List.mem_of_getElem? (i := 119) (by decide +kernel), by decide +kernel⟩, ⟨by decide +kernel, by decide +kernel, by decide +kernel⟩, by decide⟩, List.mem_filter.mpr ⟨List.mem_of_getElem? (i := 429) (by decide +kernel), by decide +kernel⟩, List.mem_filter.mpr ⟨List.mem_of_getElem? (i := 430) (by decide +kernel), by decide +kernel⟩, ⟨_, _, rfl⟩⟩
theorem mv_X8_move : MV 8 yX8_move cX8_move 5 (some .int) 2 := ⟨⟨List.mem_filter.mpr ⟨List.mem_of_getElem? (i := 435) (by decide +kernel), by decide +kernel⟩, List.mem_filter.mpr ⟨List.mem_of_getElem? (i := 119) (by decide +kernel), by decide +kernel⟩, ⟨by decide +kernel, by decide +kernel, by decide +kernel⟩, by decide⟩, List.mem_filter.mpr ⟨List.mem_of_getElem? (i := 433) (by decide +kernel), by decide +kernel⟩, List.mem_filter.mpr ⟨List.mem_of_getElem? (i := 434) (by decide +kernel), by decide +kernel⟩, ⟨_, _, rfl⟩⟩
theorem mv_X8_put : MV 8 yX8_put cX8_put 4 (some .int) 2 := ⟨⟨List.mem_filter.mpr ⟨List.mem_of_getElem? (i := 498) (by decide +kernel), by decide +kernel⟩, List.mem_filter.mpr ⟨List.mem_of_getElem? (i := 119) (by decide +kernel), by decide +kernel⟩, ⟨by decide +kernel, by decide +kernel, by decide +kernel⟩, by decide⟩, List.mem_filter.mpr ⟨List.mem_of_getElem? (i := 496) (by decide +kernel), by decide +kernel⟩, List.mem_filter.mpr ⟨List.mem_of_getElem? (i := 497) (by decide +kernel), by decide +kernel⟩, ⟨_, _, rfl⟩⟩
theorem mv_X8_high : MV 8 yX8_high cX8_high 3 (some .int) 1 := ⟨⟨List.mem_filter.mpr ⟨List.mem_of_getElem? (i := 511) (by decide +kernel), by decide +kernel⟩, List.mem_filter.mpr ⟨List.mem_of_getElem? (i := 119) (by decide +kernel), by decide +kernel⟩, ⟨by decide +kernel, by decide +kernel, by decide +kernel⟩, by decide⟩, List.mem_filter.mpr ⟨List.mem_of_getElem? (i := 509) (by decide +kernel), by decide +kernel⟩, List.mem_filter.mpr ⟨List.mem_of_getElem? (i := 510) (by decide +kernel), by decide +kernel⟩, ⟨_, _, rfl⟩⟩
theorem mv_X8_undo : MV 8 yX8_undo cX8_undo 1 (some .int) 0 := ⟨⟨List.mem_filter.mpr ⟨List.mem_of_getElem? (i := 519) (by decide +kernel), by decide +kernel⟩, List.mem_filter.mpr ⟨List.mem_of_getElem? (i := 119) (by decide +kernel), by decide +kernel⟩, ⟨by decide +kernel, by decide +kernel, by decide +kernel⟩, by decide⟩, List.mem_filter.mpr ⟨List.mem_of_getElem? (i := 517) (by decide +kernel), by decide +kernel⟩, List.mem_filter.mpr ⟨List.mem_of_getElem? (i := 518) (by decide +kernel), by decide +kernel⟩, ⟨_, _, rfl⟩⟩
theorem mv_X8_disc : MV 8 yX8_disc cX8_disc 5 (some .int) 2 := ⟨⟨List.mem_filter.mpr ⟨List.mem_of_getElem? (i := 527) (by decide +kernel), by decide +kernel⟩, List.mem_filter.mpr ⟨List.mem_of_getElem? (i := 119) (by decide +kernel), by decide +kernel⟩, ⟨by decide +kernel, by decide +kernel, by decide +kernel⟩, by decide⟩, List.mem_filter.mpr ⟨List.mem_of_getElem? (i := 525) (by decide +kernel), by decide +kernel⟩, List.mem_filter.mpr ⟨List.mem_of_getElem? (i := 526) (by decide +kernel), by decide +kernel⟩, ⟨_, _, rfl⟩⟩
theorem mv_X8_peg : MV 8 yX8_peg cX8_peg 4 (some .int) 2 := ⟨⟨List.mem_filter.mpr ⟨List.mem_of_getElem? (i := 532) (by decide +kernel), by decide +kernel⟩, List.mem_filter.mpr ⟨List.mem_of_getElem? (i := 119) (by decide +kernel), by decide +kernel⟩, ⟨by decide +kernel, by decide +kernel, by decide +kernel⟩, by decide⟩, List.mem_filter.mpr ⟨List.mem_of_getElem? (i := 530) (by decide +kernel), by decide +kernel⟩, List.mem_filter.mpr ⟨List.mem_of_getElem? (i := 531) (by decide +kernel), by decide +kernel⟩, ⟨_, _, rfl⟩⟩
theorem mv_X8_can : MV 8 yX8_can cX8_can 1 (some .int) 0 := ⟨⟨List.mem_filter.mpr ⟨List.mem_of_getElem? (i := 539) (by decide +kernel), by decide +kernel⟩, List.mem_filter.mpr ⟨List.mem_of_getElem? (i := 119) (by decide +kernel), by decide +kernel⟩, ⟨by decide +kernel, by decide +kernel, by decide +kernel⟩, by decide⟩, List.mem_filter.mpr ⟨List.mem_of_getElem? (i := 537) (by decide +kernel), by decide +kernel⟩, List.mem_filter.mpr ⟨List.mem_of_getElem? (i := 538) (by decide +kernel), by decide +kernel⟩, ⟨_, _, rfl⟩⟩
theorem mv_X8_least : MV 8 yX8_least cX8_least 7 (some .int) 3 := ⟨⟨List.mem_filter.mpr ⟨List.mem_of_getElem? (i := 543) (by decide +kernel), by decide +kernel⟩, List.mem_filter.mpr ⟨List.mem_of_getElem? (i := 119) (by decide +kernel), by decide +kernel⟩, ⟨by decide +kernel, by decide +kernel, by decide +kernel⟩, by decide⟩, List.mem_filter.mpr ⟨List.mem_of_getElem? (i := 541) (by decide +kernel), by decide +kernel⟩, List.mem_filter.mpr ⟨List.mem_of_getElem? (i := 542) (by decide +kernel), by decide +kernel⟩, ⟨_, _, rfl⟩⟩
theorem mv_X8_tower : MV 8 yX8_tower cX8_tower 3 (some .int) 2 := ⟨⟨List.mem_filter.mpr ⟨List.mem_of_getElem? (i := 693) (by decide +kernel), by decide +kernel⟩, List.mem_filter.mpr ⟨List.mem_of_getElem? (i := 119) (by decide +kernel), by decide +kernel⟩, ⟨by decide +kernel, by decide +kernel, by decide +kernel⟩, by decide⟩, List.mem_filter.mpr ⟨List.mem_of_getElem? (i := 691) (by decide +kernel), by decide +kernel⟩, List.mem_filter.mpr ⟨List.mem_of_getElem? (i := 692) (by decide +kernel), by decide +kernel⟩, ⟨_, _, rfl⟩⟩
theorem mv_X8_world : MV 8 yX8_world cX8_world 3 (some .int) 1 := ⟨⟨List.mem_filter.mpr ⟨List.mem_of_getElem? (i := 701) (by decide +kernel), by decide +kernel⟩, List.mem_filter.mpr ⟨List.mem_of_getElem? (i := 119) (by decide +kernel), by decide +kernel⟩, ⟨by decide +kernel, by decide +kernel, by decide +kernel⟩, by decide⟩, List.mem_filter.mpr ⟨List.mem_of_getElem? (i := 699) (by decide +kernel), by decide +kernel⟩, List.mem_filter.mpr ⟨List.mem_of_getElem? (i := 700) (by decide +kernel), by decide +kernel⟩, ⟨_, _, rfl⟩⟩
theorem mv_X8_ring : MV 8 yX8_ring cX8_ring 1 (some .int) 0 := ⟨⟨List.mem_filter.mpr ⟨List.mem_of_getElem? (i := 709) (by decide +kernel), by decide +kernel⟩, List.mem_filter.mpr ⟨List.mem_of_getElem? (i := 119) (by decide +kernel), by decide +kernel⟩, ⟨by decide +kernel, by decide +kernel, by decide +kernel⟩, by decide⟩, List.mem_filter.mpr ⟨List.mem_of_getElem? (i := 707) (by decide +kernel), by decide +kernel⟩, List.mem_filter.mpr ⟨List.mem_of_getElem? (i := 708) (by decide +kernel), by decide +kernel⟩, ⟨_, _, rfl⟩⟩
theorem mv_X8_ways : MV 8 yX8_ways cX8_ways 7 (some .long) 3 := ⟨⟨List.mem_filter.mpr ⟨List.mem_of_getElem? (i := 713) (by decide +kernel), by decide +kernel⟩, List.mem_filter.mpr ⟨List.mem_of_getElem? (i := 119) (by decide +kernel), by decide +kernel⟩, ⟨by decide +kernel, by decide +kernel, by decide +kernel⟩, by decide⟩, List.mem_filter.mpr ⟨List.mem_of_getElem? (i := 711) (by decide +kernel), by decide +kernel⟩, List.mem_filter.mpr ⟨List.mem_of_getElem? (i := 712) (by decide +kernel), by decide +kernel⟩, ⟨_, _, rfl⟩⟩
theorem mv_X8_judge : MV 8 yX8_judge cX8_judge 6 (some .int) 3 := ⟨⟨List.mem_filter.mpr ⟨List.mem_of_getElem? (i := 770) (by decide +kernel), by decide +kernel⟩, List.mem_filter.mpr ⟨List.mem_of_getElem? (i := 119) (by decide +kernel), by decide +kernel⟩, ⟨by decide +kernel, by decide +kernel, by decide +kernel⟩, by decide⟩, List.mem_filter.mpr ⟨List.mem_of_getElem? (i := 768) (by decide +kernel), by decide +kernel⟩, List.mem_filter.mpr ⟨List.mem_of_getElem? (i := 769) (by decide +kernel), by decide +kernel⟩, ⟨_, _, rfl⟩⟩
theorem mv_X8_fits : MV 8 yX8_fits cX8_fits 10 (some .int) 5 := ⟨⟨List.mem_filter.mpr ⟨List.mem_of_getElem? (i := 785) (by decide +kernel), by decide +kernel⟩, List.mem_filter.mpr ⟨List.mem_of_getElem? (i := 119) (by decide +kernel), by decide +kernel⟩, ⟨by decide +kernel, by decide +kernel, by decide +kernel⟩, by decide⟩, List.mem_filter.mpr ⟨List.mem_of_getElem? (i := 783) (by decide +kernel), by decide +kernel⟩, List.mem_filter.mpr ⟨List.mem_of_getElem? (i := 784) (by decide +kernel), by decide +kernel⟩, ⟨_, _, rfl⟩⟩
theorem mv_X8_chance : MV 8 yX8_chance cX8_chance 12 (some .long) 4 := ⟨⟨List.mem_filter.mpr ⟨List.mem_of_getElem? (i := 794) (by decide +kernel), by decide +kernel⟩, List.mem_filter.mpr ⟨List.mem_of_getElem? (i := 119) (by decide +kernel), by decide +kernel⟩, ⟨by decide +kernel, by decide +kernel, by decide +kernel⟩, by decide⟩, List.mem_filter.mpr ⟨List.mem_of_getElem? (i := 792) (by decide +kernel), by decide +kernel⟩, List.mem_filter.mpr ⟨List.mem_of_getElem? (i := 793) (by decide +kernel), by decide +kernel⟩, ⟨_, _, rfl⟩⟩
theorem mv_X8_drawn : MV 8 yX8_drawn cX8_drawn 5 (some .int) 3 := ⟨⟨List.mem_filter.mpr ⟨List.mem_of_getElem? (i := 814) (by decide +kernel), by decide +kernel⟩, List.mem_filter.mpr ⟨List.mem_of_getElem? (i := 119) (by decide +kernel), by decide +kernel⟩, ⟨by decide +kernel, by decide +kernel, by decide +kernel⟩, by decide⟩, List.mem_filter.mpr ⟨List.mem_of_getElem? (i := 812) (by decide +kernel), by decide +kernel⟩, List.mem_filter.mpr ⟨List.mem_of_getElem? (i := 813) (by decide +kernel), by decide +kernel⟩, ⟨_, _, rfl⟩⟩
theorem mv_X8_image : MV 8 yX8_image cX8_image 2 (some .int) 1 := ⟨⟨List.mem_filter.mpr ⟨List.mem_of_getElem? (i := 829) (by decide +kernel), by decide +kernel⟩, List.mem_filter.mpr ⟨List.mem_of_getElem? (i := 119) (by decide +kernel), by decide +kernel⟩, ⟨by decide +kernel, by decide +kernel, by decide +kernel⟩, by decide⟩, List.mem_filter.mpr ⟨List.mem_of_getElem? (i := 827) (by decide +kernel), by decide +kernel⟩, List.mem_filter.mpr ⟨List.mem_of_getElem? (i := 828) (by decide +kernel), by decide +kernel⟩, ⟨_, _, rfl⟩⟩
theorem mv_X8_restore : MV 8 yX8_restore cX8_restore 2 (some .int) 1 := ⟨⟨List.mem_filter.mpr ⟨List.mem_of_getElem? (i := 833) (by decide +kernel), by decide +kernel⟩, List.mem_filter.mpr ⟨List.mem_of_getElem? (i := 119) (by decide +kernel), by decide +kernel⟩, ⟨by decide +kernel, by decide +kernel, by decide +kernel⟩, by decide⟩, List.mem_filter.mpr ⟨List.mem_of_getElem? (i := 831) (by decide +kernel), by decide +kernel⟩, List.mem_filter.mpr ⟨List.mem_of_getElem? (i := 832) (by decide +kernel), by decide +kernel⟩, ⟨_, _, rfl⟩⟩
theorem mv_X8_kind : MV 8 yX8_kind cX8_kind 2 (some .int) 1 := ⟨⟨List.mem_filter.mpr ⟨List.mem_of_getElem? (i := 837) (by decide +kernel), by decide +kernel⟩, List.mem_filter.mpr ⟨List.mem_of_getElem? (i := 119) (by decide +kernel), by decide +kernel⟩, ⟨by decide +kernel, by decide +kernel, by decide +kernel⟩, by decide⟩, List.mem_filter.mpr ⟨List.mem_of_getElem? (i := 835) (by decide +kernel), by decide +kernel⟩, List.mem_filter.mpr ⟨List.mem_of_getElem? (i := 836) (by decide +kernel), by decide +kernel⟩, ⟨_, _, rfl⟩⟩
theorem mv_X8_as : MV 8 yX8_as cX8_as 3 (some .int) 2 := ⟨⟨List.mem_filter.mpr ⟨List.mem_of_getElem? (i := 842) (by decide +kernel), by decide +kernel⟩, List.mem_filter.mpr ⟨List.mem_of_getElem? (i := 119) (by decide +kernel), by decide +kernel⟩, ⟨by decide +kernel, by decide +kernel, by decide +kernel⟩, by decide⟩, List.mem_filter.mpr ⟨List.mem_of_getElem? (i := 840) (by decide +kernel), by decide +kernel⟩, List.mem_filter.mpr ⟨List.mem_of_getElem? (i := 841) (by decide +kernel), by decide +kernel⟩, ⟨_, _, rfl⟩⟩
theorem mv_X8_ask : MV 8 yX8_ask cX8_ask 3 (some .int) 2 := ⟨⟨List.mem_filter.mpr ⟨List.mem_of_getElem? (i := 848) (by decide +kernel), by decide +kernel⟩, List.mem_filter.mpr ⟨List.mem_of_getElem? (i := 119) (by decide +kernel), by decide +kernel⟩, ⟨by decide +kernel, by decide +kernel, by decide +kernel⟩, by decide⟩, List.mem_filter.mpr ⟨List.mem_of_getElem? (i := 846) (by decide +kernel), by decide +kernel⟩, List.mem_filter.mpr ⟨List.mem_of_getElem? (i := 847) (by decide +kernel), by decide +kernel⟩, ⟨_, _, rfl⟩⟩
theorem mv_X8_trace : MV 8 yX8_trace cX8_trace 2 (some .int) 1 := ⟨⟨List.mem_filter.mpr ⟨List.mem_of_getElem? (i := 872) (by decide +kernel), by decide +kernel⟩, List.mem_filter.mpr ⟨List.mem_of_getElem? (i := 119) (by decide +kernel), by decide +kernel⟩, ⟨by decide +kernel, by decide +kernel, by decide +kernel⟩, by decide⟩, List.mem_filter.mpr ⟨List.mem_of_getElem? (i := 870) (by decide +kernel), by decide +kernel⟩, List.mem_filter.mpr ⟨List.mem_of_getElem? (i := 871) (by decide +kernel), by decide +kernel⟩, ⟨_, _, rfl⟩⟩
theorem mv_X8_count : MV 8 yX8_count cX8_count 2 (some .int) 1 := ⟨⟨List.mem_filter.mpr ⟨List.mem_of_getElem? (i := 881) (by decide +kernel), by decide +kernel⟩, List.mem_filter.mpr ⟨List.mem_of_getElem? (i := 119) (by decide +kernel), by decide +kernel⟩, ⟨by decide +kernel, by decide +kernel, by decide +kernel⟩, by decide⟩, List.mem_filter.mpr ⟨List.mem_of_getElem? (i := 879) (by decide +kernel), by decide +kernel⟩, List.mem_filter.mpr ⟨List.mem_of_getElem? (i := 880) (by decide +kernel), by decide +kernel⟩, ⟨_, _, rfl⟩⟩
theorem mv_X8_status : MV 8 yX8_status cX8_status 1 (some .int) 0 := ⟨⟨List.mem_filter.mpr ⟨List.mem_of_getElem? (i := 889) (by decide +kernel), by decide +kernel⟩, List.mem_filter.mpr ⟨List.mem_of_getElem? (i := 119) (by decide +kernel), by decide +kernel⟩, ⟨by decide +kernel, by decide +kernel, by decide +kernel⟩, by decide⟩, List.mem_filter.mpr ⟨List.mem_of_getElem? (i := 887) (by decide +kernel), by decide +kernel⟩, List.mem_filter.mpr ⟨List.mem_of_getElem? (i := 888) (by decide +kernel), by decide +kernel⟩, ⟨_, _, rfl⟩⟩
theorem mv_X8_rowAt : MV 8 yX8_rowAt cX8_rowAt 2 (some (.object "PegDiscs$Row")) 1 := ⟨⟨List.mem_filter.mpr ⟨List.mem_of_getElem? (i := 310) (by decide +kernel), by decide +kernel⟩, List.mem_filter.mpr ⟨List.mem_of_getElem? (i := 119) (by decide +kernel), by decide +kernel⟩, ⟨by decide +kernel, by decide +kernel, by decide +kernel⟩, by decide⟩, List.mem_filter.mpr ⟨List.mem_of_getElem? (i := 309) (by decide +kernel), by decide +kernel⟩, List.mem_filter.mpr ⟨List.mem_of_getElem? (i := 0) (by decide +kernel), by decide +kernel⟩, ⟨_, _, rfl⟩⟩
theorem mv_X8_found : MV 8 yX8_found cX8_found 2 (some .int) 1 := ⟨⟨List.mem_filter.mpr ⟨List.mem_of_getElem? (i := 315) (by decide +kernel), by decide +kernel⟩, List.mem_filter.mpr ⟨List.mem_of_getElem? (i := 119) (by decide +kernel), by decide +kernel⟩, ⟨by decide +kernel, by decide +kernel, by decide +kernel⟩, by decide⟩, List.mem_filter.mpr ⟨List.mem_of_getElem? (i := 314) (by decide +kernel), by decide +kernel⟩, List.mem_filter.mpr ⟨List.mem_of_getElem? (i := 1) (by decide +kernel), by decide +kernel⟩, ⟨_, _, rfl⟩⟩
theorem mv_X8_well : MV 8 yX8_well cX8_well 2 (some .int) 1 := ⟨⟨List.mem_filter.mpr ⟨List.mem_of_getElem? (i := 327) (by decide +kernel), by decide +kernel⟩, List.mem_filter.mpr ⟨List.mem_of_getElem? (i := 119) (by decide +kernel), by decide +kernel⟩, ⟨by decide +kernel, by decide +kernel, by decide +kernel⟩, by decide⟩, List.mem_filter.mpr ⟨List.mem_of_getElem? (i := 326) (by decide +kernel), by decide +kernel⟩, List.mem_filter.mpr ⟨List.mem_of_getElem? (i := 3) (by decide +kernel), by decide +kernel⟩, ⟨_, _, rfl⟩⟩
theorem mv_X8_rowsThere : MV 8 yX8_rowsThere cX8_rowsThere 3 (some .int) 0 := ⟨⟨List.mem_filter.mpr ⟨List.mem_of_getElem? (i := 885) (by decide +kernel), by decide +kernel⟩, List.mem_filter.mpr ⟨List.mem_of_getElem? (i := 119) (by decide +kernel), by decide +kernel⟩, ⟨by decide +kernel, by decide +kernel, by decide +kernel⟩, by decide⟩, List.mem_filter.mpr ⟨List.mem_of_getElem? (i := 884) (by decide +kernel), by decide +kernel⟩, List.mem_filter.mpr ⟨List.mem_of_getElem? (i := 73) (by decide +kernel), by decide +kernel⟩, ⟨_, _, rfl⟩⟩
theorem mv_X8_suppose : MV 8 yX8_suppose cX8_suppose 4 (some .boolean) 3 := ⟨⟨List.mem_filter.mpr ⟨List.mem_of_getElem? (i := 789) (by decide +kernel), by decide +kernel⟩, List.mem_filter.mpr ⟨List.mem_of_getElem? (i := 119) (by decide +kernel), by decide +kernel⟩, ⟨by decide +kernel, by decide +kernel, by decide +kernel⟩, by decide⟩, List.mem_filter.mpr ⟨List.mem_of_getElem? (i := 788) (by decide +kernel), by decide +kernel⟩, List.mem_filter.mpr ⟨List.mem_of_getElem? (i := 64) (by decide +kernel), by decide +kernel⟩, ⟨_, _, rfl⟩⟩
theorem mv_X8_netNow : MV 8 yX8_netNow cX8_netNow 1 (some (.object "PegDiscs$Net")) 0 := ⟨⟨List.mem_filter.mpr ⟨List.mem_of_getElem? (i := 624) (by decide +kernel), by decide +kernel⟩, List.mem_filter.mpr ⟨List.mem_of_getElem? (i := 119) (by decide +kernel), by decide +kernel⟩, ⟨by decide +kernel, by decide +kernel, by decide +kernel⟩, by decide⟩, List.mem_filter.mpr ⟨List.mem_of_getElem? (i := 623) (by decide +kernel), by decide +kernel⟩, List.mem_filter.mpr ⟨List.mem_of_getElem? (i := 43) (by decide +kernel), by decide +kernel⟩, ⟨_, _, rfl⟩⟩
theorem mv_X8_searched : MV 8 yX8_searched cX8_searched 1 (some (.object "PegDiscs$Search")) 0 := ⟨⟨List.mem_filter.mpr ⟨List.mem_of_getElem? (i := 557) (by decide +kernel), by decide +kernel⟩, List.mem_filter.mpr ⟨List.mem_of_getElem? (i := 119) (by decide +kernel), by decide +kernel⟩, ⟨by decide +kernel, by decide +kernel, by decide +kernel⟩, by decide⟩, List.mem_filter.mpr ⟨List.mem_of_getElem? (i := 556) (by decide +kernel), by decide +kernel⟩, List.mem_filter.mpr ⟨List.mem_of_getElem? (i := 39) (by decide +kernel), by decide +kernel⟩, ⟨_, _, rfl⟩⟩
theorem mv_X8_layered : MV 8 yX8_layered cX8_layered 2 (some (.object "PegDiscs$Layers")) 0 := ⟨⟨List.mem_filter.mpr ⟨List.mem_of_getElem? (i := 719) (by decide +kernel), by decide +kernel⟩, List.mem_filter.mpr ⟨List.mem_of_getElem? (i := 119) (by decide +kernel), by decide +kernel⟩, ⟨by decide +kernel, by decide +kernel, by decide +kernel⟩, by decide⟩, List.mem_filter.mpr ⟨List.mem_of_getElem? (i := 718) (by decide +kernel), by decide +kernel⟩, List.mem_filter.mpr ⟨List.mem_of_getElem? (i := 56) (by decide +kernel), by decide +kernel⟩, ⟨_, _, rfl⟩⟩
theorem ms_X8_commonOf : MS yX8_commonOf cX8_commonOf 11 (some .long) 2 := ⟨⟨List.mem_filter.mpr ⟨List.mem_of_getElem? (i := 810) (by decide +kernel), by decide +kernel⟩, List.mem_filter.mpr ⟨List.mem_of_getElem? (i := 119) (by decide +kernel), by decide +kernel⟩, ⟨by decide +kernel, by decide +kernel, by decide +kernel⟩, by decide⟩, List.mem_filter.mpr ⟨List.mem_of_getElem? (i := 809) (by decide +kernel), by decide +kernel⟩⟩
theorem mw_X9_init : MW yX9_init cX9_init 2 none 0 := ⟨List.mem_filter.mpr ⟨List.mem_of_getElem? (i := 894) (by decide +kernel), by decide +kernel⟩, List.mem_filter.mpr ⟨List.mem_of_getElem? (i := 125) (by decide +kernel), by decide +kernel⟩, ⟨by decide +kernel, by decide +kernel, by decide +kernel⟩, by decide⟩
theorem ms_X9_in : MS yX9_in cX9_in 6 (some .boolean) 3 := ⟨⟨List.mem_filter.mpr ⟨List.mem_of_getElem? (i := 981) (by decide +kernel), by decide +kernel⟩, List.mem_filter.mpr ⟨List.mem_of_getElem? (i := 125) (by decide +kernel), by decide +kernel⟩, ⟨by decide +kernel, by decide +kernel, by decide +kernel⟩, by decide⟩, List.mem_filter.mpr ⟨List.mem_of_getElem? (i := 980) (by decide +kernel), by decide +kernel⟩⟩
theorem ms_X9_has : MS yX9_has cX9_has 2 (some .boolean) 2 := ⟨⟨List.mem_filter.mpr ⟨List.mem_of_getElem? (i := 1091) (by decide +kernel), by decide +kernel⟩, List.mem_filter.mpr ⟨List.mem_of_getElem? (i := 125) (by decide +kernel), by decide +kernel⟩, ⟨by decide +kernel, by decide +kernel, by decide +kernel⟩, by decide⟩, List.mem_filter.mpr ⟨List.mem_of_getElem? (i := 1090) (by decide +kernel), by decide +kernel⟩⟩
theorem ms_X9_larger : MS yX9_larger cX9_larger 2 (some .int) 2 := ⟨⟨List.mem_filter.mpr ⟨List.mem_of_getElem? (i := 1192) (by decide +kernel), by decide +kernel⟩, List.mem_filter.mpr ⟨List.mem_of_getElem? (i := 125) (by decide +kernel), by decide +kernel⟩, ⟨by decide +kernel, by decide +kernel, by decide +kernel⟩, by decide⟩, List.mem_filter.mpr ⟨List.mem_of_getElem? (i := 1191) (by decide +kernel), by decide +kernel⟩⟩
theorem ms_X9_smaller : MS yX9_smaller cX9_smaller 2 (some .int) 2 := ⟨⟨List.mem_filter.mpr ⟨List.mem_of_getElem? (i := 1049) (by decide +kernel), by decide +kernel⟩, List.mem_filter.mpr ⟨List.mem_of_getElem? (i := 125) (by decide +kernel), by decide +kernel⟩, ⟨by decide +kernel, by decide +kernel, by decide +kernel⟩, by decide⟩, List.mem_filter.mpr ⟨List.mem_of_getElem? (i := 1048) (by decide +kernel), by decide +kernel⟩⟩
theorem mv_X9_finds : MV 9 yX9_finds cX9_finds 2 (some .int) 1 := ⟨⟨List.mem_filter.mpr ⟨List.mem_of_getElem? (i := 987) (by decide +kernel), by decide +kernel⟩, List.mem_filter.mpr ⟨List.mem_of_getElem? (i := 125) (by decide +kernel), by decide +kernel⟩, ⟨by decide +kernel, by decide +kernel, by decide +kernel⟩, by decide⟩, List.mem_filter.mpr ⟨List.mem_of_getElem? (i := 986) (by decide +kernel), by decide +kernel⟩, List.mem_filter.mpr ⟨List.mem_of_getElem? (i := 74) (by decide +kernel), by decide +kernel⟩, ⟨_, _, rfl⟩⟩
theorem mv_X9_good : MV 9 yX9_good cX9_good 2 (some .int) 1 := ⟨⟨List.mem_filter.mpr ⟨List.mem_of_getElem? (i := 992) (by decide +kernel), by decide +kernel⟩, List.mem_filter.mpr ⟨List.mem_of_getElem? (i := 125) (by decide +kernel), by decide +kernel⟩, ⟨by decide +kernel, by decide +kernel, by decide +kernel⟩, by decide⟩, List.mem_filter.mpr ⟨List.mem_of_getElem? (i := 991) (by decide +kernel), by decide +kernel⟩, List.mem_filter.mpr ⟨List.mem_of_getElem? (i := 75) (by decide +kernel), by decide +kernel⟩, ⟨_, _, rfl⟩⟩
theorem ms_X9_isRow : MS yX9_isRow cX9_isRow 1 (some .boolean) 1 := ⟨⟨List.mem_filter.mpr ⟨List.mem_of_getElem? (i := 977) (by decide +kernel), by decide +kernel⟩, List.mem_filter.mpr ⟨List.mem_of_getElem? (i := 125) (by decide +kernel), by decide +kernel⟩, ⟨by decide +kernel, by decide +kernel, by decide +kernel⟩, by decide⟩, List.mem_filter.mpr ⟨List.mem_of_getElem? (i := 976) (by decide +kernel), by decide +kernel⟩⟩
theorem mv_X9_row : MV 9 yX9_row cX9_row 5 (some .int) 3 := ⟨⟨List.mem_filter.mpr ⟨List.mem_of_getElem? (i := 974) (by decide +kernel), by decide +kernel⟩, List.mem_filter.mpr ⟨List.mem_of_getElem? (i := 125) (by decide +kernel), by decide +kernel⟩, ⟨by decide +kernel, by decide +kernel, by decide +kernel⟩, by decide⟩, List.mem_filter.mpr ⟨List.mem_of_getElem? (i := 972) (by decide +kernel), by decide +kernel⟩, List.mem_filter.mpr ⟨List.mem_of_getElem? (i := 973) (by decide +kernel), by decide +kernel⟩, ⟨_, _, rfl⟩⟩
theorem ms_X9_cut : MS yX9_cut cX9_cut 2 (some .int) 2 := ⟨⟨List.mem_filter.mpr ⟨List.mem_of_getElem? (i := 999) (by decide +kernel), by decide +kernel⟩, List.mem_filter.mpr ⟨List.mem_of_getElem? (i := 125) (by decide +kernel), by decide +kernel⟩, ⟨by decide +kernel, by decide +kernel, by decide +kernel⟩, by decide⟩, List.mem_filter.mpr ⟨List.mem_of_getElem? (i := 998) (by decide +kernel), by decide +kernel⟩⟩
theorem mv_X9_set : MV 9 yX9_set cX9_set 4 (some .int) 3 := ⟨⟨List.mem_filter.mpr ⟨List.mem_of_getElem? (i := 996) (by decide +kernel), by decide +kernel⟩, List.mem_filter.mpr ⟨List.mem_of_getElem? (i := 125) (by decide +kernel), by decide +kernel⟩, ⟨by decide +kernel, by decide +kernel, by decide +kernel⟩, by decide⟩, List.mem_filter.mpr ⟨List.mem_of_getElem? (i := 994) (by decide +kernel), by decide +kernel⟩, List.mem_filter.mpr ⟨List.mem_of_getElem? (i := 995) (by decide +kernel), by decide +kernel⟩, ⟨_, _, rfl⟩⟩
theorem mv_X9_isWithin : MV 9 yX9_isWithin cX9_isWithin 4 (some .boolean) 3 := ⟨⟨List.mem_filter.mpr ⟨List.mem_of_getElem? (i := 1007) (by decide +kernel), by decide +kernel⟩, List.mem_filter.mpr ⟨List.mem_of_getElem? (i := 125) (by decide +kernel), by decide +kernel⟩, ⟨by decide +kernel, by decide +kernel, by decide +kernel⟩, by decide⟩, List.mem_filter.mpr ⟨List.mem_of_getElem? (i := 1006) (by decide +kernel), by decide +kernel⟩, List.mem_filter.mpr ⟨List.mem_of_getElem? (i := 76) (by decide +kernel), by decide +kernel⟩, ⟨_, _, rfl⟩⟩
theorem mv_X9_copy : MV 9 yX9_copy cX9_copy 9 (some .int) 5 := ⟨⟨List.mem_filter.mpr ⟨List.mem_of_getElem? (i := 1003) (by decide +kernel), by decide +kernel⟩, List.mem_filter.mpr ⟨List.mem_of_getElem? (i := 125) (by decide +kernel), by decide +kernel⟩, ⟨by decide +kernel, by decide +kernel, by decide +kernel⟩, by decide⟩, List.mem_filter.mpr ⟨List.mem_of_getElem? (i := 1001) (by decide +kernel), by decide +kernel⟩, List.mem_filter.mpr ⟨List.mem_of_getElem? (i := 1002) (by decide +kernel), by decide +kernel⟩, ⟨_, _, rfl⟩⟩
theorem mv_X9_drop : MV 9 yX9_drop cX9_drop 2 (some .int) 1 := ⟨⟨List.mem_filter.mpr ⟨List.mem_of_getElem? (i := 1011) (by decide +kernel), by decide +kernel⟩, List.mem_filter.mpr ⟨List.mem_of_getElem? (i := 125) (by decide +kernel), by decide +kernel⟩, ⟨by decide +kernel, by decide +kernel, by decide +kernel⟩, by decide⟩, List.mem_filter.mpr ⟨List.mem_of_getElem? (i := 1009) (by decide +kernel), by decide +kernel⟩, List.mem_filter.mpr ⟨List.mem_of_getElem? (i := 1010) (by decide +kernel), by decide +kernel⟩, ⟨_, _, rfl⟩⟩
theorem mv_X9_feed : MV 9 yX9_feed cX9_feed 2 (some .int) 1 := ⟨⟨List.mem_filter.mpr ⟨List.mem_of_getElem? (i := 1015) (by decide +kernel), by decide +kernel⟩, List.mem_filter.mpr ⟨List.mem_of_getElem? (i := 125) (by decide +kernel), by decide +kernel⟩, ⟨by decide +kernel, by decide +kernel, by decide +kernel⟩, by decide⟩, List.mem_filter.mpr ⟨List.mem_of_getElem? (i := 1013) (by decide +kernel), by decide +kernel⟩, List.mem_filter.mpr ⟨List.mem_of_getElem? (i := 1014) (by decide +kernel), by decide +kernel⟩, ⟨_, _, rfl⟩⟩
theorem mv_X9_byteAt : MV 9 yX9_byteAt cX9_byteAt 2 (some .int) 1 := ⟨⟨List.mem_filter.mpr ⟨List.mem_of_getElem? (i := 1029) (by decide +kernel), by decide +kernel⟩, List.mem_filter.mpr ⟨List.mem_of_getElem? (i := 125) (by decide +kernel), by decide +kernel⟩, ⟨by decide +kernel, by decide +kernel, by decide +kernel⟩, by decide⟩, List.mem_filter.mpr ⟨List.mem_of_getElem? (i := 1028) (by decide +kernel), by decide +kernel⟩, List.mem_filter.mpr ⟨List.mem_of_getElem? (i := 78) (by decide +kernel), by decide +kernel⟩, ⟨_, _, rfl⟩⟩
theorem mv_X9_fails : MV 9 yX9_fails cX9_fails 3 none 2 := ⟨⟨List.mem_filter.mpr ⟨List.mem_of_getElem? (i := 1033) (by decide +kernel), by decide +kernel⟩, List.mem_filter.mpr ⟨List.mem_of_getElem? (i := 125) (by decide +kernel), by decide +kernel⟩, ⟨by decide +kernel, by decide +kernel, by decide +kernel⟩, by decide⟩, List.mem_filter.mpr ⟨List.mem_of_getElem? (i := 1032) (by decide +kernel), by decide +kernel⟩, List.mem_filter.mpr ⟨List.mem_of_getElem? (i := 79) (by decide +kernel), by decide +kernel⟩, ⟨_, _, rfl⟩⟩
theorem mv_X9_sign : MV 9 yX9_sign cX9_sign 2 none 1 := ⟨⟨List.mem_filter.mpr ⟨List.mem_of_getElem? (i := 1025) (by decide +kernel), by decide +kernel⟩, List.mem_filter.mpr ⟨List.mem_of_getElem? (i := 125) (by decide +kernel), by decide +kernel⟩, ⟨by decide +kernel, by decide +kernel, by decide +kernel⟩, by decide⟩, List.mem_filter.mpr ⟨List.mem_of_getElem? (i := 1024) (by decide +kernel), by decide +kernel⟩, List.mem_filter.mpr ⟨List.mem_of_getElem? (i := 77) (by decide +kernel), by decide +kernel⟩, ⟨_, _, rfl⟩⟩
theorem mv_X9_number : MV 9 yX9_number cX9_number 6 (some .int) 3 := ⟨⟨List.mem_filter.mpr ⟨List.mem_of_getElem? (i := 1037) (by decide +kernel), by decide +kernel⟩, List.mem_filter.mpr ⟨List.mem_of_getElem? (i := 125) (by decide +kernel), by decide +kernel⟩, ⟨by decide +kernel, by decide +kernel, by decide +kernel⟩, by decide⟩, List.mem_filter.mpr ⟨List.mem_of_getElem? (i := 1036) (by decide +kernel), by decide +kernel⟩, List.mem_filter.mpr ⟨List.mem_of_getElem? (i := 80) (by decide +kernel), by decide +kernel⟩, ⟨_, _, rfl⟩⟩
theorem ms_X9_sortOf : MS yX9_sortOf cX9_sortOf 1 (some .int) 1 := ⟨⟨List.mem_filter.mpr ⟨List.mem_of_getElem? (i := 1046) (by decide +kernel), by decide +kernel⟩, List.mem_filter.mpr ⟨List.mem_of_getElem? (i := 125) (by decide +kernel), by decide +kernel⟩, ⟨by decide +kernel, by decide +kernel, by decide +kernel⟩, by decide⟩, List.mem_filter.mpr ⟨List.mem_of_getElem? (i := 1045) (by decide +kernel), by decide +kernel⟩⟩
theorem mv_X9_discItem : MV 9 yX9_discItem cX9_discItem 5 none 1 := ⟨⟨List.mem_filter.mpr ⟨List.mem_of_getElem? (i := 1043) (by decide +kernel), by decide +kernel⟩, List.mem_filter.mpr ⟨List.mem_of_getElem? (i := 125) (by decide +kernel), by decide +kernel⟩, ⟨by decide +kernel, by decide +kernel, by decide +kernel⟩, by decide⟩, List.mem_filter.mpr ⟨List.mem_of_getElem? (i := 1042) (by decide +kernel), by decide +kernel⟩, List.mem_filter.mpr ⟨List.mem_of_getElem? (i := 81) (by decide +kernel), by decide +kernel⟩, ⟨_, _, rfl⟩⟩
theorem mv_X9_copies : MV 9 yX9_copies cX9_copies 4 none 2 := ⟨⟨List.mem_filter.mpr ⟨List.mem_of_getElem? (i := 1054) (by decide +kernel), by decide +kernel⟩, List.mem_filter.mpr ⟨List.mem_of_getElem? (i := 125) (by decide +kernel), by decide +kernel⟩, ⟨by decide +kernel, by decide +kernel, by decide +kernel⟩, by decide⟩, List.mem_filter.mpr ⟨List.mem_of_getElem? (i := 1053) (by decide +kernel), by decide +kernel⟩, List.mem_filter.mpr ⟨List.mem_of_getElem? (i := 82) (by decide +kernel), by decide +kernel⟩, ⟨_, _, rfl⟩⟩
theorem mv_X9_board : MV 9 yX9_board cX9_board 3 (some .int) 0 := ⟨⟨List.mem_filter.mpr ⟨List.mem_of_getElem? (i := 1021) (by decide +kernel), by decide +kernel⟩, List.mem_filter.mpr ⟨List.mem_of_getElem? (i := 125) (by decide +kernel), by decide +kernel⟩, ⟨by decide +kernel, by decide +kernel, by decide +kernel⟩, by decide⟩, List.mem_filter.mpr ⟨List.mem_of_getElem? (i := 1019) (by decide +kernel), by decide +kernel⟩, List.mem_filter.mpr ⟨List.mem_of_getElem? (i := 1020) (by decide +kernel), by decide +kernel⟩, ⟨_, _, rfl⟩⟩
theorem mv_X9_fault : MV 9 yX9_fault cX9_fault 1 (some .int) 0 := ⟨⟨List.mem_filter.mpr ⟨List.mem_of_getElem? (i := 1058) (by decide +kernel), by decide +kernel⟩, List.mem_filter.mpr ⟨List.mem_of_getElem? (i := 125) (by decide +kernel), by decide +kernel⟩, ⟨by decide +kernel, by decide +kernel, by decide +kernel⟩, by decide⟩, List.mem_filter.mpr ⟨List.mem_of_getElem? (i := 1056) (by decide +kernel), by decide +kernel⟩, List.mem_filter.mpr ⟨List.mem_of_getElem? (i := 1057) (by decide +kernel), by decide +kernel⟩, ⟨_, _, rfl⟩⟩
theorem mv_X9_isBoard : MV 9 yX9_isBoard cX9_isBoard 1 (some .boolean) 0 := ⟨⟨List.mem_filter.mpr ⟨List.mem_of_getElem? (i := 1119) (by decide +kernel), by decide +kernel⟩, List.mem_filter.mpr ⟨List.mem_of_getElem? (i := 125) (by decide +kernel), by decide +kernel⟩, ⟨by decide +kernel, by decide +kernel, by decide +kernel⟩, by decide⟩, List.mem_filter.mpr ⟨List.mem_of_getElem? (i := 1118) (by decide +kernel), by decide +kernel⟩, List.mem_filter.mpr ⟨List.mem_of_getElem? (i := 91) (by decide +kernel), by decide +kernel⟩, ⟨_, _, rfl⟩⟩
theorem mv_X9_isPeg : MV 9 yX9_isPeg cX9_isPeg 2 (some .boolean) 1 := ⟨⟨List.mem_filter.mpr ⟨List.mem_of_getElem? (i := 1066) (by decide +kernel), by decide +kernel⟩, List.mem_filter.mpr ⟨List.mem_of_getElem? (i := 125) (by decide +kernel), by decide +kernel⟩, ⟨by decide +kernel, by decide +kernel, by decide +kernel⟩, by decide⟩, List.mem_filter.mpr ⟨List.mem_of_getElem? (i := 1065) (by decide +kernel), by decide +kernel⟩, List.mem_filter.mpr ⟨List.mem_of_getElem? (i := 83) (by decide +kernel), by decide +kernel⟩, ⟨_, _, rfl⟩⟩
theorem mv_X9_isDisc : MV 9 yX9_isDisc cX9_isDisc 2 (some .boolean) 1 := ⟨⟨List.mem_filter.mpr ⟨List.mem_of_getElem? (i := 1111) (by decide +kernel), by decide +kernel⟩, List.mem_filter.mpr ⟨List.mem_of_getElem? (i := 125) (by decide +kernel), by decide +kernel⟩, ⟨by decide +kernel, by decide +kernel, by decide +kernel⟩, by decide⟩, List.mem_filter.mpr ⟨List.mem_of_getElem? (i := 1110) (by decide +kernel), by decide +kernel⟩, List.mem_filter.mpr ⟨List.mem_of_getElem? (i := 90) (by decide +kernel), by decide +kernel⟩, ⟨_, _, rfl⟩⟩
theorem mv_X9_state : MV 9 yX9_state cX9_state 3 (some .int) 0 := ⟨⟨List.mem_filter.mpr ⟨List.mem_of_getElem? (i := 1074) (by decide +kernel), by decide +kernel⟩, List.mem_filter.mpr ⟨List.mem_of_getElem? (i := 125) (by decide +kernel), by decide +kernel⟩, ⟨by decide +kernel, by decide +kernel, by decide +kernel⟩, by decide⟩, List.mem_filter.mpr ⟨List.mem_of_getElem? (i := 1073) (by decide +kernel), by decide +kernel⟩, List.mem_filter.mpr ⟨List.mem_of_getElem? (i := 85) (by decide +kernel), by decide +kernel⟩, ⟨_, _, rfl⟩⟩
theorem ms_X9_pegIn : MS yX9_pegIn cX9_pegIn 2 (some .int) 2 := ⟨⟨List.mem_filter.mpr ⟨List.mem_of_getElem? (i := 1085) (by decide +kernel), by decide +kernel⟩, List.mem_filter.mpr ⟨List.mem_of_getElem? (i := 125) (by decide +kernel), by decide +kernel⟩, ⟨by decide +kernel, by decide +kernel, by decide +kernel⟩, by decide⟩, List.mem_filter.mpr ⟨List.mem_of_getElem? (i := 1084) (by decide +kernel), by decide +kernel⟩⟩
theorem mv_X9_codeOf : MV 9 yX9_codeOf cX9_codeOf 4 (some .int) 1 := ⟨⟨List.mem_filter.mpr ⟨List.mem_of_getElem? (i := 1189) (by decide +kernel), by decide +kernel⟩, List.mem_filter.mpr ⟨List.mem_of_getElem? (i := 125) (by decide +kernel), by decide +kernel⟩, ⟨by decide +kernel, by decide +kernel, by decide +kernel⟩, by decide⟩, List.mem_filter.mpr ⟨List.mem_of_getElem? (i := 1188) (by decide +kernel), by decide +kernel⟩, List.mem_filter.mpr ⟨List.mem_of_getElem? (i := 100) (by decide +kernel), by decide +kernel⟩, ⟨_, _, rfl⟩⟩
theorem mv_X9_lying : MV 9 yX9_lying cX9_lying 5 (some .int) 2 := ⟨⟨List.mem_filter.mpr ⟨List.mem_of_getElem? (i := 1082) (by decide +kernel), by decide +kernel⟩, List.mem_filter.mpr ⟨List.mem_of_getElem? (i := 125) (by decide +kernel), by decide +kernel⟩, ⟨by decide +kernel, by decide +kernel, by decide +kernel⟩, by decide⟩, List.mem_filter.mpr ⟨List.mem_of_getElem? (i := 1081) (by decide +kernel), by decide +kernel⟩, List.mem_filter.mpr ⟨List.mem_of_getElem? (i := 87) (by decide +kernel), by decide +kernel⟩, ⟨_, _, rfl⟩⟩
theorem ms_X9_bits : MS yX9_bits cX9_bits 3 (some .int) 1 := ⟨⟨List.mem_filter.mpr ⟨List.mem_of_getElem? (i := 1098) (by decide +kernel), by decide +kernel⟩, List.mem_filter.mpr ⟨List.mem_of_getElem? (i := 125) (by decide +kernel), by decide +kernel⟩, ⟨by decide +kernel, by decide +kernel, by decide +kernel⟩, by decide⟩, List.mem_filter.mpr ⟨List.mem_of_getElem? (i := 1097) (by decide +kernel), by decide +kernel⟩⟩
theorem ms_X9_lowest : MS yX9_lowest cX9_lowest 2 (some .int) 1 := ⟨⟨List.mem_filter.mpr ⟨List.mem_of_getElem? (i := 1088) (by decide +kernel), by decide +kernel⟩, List.mem_filter.mpr ⟨List.mem_of_getElem? (i := 125) (by decide +kernel), by decide +kernel⟩, ⟨by decide +kernel, by decide +kernel, by decide +kernel⟩, by decide⟩, List.mem_filter.mpr ⟨List.mem_of_getElem? (i := 1087) (by decide +kernel), by decide +kernel⟩⟩
theorem mv_X9_kindTold : MV 9 yX9_kindTold cX9_kindTold 2 (some .int) 1 := ⟨⟨List.mem_filter.mpr ⟨List.mem_of_getElem? (i := 1095) (by decide +kernel), by decide +kernel⟩, List.mem_filter.mpr ⟨List.mem_of_getElem? (i := 125) (by decide +kernel), by decide +kernel⟩, ⟨by decide +kernel, by decide +kernel, by decide +kernel⟩, by decide⟩, List.mem_filter.mpr ⟨List.mem_of_getElem? (i := 1094) (by decide +kernel), by decide +kernel⟩, List.mem_filter.mpr ⟨List.mem_of_getElem? (i := 88) (by decide +kernel), by decide +kernel⟩, ⟨_, _, rfl⟩⟩
theorem mv_X9_mover : MV 9 yX9_mover cX9_mover 8 (some .int) 3 := ⟨⟨List.mem_filter.mpr ⟨List.mem_of_getElem? (i := 1078) (by decide +kernel), by decide +kernel⟩, List.mem_filter.mpr ⟨List.mem_of_getElem? (i := 125) (by decide +kernel), by decide +kernel⟩, ⟨by decide +kernel, by decide +kernel, by decide +kernel⟩, by decide⟩, List.mem_filter.mpr ⟨List.mem_of_getElem? (i := 1077) (by decide +kernel), by decide +kernel⟩, List.mem_filter.mpr ⟨List.mem_of_getElem? (i := 86) (by decide +kernel), by decide +kernel⟩, ⟨_, _, rfl⟩⟩
theorem ms_X9_moved : MS yX9_moved cX9_moved 3 (some .int) 3 := ⟨⟨List.mem_filter.mpr ⟨List.mem_of_getElem? (i := 1168) (by decide +kernel), by decide +kernel⟩, List.mem_filter.mpr ⟨List.mem_of_getElem? (i := 125) (by decide +kernel), by decide +kernel⟩, ⟨by decide +kernel, by decide +kernel, by decide +kernel⟩, by decide⟩, List.mem_filter.mpr ⟨List.mem_of_getElem? (i := 1167) (by decide +kernel), by decide +kernel⟩⟩
theorem mv_X9_asTold : MV 9 yX9_asTold cX9_asTold 1 none 0 := ⟨⟨List.mem_filter.mpr ⟨List.mem_of_getElem? (i := 1070) (by decide +kernel), by decide +kernel⟩, List.mem_filter.mpr ⟨List.mem_of_getElem? (i := 125) (by decide +kernel), by decide +kernel⟩, ⟨by decide +kernel, by decide +kernel, by decide +kernel⟩, by decide⟩, List.mem_filter.mpr ⟨List.mem_of_getElem? (i := 1069) (by decide +kernel), by decide +kernel⟩, List.mem_filter.mpr ⟨List.mem_of_getElem? (i := 84) (by decide +kernel), by decide +kernel⟩, ⟨_, _, rfl⟩⟩
theorem mv_X9_known : MV 9 yX9_known cX9_known 2 none 0 := ⟨⟨List.mem_filter.mpr ⟨List.mem_of_getElem? (i := 1103) (by decide +kernel), by decide +kernel⟩, List.mem_filter.mpr ⟨List.mem_of_getElem? (i := 125) (by decide +kernel), by decide +kernel⟩, ⟨by decide +kernel, by decide +kernel, by decide +kernel⟩, by decide⟩, List.mem_filter.mpr ⟨List.mem_of_getElem? (i := 1102) (by decide +kernel), by decide +kernel⟩, List.mem_filter.mpr ⟨List.mem_of_getElem? (i := 89) (by decide +kernel), by decide +kernel⟩, ⟨_, _, rfl⟩⟩
theorem mv_X9_move : MV 9 yX9_move cX9_move 4 (some .int) 2 := ⟨⟨List.mem_filter.mpr ⟨List.mem_of_getElem? (i := 1062) (by decide +kernel), by decide +kernel⟩, List.mem_filter.mpr ⟨List.mem_of_getElem? (i := 125) (by decide +kernel), by decide +kernel⟩, ⟨by decide +kernel, by decide +kernel, by decide +kernel⟩, by decide⟩, List.mem_filter.mpr ⟨List.mem_of_getElem? (i := 1060) (by decide +kernel), by decide +kernel⟩, List.mem_filter.mpr ⟨List.mem_of_getElem? (i := 1061) (by decide +kernel), by decide +kernel⟩, ⟨_, _, rfl⟩⟩
theorem mv_X9_put : MV 9 yX9_put cX9_put 4 (some .int) 2 := ⟨⟨List.mem_filter.mpr ⟨List.mem_of_getElem? (i := 1107) (by decide +kernel), by decide +kernel⟩, List.mem_filter.mpr ⟨List.mem_of_getElem? (i := 125) (by decide +kernel), by decide +kernel⟩, ⟨by decide +kernel, by decide +kernel, by decide +kernel⟩, by decide⟩, List.mem_filter.mpr ⟨List.mem_of_getElem? (i := 1105) (by decide +kernel), by decide +kernel⟩, List.mem_filter.mpr ⟨List.mem_of_getElem? (i := 1106) (by decide +kernel), by decide +kernel⟩, ⟨_, _, rfl⟩⟩
theorem mv_X9_high : MV 9 yX9_high cX9_high 3 (some .int) 1 := ⟨⟨List.mem_filter.mpr ⟨List.mem_of_getElem? (i := 1115) (by decide +kernel), by decide +kernel⟩, List.mem_filter.mpr ⟨List.mem_of_getElem? (i := 125) (by decide +kernel), by decide +kernel⟩, ⟨by decide +kernel, by decide +kernel, by decide +kernel⟩, by decide⟩, List.mem_filter.mpr ⟨List.mem_of_getElem? (i := 1113) (by decide +kernel), by decide +kernel⟩, List.mem_filter.mpr ⟨List.mem_of_getElem? (i := 1114) (by decide +kernel), by decide +kernel⟩, ⟨_, _, rfl⟩⟩
theorem mv_X9_undo : MV 9 yX9_undo cX9_undo 1 (some .int) 0 := ⟨⟨List.mem_filter.mpr ⟨List.mem_of_getElem? (i := 1124) (by decide +kernel), by decide +kernel⟩, List.mem_filter.mpr ⟨List.mem_of_getElem? (i := 125) (by decide +kernel), by decide +kernel⟩, ⟨by decide +kernel, by decide +kernel, by decide +kernel⟩, by decide⟩, List.mem_filter.mpr ⟨List.mem_of_getElem? (i := 1122) (by decide +kernel), by decide +kernel⟩, List.mem_filter.mpr ⟨List.mem_of_getElem? (i := 1123) (by decide +kernel), by decide +kernel⟩, ⟨_, _, rfl⟩⟩
theorem mv_X9_disc : MV 9 yX9_disc cX9_disc 7 (some .int) 2 := ⟨⟨List.mem_filter.mpr ⟨List.mem_of_getElem? (i := 1128) (by decide +kernel), by decide +kernel⟩, List.mem_filter.mpr ⟨List.mem_of_getElem? (i := 125) (by decide +kernel), by decide +kernel⟩, ⟨by decide +kernel, by decide +kernel, by decide +kernel⟩, by decide⟩, List.mem_filter.mpr ⟨List.mem_of_getElem? (i := 1126) (by decide +kernel), by decide +kernel⟩, List.mem_filter.mpr ⟨List.mem_of_getElem? (i := 1127) (by decide +kernel), by decide +kernel⟩, ⟨_, _, rfl⟩⟩
theorem mv_X9_many : MV 9 yX9_many cX9_many 2 (some .int) 1 := ⟨⟨List.mem_filter.mpr ⟨List.mem_of_getElem? (i := 1284) (by decide +kernel), by decide +kernel⟩, List.mem_filter.mpr ⟨List.mem_of_getElem? (i := 125) (by decide +kernel), by decide +kernel⟩, ⟨by decide +kernel, by decide +kernel, by decide +kernel⟩, by decide⟩, List.mem_filter.mpr ⟨List.mem_of_getElem? (i := 1283) (by decide +kernel), by decide +kernel⟩, List.mem_filter.mpr ⟨List.mem_of_getElem? (i := 109) (by decide +kernel), by decide +kernel⟩, ⟨_, _, rfl⟩⟩
theorem mv_X9_peg : MV 9 yX9_peg cX9_peg 4 (some .int) 2 := ⟨⟨List.mem_filter.mpr ⟨List.mem_of_getElem? (i := 1132) (by decide +kernel), by decide +kernel⟩, List.mem_filter.mpr ⟨List.mem_of_getElem? (i := 125) (by decide +kernel), by decide +kernel⟩, ⟨by decide +kernel, by decide +kernel, by decide +kernel⟩, by decide⟩, List.mem_filter.mpr ⟨List.mem_of_getElem? (i := 1130) (by decide +kernel), by decide +kernel⟩, List.mem_filter.mpr ⟨List.mem_of_getElem? (i := 1131) (by decide +kernel), by decide +kernel⟩, ⟨_, _, rfl⟩⟩
theorem mv_X9_movesOf : MV 9 yX9_movesOf cX9_movesOf 4 (some .int) 1 := ⟨⟨List.mem_filter.mpr ⟨List.mem_of_getElem? (i := 1141) (by decide +kernel), by decide +kernel⟩, List.mem_filter.mpr ⟨List.mem_of_getElem? (i := 125) (by decide +kernel), by decide +kernel⟩, ⟨by decide +kernel, by decide +kernel, by decide +kernel⟩, by decide⟩, List.mem_filter.mpr ⟨List.mem_of_getElem? (i := 1140) (by decide +kernel), by decide +kernel⟩, List.mem_filter.mpr ⟨List.mem_of_getElem? (i := 92) (by decide +kernel), by decide +kernel⟩, ⟨_, _, rfl⟩⟩
theorem mv_X9_can : MV 9 yX9_can cX9_can 1 (some .int) 0 := ⟨⟨List.mem_filter.mpr ⟨List.mem_of_getElem? (i := 1137) (by decide +kernel), by decide +kernel⟩, List.mem_filter.mpr ⟨List.mem_of_getElem? (i := 125) (by decide +kernel), by decide +kernel⟩, ⟨by decide +kernel, by decide +kernel, by decide +kernel⟩, by decide⟩, List.mem_filter.mpr ⟨List.mem_of_getElem? (i := 1135) (by decide +kernel), by decide +kernel⟩, List.mem_filter.mpr ⟨List.mem_of_getElem? (i := 1136) (by decide +kernel), by decide +kernel⟩, ⟨_, _, rfl⟩⟩
theorem mv_X9_behind : MV 9 yX9_behind cX9_behind 3 (some .int) 2 := ⟨⟨List.mem_filter.mpr ⟨List.mem_of_getElem? (i := 1165) (by decide +kernel), by decide +kernel⟩, List.mem_filter.mpr ⟨List.mem_of_getElem? (i := 125) (by decide +kernel), by decide +kernel⟩, ⟨by decide +kernel, by decide +kernel, by decide +kernel⟩, by decide⟩, List.mem_filter.mpr ⟨List.mem_of_getElem? (i := 1164) (by decide +kernel), by decide +kernel⟩, List.mem_filter.mpr ⟨List.mem_of_getElem? (i := 97) (by decide +kernel), by decide +kernel⟩, ⟨_, _, rfl⟩⟩
theorem mv_X9_spreads : MV 9 yX9_spreads cX9_spreads 5 none 0 := ⟨⟨List.mem_filter.mpr ⟨List.mem_of_getElem? (i := 1161) (by decide +kernel), by decide +kernel⟩, List.mem_filter.mpr ⟨List.mem_of_getElem? (i := 125) (by decide +kernel), by decide +kernel⟩, ⟨by decide +kernel, by decide +kernel, by decide +kernel⟩, by decide⟩, List.mem_filter.mpr ⟨List.mem_of_getElem? (i := 1160) (by decide +kernel), by decide +kernel⟩, List.mem_filter.mpr ⟨List.mem_of_getElem? (i := 96) (by decide +kernel), by decide +kernel⟩, ⟨_, _, rfl⟩⟩
theorem mv_X9_farTo : MV 9 yX9_farTo cX9_farTo 4 (some .int) 1 := ⟨⟨List.mem_filter.mpr ⟨List.mem_of_getElem? (i := 1172) (by decide +kernel), by decide +kernel⟩, List.mem_filter.mpr ⟨List.mem_of_getElem? (i := 125) (by decide +kernel), by decide +kernel⟩, ⟨by decide +kernel, by decide +kernel, by decide +kernel⟩, by decide⟩, List.mem_filter.mpr ⟨List.mem_of_getElem? (i := 1171) (by decide +kernel), by decide +kernel⟩, List.mem_filter.mpr ⟨List.mem_of_getElem? (i := 98) (by decide +kernel), by decide +kernel⟩, ⟨_, _, rfl⟩⟩
theorem mv_X9_kth : MV 9 yX9_kth cX9_kth 8 (some .int) 3 := ⟨⟨List.mem_filter.mpr ⟨List.mem_of_getElem? (i := 1176) (by decide +kernel), by decide +kernel⟩, List.mem_filter.mpr ⟨List.mem_of_getElem? (i := 125) (by decide +kernel), by decide +kernel⟩, ⟨by decide +kernel, by decide +kernel, by decide +kernel⟩, by decide⟩, List.mem_filter.mpr ⟨List.mem_of_getElem? (i := 1175) (by decide +kernel), by decide +kernel⟩, List.mem_filter.mpr ⟨List.mem_of_getElem? (i := 99) (by decide +kernel), by decide +kernel⟩, ⟨_, _, rfl⟩⟩
theorem mv_X9_leastTo : MV 9 yX9_leastTo cX9_leastTo 4 (some .int) 2 := ⟨⟨List.mem_filter.mpr ⟨List.mem_of_getElem? (i := 1157) (by decide +kernel), by decide +kernel⟩, List.mem_filter.mpr ⟨List.mem_of_getElem? (i := 125) (by decide +kernel), by decide +kernel⟩, ⟨by decide +kernel, by decide +kernel, by decide +kernel⟩, by decide⟩, List.mem_filter.mpr ⟨List.mem_of_getElem? (i := 1156) (by decide +kernel), by decide +kernel⟩, List.mem_filter.mpr ⟨List.mem_of_getElem? (i := 95) (by decide +kernel), by decide +kernel⟩, ⟨_, _, rfl⟩⟩
theorem mv_X9_wrongOf : MV 9 yX9_wrongOf cX9_wrongOf 4 (some .int) 3 := ⟨⟨List.mem_filter.mpr ⟨List.mem_of_getElem? (i := 1149) (by decide +kernel), by decide +kernel⟩, List.mem_filter.mpr ⟨List.mem_of_getElem? (i := 125) (by decide +kernel), by decide +kernel⟩, ⟨by decide +kernel, by decide +kernel, by decide +kernel⟩, by decide⟩, List.mem_filter.mpr ⟨List.mem_of_getElem? (i := 1148) (by decide +kernel), by decide +kernel⟩, List.mem_filter.mpr ⟨List.mem_of_getElem? (i := 93) (by decide +kernel), by decide +kernel⟩, ⟨_, _, rfl⟩⟩
theorem mv_X9_told : MV 9 yX9_told cX9_told 6 (some .int) 2 := ⟨⟨List.mem_filter.mpr ⟨List.mem_of_getElem? (i := 1153) (by decide +kernel), by decide +kernel⟩, List.mem_filter.mpr ⟨List.mem_of_getElem? (i := 125) (by decide +kernel), by decide +kernel⟩, ⟨by decide +kernel, by decide +kernel, by decide +kernel⟩, by decide⟩, List.mem_filter.mpr ⟨List.mem_of_getElem? (i := 1152) (by decide +kernel), by decide +kernel⟩, List.mem_filter.mpr ⟨List.mem_of_getElem? (i := 94) (by decide +kernel), by decide +kernel⟩, ⟨_, _, rfl⟩⟩
theorem mv_X9_least : MV 9 yX9_least cX9_least 6 (some .int) 3 := ⟨⟨List.mem_filter.mpr ⟨List.mem_of_getElem? (i := 1145) (by decide +kernel), by decide +kernel⟩, List.mem_filter.mpr ⟨List.mem_of_getElem? (i := 125) (by decide +kernel), by decide +kernel⟩, ⟨by decide +kernel, by decide +kernel, by decide +kernel⟩, by decide⟩, List.mem_filter.mpr ⟨List.mem_of_getElem? (i := 1143) (by decide +kernel), by decide +kernel⟩, List.mem_filter.mpr ⟨List.mem_of_getElem? (i := 1144) (by decide +kernel), by decide +kernel⟩, ⟨_, _, rfl⟩⟩
theorem mv_X9_tower : MV 9 yX9_tower cX9_tower 5 (some .int) 2 := ⟨⟨List.mem_filter.mpr ⟨List.mem_of_getElem? (i := 1180) (by decide +kernel), by decide +kernel⟩, List.mem_filter.mpr ⟨List.mem_of_getElem? (i := 125) (by decide +kernel), by decide +kernel⟩, ⟨by decide +kernel, by decide +kernel, by decide +kernel⟩, by decide⟩, List.mem_filter.mpr ⟨List.mem_of_getElem? (i := 1178) (by decide +kernel), by decide +kernel⟩, List.mem_filter.mpr ⟨List.mem_of_getElem? (i := 1179) (by decide +kernel), by decide +kernel⟩, ⟨_, _, rfl⟩⟩
theorem mv_X9_world : MV 9 yX9_world cX9_world 9 (some .int) 1 := ⟨⟨List.mem_filter.mpr ⟨List.mem_of_getElem? (i := 1184) (by decide +kernel), by decide +kernel⟩, List.mem_filter.mpr ⟨List.mem_of_getElem? (i := 125) (by decide +kernel), by decide +kernel⟩, ⟨by decide +kernel, by decide +kernel, by decide +kernel⟩, by decide⟩, List.mem_filter.mpr ⟨List.mem_of_getElem? (i := 1182) (by decide +kernel), by decide +kernel⟩, List.mem_filter.mpr ⟨List.mem_of_getElem? (i := 1183) (by decide +kernel), by decide +kernel⟩, ⟨_, _, rfl⟩⟩
theorem mv_X9_ring : MV 9 yX9_ring cX9_ring 7 (some .int) 0 := ⟨⟨List.mem_filter.mpr ⟨List.mem_of_getElem? (i := 1196) (by decide +kernel), by decide +kernel⟩, List.mem_filter.mpr ⟨List.mem_of_getElem? (i := 125) (by decide +kernel), by decide +kernel⟩, ⟨by decide +kernel, by decide +kernel, by decide +kernel⟩, by decide⟩, List.mem_filter.mpr ⟨List.mem_of_getElem? (i := 1194) (by decide +kernel), by decide +kernel⟩, List.mem_filter.mpr ⟨List.mem_of_getElem? (i := 1195) (by decide +kernel), by decide +kernel⟩, ⟨_, _, rfl⟩⟩
theorem mv_X9_beginsWays : MV 9 yX9_beginsWays cX9_beginsWays 2 none 0 := ⟨⟨List.mem_filter.mpr ⟨List.mem_of_getElem? (i := 1207) (by decide +kernel), by decide +kernel⟩, List.mem_filter.mpr ⟨List.mem_of_getElem? (i := 125) (by decide +kernel), by decide +kernel⟩, ⟨by decide +kernel, by decide +kernel, by decide +kernel⟩, by decide⟩, List.mem_filter.mpr ⟨List.mem_of_getElem? (i := 1206) (by decide +kernel), by decide +kernel⟩, List.mem_filter.mpr ⟨List.mem_of_getElem? (i := 101) (by decide +kernel), by decide +kernel⟩, ⟨_, _, rfl⟩⟩
theorem mv_X9_stepWays : MV 9 yX9_stepWays cX9_stepWays 8 none 1 := ⟨⟨List.mem_filter.mpr ⟨List.mem_of_getElem? (i := 1211) (by decide +kernel), by decide +kernel⟩, List.mem_filter.mpr ⟨List.mem_of_getElem? (i := 125) (by decide +kernel), by decide +kernel⟩, ⟨by decide +kernel, by decide +kernel, by decide +kernel⟩, by decide⟩, List.mem_filter.mpr ⟨List.mem_of_getElem? (i := 1210) (by decide +kernel), by decide +kernel⟩, List.mem_filter.mpr ⟨List.mem_of_getElem? (i := 102) (by decide +kernel), by decide +kernel⟩, ⟨_, _, rfl⟩⟩
theorem mv_X9_ways : MV 9 yX9_ways cX9_ways 7 (some .long) 3 := ⟨⟨List.mem_filter.mpr ⟨List.mem_of_getElem? (i := 1200) (by decide +kernel), by decide +kernel⟩, List.mem_filter.mpr ⟨List.mem_of_getElem? (i := 125) (by decide +kernel), by decide +kernel⟩, ⟨by decide +kernel, by decide +kernel, by decide +kernel⟩, by decide⟩, List.mem_filter.mpr ⟨List.mem_of_getElem? (i := 1198) (by decide +kernel), by decide +kernel⟩, List.mem_filter.mpr ⟨List.mem_of_getElem? (i := 1199) (by decide +kernel), by decide +kernel⟩, ⟨_, _, rfl⟩⟩
theorem mv_X9_judged : MV 9 yX9_judged cX9_judged 11 (some .int) 4 := ⟨⟨List.mem_filter.mpr ⟨List.mem_of_getElem? (i := 1221) (by decide +kernel), by decide +kernel⟩, List.mem_filter.mpr ⟨List.mem_of_getElem? (i := 125) (by decide +kernel), by decide +kernel⟩, ⟨by decide +kernel, by decide +kernel, by decide +kernel⟩, by decide⟩, List.mem_filter.mpr ⟨List.mem_of_getElem? (i := 1220) (by decide +kernel), by decide +kernel⟩, List.mem_filter.mpr ⟨List.mem_of_getElem? (i := 103) (by decide +kernel), by decide +kernel⟩, ⟨_, _, rfl⟩⟩
theorem mv_X9_judge : MV 9 yX9_judge cX9_judge 5 (some .int) 3 := ⟨⟨List.mem_filter.mpr ⟨List.mem_of_getElem? (i := 1216) (by decide +kernel), by decide +kernel⟩, List.mem_filter.mpr ⟨List.mem_of_getElem? (i := 125) (by decide +kernel), by decide +kernel⟩, ⟨by decide +kernel, by decide +kernel, by decide +kernel⟩, by decide⟩, List.mem_filter.mpr ⟨List.mem_of_getElem? (i := 1214) (by decide +kernel), by decide +kernel⟩, List.mem_filter.mpr ⟨List.mem_of_getElem? (i := 1215) (by decide +kernel), by decide +kernel⟩, ⟨_, _, rfl⟩⟩
theorem mv_X9_fits : MV 9 yX9_fits cX9_fits 11 (some .int) 5 := ⟨⟨List.mem_filter.mpr ⟨List.mem_of_getElem? (i := 1225) (by decide +kernel), by decide +kernel⟩, List.mem_filter.mpr ⟨List.mem_of_getElem? (i := 125) (by decide +kernel), by decide +kernel⟩, ⟨by decide +kernel, by decide +kernel, by decide +kernel⟩, by decide⟩, List.mem_filter.mpr ⟨List.mem_of_getElem? (i := 1223) (by decide +kernel), by decide +kernel⟩, List.mem_filter.mpr ⟨List.mem_of_getElem? (i := 1224) (by decide +kernel), by decide +kernel⟩, ⟨_, _, rfl⟩⟩
theorem mv_X9_chance : MV 9 yX9_chance cX9_chance 15 (some .long) 4 := ⟨⟨List.mem_filter.mpr ⟨List.mem_of_getElem? (i := 1230) (by decide +kernel), by decide +kernel⟩, List.mem_filter.mpr ⟨List.mem_of_getElem? (i := 125) (by decide +kernel), by decide +kernel⟩, ⟨by decide +kernel, by decide +kernel, by decide +kernel⟩, by decide⟩, List.mem_filter.mpr ⟨List.mem_of_getElem? (i := 1228) (by decide +kernel), by decide +kernel⟩, List.mem_filter.mpr ⟨List.mem_of_getElem? (i := 1229) (by decide +kernel), by decide +kernel⟩, ⟨_, _, rfl⟩⟩
theorem mv_X9_drawn : MV 9 yX9_drawn cX9_drawn 13 (some .int) 3 := ⟨⟨List.mem_filter.mpr ⟨List.mem_of_getElem? (i := 1234) (by decide +kernel), by decide +kernel⟩, List.mem_filter.mpr ⟨List.mem_of_getElem? (i := 125) (by decide +kernel), by decide +kernel⟩, ⟨by decide +kernel, by decide +kernel, by decide +kernel⟩, by decide⟩, List.mem_filter.mpr ⟨List.mem_of_getElem? (i := 1232) (by decide +kernel), by decide +kernel⟩, List.mem_filter.mpr ⟨List.mem_of_getElem? (i := 1233) (by decide +kernel), by decide +kernel⟩, ⟨_, _, rfl⟩⟩
theorem mv_X9_image : MV 9 yX9_image cX9_image 2 (some .int) 1 := ⟨⟨List.mem_filter.mpr ⟨List.mem_of_getElem? (i := 1241) (by decide +kernel), by decide +kernel⟩, List.mem_filter.mpr ⟨List.mem_of_getElem? (i := 125) (by decide +kernel), by decide +kernel⟩, ⟨by decide +kernel, by decide +kernel, by decide +kernel⟩, by decide⟩, List.mem_filter.mpr ⟨List.mem_of_getElem? (i := 1239) (by decide +kernel), by decide +kernel⟩, List.mem_filter.mpr ⟨List.mem_of_getElem? (i := 1240) (by decide +kernel), by decide +kernel⟩, ⟨_, _, rfl⟩⟩
theorem mv_X9_restore : MV 9 yX9_restore cX9_restore 2 (some .int) 1 := ⟨⟨List.mem_filter.mpr ⟨List.mem_of_getElem? (i := 1245) (by decide +kernel), by decide +kernel⟩, List.mem_filter.mpr ⟨List.mem_of_getElem? (i := 125) (by decide +kernel), by decide +kernel⟩, ⟨by decide +kernel, by decide +kernel, by decide +kernel⟩, by decide⟩, List.mem_filter.mpr ⟨List.mem_of_getElem? (i := 1243) (by decide +kernel), by decide +kernel⟩, List.mem_filter.mpr ⟨List.mem_of_getElem? (i := 1244) (by decide +kernel), by decide +kernel⟩, ⟨_, _, rfl⟩⟩
theorem mv_X9_kind : MV 9 yX9_kind cX9_kind 2 (some .int) 1 := ⟨⟨List.mem_filter.mpr ⟨List.mem_of_getElem? (i := 1249) (by decide +kernel), by decide +kernel⟩, List.mem_filter.mpr ⟨List.mem_of_getElem? (i := 125) (by decide +kernel), by decide +kernel⟩, ⟨by decide +kernel, by decide +kernel, by decide +kernel⟩, by decide⟩, List.mem_filter.mpr ⟨List.mem_of_getElem? (i := 1247) (by decide +kernel), by decide +kernel⟩, List.mem_filter.mpr ⟨List.mem_of_getElem? (i := 1248) (by decide +kernel), by decide +kernel⟩, ⟨_, _, rfl⟩⟩
theorem ms_X9_isOf : MS yX9_isOf cX9_isOf 2 (some .boolean) 2 := ⟨⟨List.mem_filter.mpr ⟨List.mem_of_getElem? (i := 1256) (by decide +kernel), by decide +kernel⟩, List.mem_filter.mpr ⟨List.mem_of_getElem? (i := 125) (by decide +kernel), by decide +kernel⟩, ⟨by decide +kernel, by decide +kernel, by decide +kernel⟩, by decide⟩, List.mem_filter.mpr ⟨List.mem_of_getElem? (i := 1255) (by decide +kernel), by decide +kernel⟩⟩
theorem mv_X9_as : MV 9 yX9_as cX9_as 3 (some .int) 2 := ⟨⟨List.mem_filter.mpr ⟨List.mem_of_getElem? (i := 1253) (by decide +kernel), by decide +kernel⟩, List.mem_filter.mpr ⟨List.mem_of_getElem? (i := 125) (by decide +kernel), by decide +kernel⟩, ⟨by decide +kernel, by decide +kernel, by decide +kernel⟩, by decide⟩, List.mem_filter.mpr ⟨List.mem_of_getElem? (i := 1251) (by decide +kernel), by decide +kernel⟩, List.mem_filter.mpr ⟨List.mem_of_getElem? (i := 1252) (by decide +kernel), by decide +kernel⟩, ⟨_, _, rfl⟩⟩
theorem mv_X9_leaves : MV 9 yX9_leaves cX9_leaves 2 none 1 := ⟨⟨List.mem_filter.mpr ⟨List.mem_of_getElem? (i := 1272) (by decide +kernel), by decide +kernel⟩, List.mem_filter.mpr ⟨List.mem_of_getElem? (i := 125) (by decide +kernel), by decide +kernel⟩, ⟨by decide +kernel, by decide +kernel, by decide +kernel⟩, by decide⟩, List.mem_filter.mpr ⟨List.mem_of_getElem? (i := 1271) (by decide +kernel), by decide +kernel⟩, List.mem_filter.mpr ⟨List.mem_of_getElem? (i := 106) (by decide +kernel), by decide +kernel⟩, ⟨_, _, rfl⟩⟩
theorem mv_X9_body20 : MV 9 yX9_body20 cX9_body20 2 (some .int) 1 := ⟨⟨List.mem_filter.mpr ⟨List.mem_of_getElem? (i := 1280) (by decide +kernel), by decide +kernel⟩, List.mem_filter.mpr ⟨List.mem_of_getElem? (i := 125) (by decide +kernel), by decide +kernel⟩, ⟨by decide +kernel, by decide +kernel, by decide +kernel⟩, by decide⟩, List.mem_filter.mpr ⟨List.mem_of_getElem? (i := 1279) (by decide +kernel), by decide +kernel⟩, List.mem_filter.mpr ⟨List.mem_of_getElem? (i := 108) (by decide +kernel), by decide +kernel⟩, ⟨_, _, rfl⟩⟩
theorem mv_X9_body21 : MV 9 yX9_body21 cX9_body21 2 (some .int) 1 := ⟨⟨List.mem_filter.mpr ⟨List.mem_of_getElem? (i := 1276) (by decide +kernel), by decide +kernel⟩, List.mem_filter.mpr ⟨List.mem_of_getElem? (i := 125) (by decide +kernel), by decide +kernel⟩, ⟨by decide +kernel, by decide +kernel, by decide +kernel⟩, by decide⟩, List.mem_filter.mpr ⟨List.mem_of_getElem? (i := 1275) (by decide +kernel), by decide +kernel⟩, List.mem_filter.mpr ⟨List.mem_of_getElem? (i := 107) (by decide +kernel), by decide +kernel⟩, ⟨_, _, rfl⟩⟩
theorem mv_X9_body22 : MV 9 yX9_body22 cX9_body22 2 (some .int) 1 := ⟨⟨List.mem_filter.mpr ⟨List.mem_of_getElem? (i := 1288) (by decide +kernel), by decide +kernel⟩, List.mem_filter.mpr ⟨List.mem_of_getElem? (i := 125) (by decide +kernel), by decide +kernel⟩, ⟨by decide +kernel, by decide +kernel, by decide +kernel⟩, by decide⟩, List.mem_filter.mpr ⟨List.mem_of_getElem? (i := 1287) (by decide +kernel), by decide +kernel⟩, List.mem_filter.mpr ⟨List.mem_of_getElem? (i := 110) (by decide +kernel), by decide +kernel⟩, ⟨_, _, rfl⟩⟩
theorem mv_X9_body23 : MV 9 yX9_body23 cX9_body23 3 (some .int) 1 := ⟨⟨List.mem_filter.mpr ⟨List.mem_of_getElem? (i := 1292) (by decide +kernel), by decide +kernel⟩, List.mem_filter.mpr ⟨List.mem_of_getElem? (i := 125) (by decide +kernel), by decide +kernel⟩, ⟨by decide +kernel, by decide +kernel, by decide +kernel⟩, by decide⟩, List.mem_filter.mpr ⟨List.mem_of_getElem? (i := 1291) (by decide +kernel), by decide +kernel⟩, List.mem_filter.mpr ⟨List.mem_of_getElem? (i := 111) (by decide +kernel), by decide +kernel⟩, ⟨_, _, rfl⟩⟩
theorem mv_X9_body24 : MV 9 yX9_body24 cX9_body24 2 (some .int) 1 := ⟨⟨List.mem_filter.mpr ⟨List.mem_of_getElem? (i := 1268) (by decide +kernel), by decide +kernel⟩, List.mem_filter.mpr ⟨List.mem_of_getElem? (i := 125) (by decide +kernel), by decide +kernel⟩, ⟨by decide +kernel, by decide +kernel, by decide +kernel⟩, by decide⟩, List.mem_filter.mpr ⟨List.mem_of_getElem? (i := 1267) (by decide +kernel), by decide +kernel⟩, List.mem_filter.mpr ⟨List.mem_of_getElem? (i := 105) (by decide +kernel), by decide +kernel⟩, ⟨_, _, rfl⟩⟩
theorem mv_X9_body10 : MV 9 yX9_body10 cX9_body10 2 (some .int) 1 := ⟨⟨List.mem_filter.mpr ⟨List.mem_of_getElem? (i := 1308) (by decide +kernel), by decide +kernel⟩, List.mem_filter.mpr ⟨List.mem_of_getElem? (i := 125) (by decide +kernel), by decide +kernel⟩, ⟨by decide +kernel, by decide +kernel, by decide +kernel⟩, by decide⟩, List.mem_filter.mpr ⟨List.mem_of_getElem? (i := 1307) (by decide +kernel), by decide +kernel⟩, List.mem_filter.mpr ⟨List.mem_of_getElem? (i := 115) (by decide +kernel), by decide +kernel⟩, ⟨_, _, rfl⟩⟩
theorem mv_X9_body13 : MV 9 yX9_body13 cX9_body13 2 (some .int) 1 := ⟨⟨List.mem_filter.mpr ⟨List.mem_of_getElem? (i := 1304) (by decide +kernel), by decide +kernel⟩, List.mem_filter.mpr ⟨List.mem_of_getElem? (i := 125) (by decide +kernel), by decide +kernel⟩, ⟨by decide +kernel, by decide +kernel, by decide +kernel⟩, by decide⟩, List.mem_filter.mpr ⟨List.mem_of_getElem? (i := 1303) (by decide +kernel), by decide +kernel⟩, List.mem_filter.mpr ⟨List.mem_of_getElem? (i := 114) (by decide +kernel), by decide +kernel⟩, ⟨_, _, rfl⟩⟩
theorem mv_X9_body14 : MV 9 yX9_body14 cX9_body14 2 (some .int) 1 := ⟨⟨List.mem_filter.mpr ⟨List.mem_of_getElem? (i := 1300) (by decide +kernel), by decide +kernel⟩, List.mem_filter.mpr ⟨List.mem_of_getElem? (i := 125) (by decide +kernel), by decide +kernel⟩, ⟨by decide +kernel, by decide +kernel, by decide +kernel⟩, by decide⟩, List.mem_filter.mpr ⟨List.mem_of_getElem? (i := 1299) (by decide +kernel), by decide +kernel⟩, List.mem_filter.mpr ⟨List.mem_of_getElem? (i := 113) (by decide +kernel), by decide +kernel⟩, ⟨_, _, rfl⟩⟩
theorem mv_X9_glassSize : MV 9 yX9_glassSize cX9_glassSize 2 (some .int) 1 := ⟨⟨List.mem_filter.mpr ⟨List.mem_of_getElem? (i := 1296) (by decide +kernel), by decide +kernel⟩, List.mem_filter.mpr ⟨List.mem_of_getElem? (i := 125) (by decide +kernel), by decide +kernel⟩, ⟨by decide +kernel, by decide +kernel, by decide +kernel⟩, by decide⟩, List.mem_filter.mpr ⟨List.mem_of_getElem? (i := 1295) (by decide +kernel), by decide +kernel⟩, List.mem_filter.mpr ⟨List.mem_of_getElem? (i := 112) (by decide +kernel), by decide +kernel⟩, ⟨_, _, rfl⟩⟩
theorem mv_X9_plainMark : MV 9 yX9_plainMark cX9_plainMark 3 (some .int) 1 := ⟨⟨List.mem_filter.mpr ⟨List.mem_of_getElem? (i := 1264) (by decide +kernel), by decide +kernel⟩, List.mem_filter.mpr ⟨List.mem_of_getElem? (i := 125) (by decide +kernel), by decide +kernel⟩, ⟨by decide +kernel, by decide +kernel, by decide +kernel⟩, by decide⟩, List.mem_filter.mpr ⟨List.mem_of_getElem? (i := 1263) (by decide +kernel), by decide +kernel⟩, List.mem_filter.mpr ⟨List.mem_of_getElem? (i := 104) (by decide +kernel), by decide +kernel⟩, ⟨_, _, rfl⟩⟩
theorem mv_X9_body11 : MV 9 yX9_body11 cX9_body11 3 (some .int) 1 := ⟨⟨List.mem_filter.mpr ⟨List.mem_of_getElem? (i := 1316) (by decide +kernel), by decide +kernel⟩, List.mem_filter.mpr ⟨List.mem_of_getElem? (i := 125) (by decide +kernel), by decide +kernel⟩, ⟨by decide +kernel, by decide +kernel, by decide +kernel⟩, by decide⟩, List.mem_filter.mpr ⟨List.mem_of_getElem? (i := 1315) (by decide +kernel), by decide +kernel⟩, List.mem_filter.mpr ⟨List.mem_of_getElem? (i := 117) (by decide +kernel), by decide +kernel⟩, ⟨_, _, rfl⟩⟩
theorem mv_X9_body12 : MV 9 yX9_body12 cX9_body12 2 (some .int) 1 := ⟨⟨List.mem_filter.mpr ⟨List.mem_of_getElem? (i := 1312) (by decide +kernel), by decide +kernel⟩, List.mem_filter.mpr ⟨List.mem_of_getElem? (i := 125) (by decide +kernel), by decide +kernel⟩, ⟨by decide +kernel, by decide +kernel, by decide +kernel⟩, by decide⟩, List.mem_filter.mpr ⟨List.mem_of_getElem? (i := 1311) (by decide +kernel), by decide +kernel⟩, List.mem_filter.mpr ⟨List.mem_of_getElem? (i := 116) (by decide +kernel), by decide +kernel⟩, ⟨_, _, rfl⟩⟩
theorem mv_X9_ask : MV 9 yX9_ask cX9_ask 4 (some .int) 2 := ⟨⟨List.mem_filter.mpr ⟨List.mem_of_getElem? (i := 1260) (by decide +kernel), by decide +kernel⟩, List.mem_filter.mpr ⟨List.mem_of_getElem? (i := 125) (by decide +kernel), by decide +kernel⟩, ⟨by decide +kernel, by decide +kernel, by decide +kernel⟩, by decide⟩, List.mem_filter.mpr ⟨List.mem_of_getElem? (i := 1258) (by decide +kernel), by decide +kernel⟩, List.mem_filter.mpr ⟨List.mem_of_getElem? (i := 1259) (by decide +kernel), by decide +kernel⟩, ⟨_, _, rfl⟩⟩
theorem mv_X9_trace : MV 9 yX9_trace cX9_trace 2 (some .int) 1 := ⟨⟨List.mem_filter.mpr ⟨List.mem_of_getElem? (i := 1320) (by decide +kernel), by decide +kernel⟩, List.mem_filter.mpr ⟨List.mem_of_getElem? (i := 125) (by decide +kernel), by decide +kernel⟩, ⟨by decide +kernel, by decide +kernel, by decide +kernel⟩, by decide⟩, List.mem_filter.mpr ⟨List.mem_of_getElem? (i := 1318) (by decide +kernel), by decide +kernel⟩, List.mem_filter.mpr ⟨List.mem_of_getElem? (i := 1319) (by decide +kernel), by decide +kernel⟩, ⟨_, _, rfl⟩⟩
theorem mv_X9_count : MV 9 yX9_count cX9_count 4 (some .int) 1 := ⟨⟨List.mem_filter.mpr ⟨List.mem_of_getElem? (i := 1324) (by decide +kernel), by decide +kernel⟩, List.mem_filter.mpr ⟨List.mem_of_getElem? (i := 125) (by decide +kernel), by decide +kernel⟩, ⟨by decide +kernel, by decide +kernel, by decide +kernel⟩, by decide⟩, List.mem_filter.mpr ⟨List.mem_of_getElem? (i := 1322) (by decide +kernel), by decide +kernel⟩, List.mem_filter.mpr ⟨List.mem_of_getElem? (i := 1323) (by decide +kernel), by decide +kernel⟩, ⟨_, _, rfl⟩⟩
theorem mv_X9_status : MV 9 yX9_status cX9_status 1 (some .int) 0 := ⟨⟨List.mem_filter.mpr ⟨List.mem_of_getElem? (i := 1328) (by decide +kernel), by decide +kernel⟩, List.mem_filter.mpr ⟨List.mem_of_getElem? (i := 125) (by decide +kernel), by decide +kernel⟩, ⟨by decide +kernel, by decide +kernel, by decide +kernel⟩, by decide⟩, List.mem_filter.mpr ⟨List.mem_of_getElem? (i := 1326) (by decide +kernel), by decide +kernel⟩, List.mem_filter.mpr ⟨List.mem_of_getElem? (i := 1327) (by decide +kernel), by decide +kernel⟩, ⟨_, _, rfl⟩⟩
theorem ms_J6_bitCount_0f7a4 : MS yJ6_bitCount_0f7a4 cJ6_bitCount_0f7a4 1 (some .int) 1 := ⟨⟨List.mem_filter.mpr ⟨List.mem_of_getElem? (i := 461) (by decide +kernel), by decide +kernel⟩, List.mem_filter.mpr ⟨List.mem_of_getElem? (i := 128) (by decide +kernel), by decide +kernel⟩, ⟨by decide +kernel, by decide +kernel, by decide +kernel⟩, by decide⟩, List.mem_filter.mpr ⟨List.mem_of_getElem? (i := 460) (by decide +kernel), by decide +kernel⟩⟩
theorem ms_J7_fill_d0a16 : MS yJ7_fill_d0a16 cJ7_fill_d0a16 5 none 2 := ⟨⟨List.mem_filter.mpr ⟨List.mem_of_getElem? (i := 747) (by decide +kernel), by decide +kernel⟩, List.mem_filter.mpr ⟨List.mem_of_getElem? (i := 126) (by decide +kernel), by decide +kernel⟩, ⟨by decide +kernel, by decide +kernel, by decide +kernel⟩, by decide⟩, List.mem_filter.mpr ⟨List.mem_of_getElem? (i := 746) (by decide +kernel), by decide +kernel⟩⟩
theorem ms_J7_fill_53178 : MS yJ7_fill_53178 cJ7_fill_53178 4 none 2 := ⟨⟨List.mem_filter.mpr ⟨List.mem_of_getElem? (i := 323) (by decide +kernel), by decide +kernel⟩, List.mem_filter.mpr ⟨List.mem_of_getElem? (i := 126) (by decide +kernel), by decide +kernel⟩, ⟨by decide +kernel, by decide +kernel, by decide +kernel⟩, by decide⟩, List.mem_filter.mpr ⟨List.mem_of_getElem? (i := 322) (by decide +kernel), by decide +kernel⟩⟩
end
section
theorem nw_L_7 : NW RL 7 8 12 [.null, .null, .null, .null, .null, .null, .null, .null, .null, .null, .int 0, .int 0] := ⟨_, _, _, ci8, List.mem_filter.mpr ⟨List.mem_of_getElem? (i := 132) (by decide +kernel), by decide +kernel⟩, List.mem_filter.mpr ⟨List.mem_of_getElem? (i := 133) (by decide +kernel), by decide +kernel⟩, List.mem_filter.mpr ⟨List.mem_of_getElem? (i := 119) (by decide +kernel), by decide +kernel⟩, by decide, fun _ => rfl⟩
theorem wc_L_7 : Cond.classLink RL 7 "PegDiscs" ∈ TB := List.mem_filter.mpr ⟨List.mem_of_getElem? (i := 132) (by decide +kernel), by decide +kernel⟩
theorem nw_X8_9 : NW RX8 9 5 3 [.int 0, .int 0, .null] := ⟨_, _, _, ci5, List.mem_filter.mpr ⟨List.mem_of_getElem? (i := 140) (by decide +kernel), by decide +kernel⟩, List.mem_filter.mpr ⟨List.mem_of_getElem? (i := 249) (by decide +kernel), by decide +kernel⟩, List.mem_filter.mpr ⟨List.mem_of_getElem? (i := 124) (by decide +kernel), by decide +kernel⟩, by decide, fun _ => rfl⟩
theorem wc_X8_9 : Cond.classLink RX8 9 "PegDiscs$Row" ∈ TB := List.mem_filter.mpr ⟨List.mem_of_getElem? (i := 140) (by decide +kernel), by decide +kernel⟩
theorem nw_X8_15 : NW RX8 15 7 5 [.null, .int 0, .int 0, .int 0, .int 0] := ⟨_, _, _, ci7, List.mem_filter.mpr ⟨List.mem_of_getElem? (i := 142) (by decide +kernel), by decide +kernel⟩, List.mem_filter.mpr ⟨List.mem_of_getElem? (i := 143) (by decide +kernel), by decide +kernel⟩, List.mem_filter.mpr ⟨List.mem_of_getElem? (i := 120) (by decide +kernel), by decide +kernel⟩, by decide, fun _ => rfl⟩
theorem wc_X8_15 : Cond.classLink RX8 15 "PegDiscs$Tape" ∈ TB := List.mem_filter.mpr ⟨List.mem_of_getElem? (i := 142) (by decide +kernel), by decide +kernel⟩
theorem nw_X8_22 : NW RX8 22 2 6 [.int 0, .int 0, .int 0, .int 0, .int 0, .int 0] := ⟨_, _, _, ci2, List.mem_filter.mpr ⟨List.mem_of_getElem? (i := 168) (by decide +kernel), by decide +kernel⟩, List.mem_filter.mpr ⟨List.mem_of_getElem? (i := 169) (by decide +kernel), by decide +kernel⟩, List.mem_filter.mpr ⟨List.mem_of_getElem? (i := 121) (by decide +kernel), by decide +kernel⟩, by decide, fun _ => rfl⟩
theorem wc_X8_22 : Cond.classLink RX8 22 "PegDiscs$Board" ∈ TB := List.mem_filter.mpr ⟨List.mem_of_getElem? (i := 168) (by decide +kernel), by decide +kernel⟩
theorem nw_X8_32 : NW RX8 32 0 3 [.null, .int 0, .int 0] := ⟨_, _, _, ci0, List.mem_filter.mpr ⟨List.mem_of_getElem? (i := 204) (by decide +kernel), by decide +kernel⟩, List.mem_filter.mpr ⟨List.mem_of_getElem? (i := 205) (by decide +kernel), by decide +kernel⟩, List.mem_filter.mpr ⟨List.mem_of_getElem? (i := 122) (by decide +kernel), by decide +kernel⟩, by decide, fun _ => rfl⟩
theorem wc_X8_32 : Cond.classLink RX8 32 "PegDiscs$Acts" ∈ TB := List.mem_filter.mpr ⟨List.mem_of_getElem? (i := 204) (by decide +kernel), by decide +kernel⟩
theorem nw_X0_9 : NW RX0 9 2 6 [.int 0, .int 0, .int 0, .int 0, .int 0, .int 0] := ⟨_, _, _, ci2, List.mem_filter.mpr ⟨List.mem_of_getElem? (i := 210) (by decide +kernel), by decide +kernel⟩, List.mem_filter.mpr ⟨List.mem_of_getElem? (i := 169) (by decide +kernel), by decide +kernel⟩, List.mem_filter.mpr ⟨List.mem_of_getElem? (i := 121) (by decide +kernel), by decide +kernel⟩, by decide, fun _ => rfl⟩
theorem wc_X0_9 : Cond.classLink RX0 9 "PegDiscs$Board" ∈ TB := List.mem_filter.mpr ⟨List.mem_of_getElem? (i := 210) (by decide +kernel), by decide +kernel⟩
theorem nw_X8_43 : NW RX8 43 1 6 [.null, .int 0, .int 0, .int 0, .int 0, .int 0] := ⟨_, _, _, ci1, List.mem_filter.mpr ⟨List.mem_of_getElem? (i := 224) (by decide +kernel), by decide +kernel⟩, List.mem_filter.mpr ⟨List.mem_of_getElem? (i := 225) (by decide +kernel), by decide +kernel⟩, List.mem_filter.mpr ⟨List.mem_of_getElem? (i := 123) (by decide +kernel), by decide +kernel⟩, by decide, fun _ => rfl⟩
theorem wc_X8_43 : Cond.classLink RX8 43 "PegDiscs$Asker" ∈ TB := List.mem_filter.mpr ⟨List.mem_of_getElem? (i := 224) (by decide +kernel), by decide +kernel⟩
theorem nw_X8_189 : NW RX8 189 6 11 [.null, .null, .null, .null, .null, .int 0, .int 0, .int 0, .int 0, .int 0, .int 0] := ⟨_, _, _, ci6, List.mem_filter.mpr ⟨List.mem_of_getElem? (i := 558) (by decide +kernel), by decide +kernel⟩, List.mem_filter.mpr ⟨List.mem_of_getElem? (i := 559) (by decide +kernel), by decide +kernel⟩, List.mem_filter.mpr ⟨List.mem_of_getElem? (i := 129) (by decide +kernel), by decide +kernel⟩, by decide, fun _ => rfl⟩
theorem wc_X8_189 : Cond.classLink RX8 189 "PegDiscs$Search" ∈ TB := List.mem_filter.mpr ⟨List.mem_of_getElem? (i := 558) (by decide +kernel), by decide +kernel⟩
theorem nw_X6_9 : NW RX6 9 2 6 [.int 0, .int 0, .int 0, .int 0, .int 0, .int 0] := ⟨_, _, _, ci2, List.mem_filter.mpr ⟨List.mem_of_getElem? (i := 564) (by decide +kernel), by decide +kernel⟩, List.mem_filter.mpr ⟨List.mem_of_getElem? (i := 169) (by decide +kernel), by decide +kernel⟩, List.mem_filter.mpr ⟨List.mem_of_getElem? (i := 121) (by decide +kernel), by decide +kernel⟩, by decide, fun _ => rfl⟩
theorem wc_X6_9 : Cond.classLink RX6 9 "PegDiscs$Board" ∈ TB := List.mem_filter.mpr ⟨List.mem_of_getElem? (i := 564) (by decide +kernel), by decide +kernel⟩
theorem nw_X8_285 : NW RX8 285 4 3 [.null, .null, .int 0] := ⟨_, _, _, ci4, List.mem_filter.mpr ⟨List.mem_of_getElem? (i := 625) (by decide +kernel), by decide +kernel⟩, List.mem_filter.mpr ⟨List.mem_of_getElem? (i := 626) (by decide +kernel), by decide +kernel⟩, List.mem_filter.mpr ⟨List.mem_of_getElem? (i := 130) (by decide +kernel), by decide +kernel⟩, by decide, fun _ => rfl⟩
theorem wc_X8_285 : Cond.classLink RX8 285 "PegDiscs$Net" ∈ TB := List.mem_filter.mpr ⟨List.mem_of_getElem? (i := 625) (by decide +kernel), by decide +kernel⟩
theorem nw_X4_9 : NW RX4 9 2 6 [.int 0, .int 0, .int 0, .int 0, .int 0, .int 0] := ⟨_, _, _, ci2, List.mem_filter.mpr ⟨List.mem_of_getElem? (i := 631) (by decide +kernel), by decide +kernel⟩, List.mem_filter.mpr ⟨List.mem_of_getElem? (i := 169) (by decide +kernel), by decide +kernel⟩, List.mem_filter.mpr ⟨List.mem_of_getElem? (i := 121) (by decide +kernel), by decide +kernel⟩, by decide, fun _ => rfl⟩
theorem wc_X4_9 : Cond.classLink RX4 9 "PegDiscs$Board" ∈ TB := List.mem_filter.mpr ⟨List.mem_of_getElem? (i := 631) (by decide +kernel), by decide +kernel⟩
theorem nw_X8_223 : NW RX8 223 3 4 [.null, .null, .null, .int 0] := ⟨_, _, _, ci3, List.mem_filter.mpr ⟨List.mem_of_getElem? (i := 720) (by decide +kernel), by decide +kernel⟩, List.mem_filter.mpr ⟨List.mem_of_getElem? (i := 721) (by decide +kernel), by decide +kernel⟩, List.mem_filter.mpr ⟨List.mem_of_getElem? (i := 131) (by decide +kernel), by decide +kernel⟩, by decide, fun _ => rfl⟩
theorem wc_X8_223 : Cond.classLink RX8 223 "PegDiscs$Layers" ∈ TB := List.mem_filter.mpr ⟨List.mem_of_getElem? (i := 720) (by decide +kernel), by decide +kernel⟩
theorem nw_L_10 : NW RL 10 9 24 [.null, .null, .null, .int 0, .int 0, .null, .int 0, .int 0, .int 0, .int 0, .null, .int 0, .null, .null, .null, .null, .int 0, .null, .null, .int 0, .int 0, .int 0, .null, .int 0] := ⟨_, _, _, ci9, List.mem_filter.mpr ⟨List.mem_of_getElem? (i := 890) (by decide +kernel), by decide +kernel⟩, List.mem_filter.mpr ⟨List.mem_of_getElem? (i := 891) (by decide +kernel), by decide +kernel⟩, List.mem_filter.mpr ⟨List.mem_of_getElem? (i := 125) (by decide +kernel), by decide +kernel⟩, by decide, fun _ => rfl⟩
theorem wc_L_10 : Cond.classLink RL 10 "PegDiscsModel" ∈ TB := List.mem_filter.mpr ⟨List.mem_of_getElem? (i := 890) (by decide +kernel), by decide +kernel⟩
theorem ac_init : Cond.initialized "java/lang/System" ∈ TB := List.mem_filter.mpr ⟨List.mem_of_getElem? (i := 127) (by decide +kernel), by decide +kernel⟩
theorem oi_X8 : Cond.methodLink RX8 1 Lib.objectInit ∈ TB := List.mem_filter.mpr ⟨List.mem_of_getElem? (i := 137) (by decide +kernel), by decide +kernel⟩
theorem oi_inst : Cond.instanceMethod Lib.objectInit ∈ TB := List.mem_filter.mpr ⟨List.mem_of_getElem? (i := 138) (by decide +kernel), by decide +kernel⟩
theorem oi_code : Cond.code Lib.objectInit ⟨#[0xb1]⟩ 1 none ∈ TB := List.mem_filter.mpr ⟨List.mem_of_getElem? (i := 139) (by decide +kernel), by decide +kernel⟩
theorem wo_Row : Cond.arrayOver (.object "PegDiscs$Row") ∈ TB := List.mem_filter.mpr ⟨List.mem_of_getElem? (i := 141) (by decide +kernel), by decide +kernel⟩
theorem oi_X7 : Cond.methodLink RX7 3 Lib.objectInit ∈ TB := List.mem_filter.mpr ⟨List.mem_of_getElem? (i := 147) (by decide +kernel), by decide +kernel⟩
theorem wa_int : Cond.arrayClass .int ∈ TB := List.mem_filter.mpr ⟨List.mem_of_getElem? (i := 167) (by decide +kernel), by decide +kernel⟩
theorem oi_X2 : Cond.methodLink RX2 3 Lib.objectInit ∈ TB := List.mem_filter.mpr ⟨List.mem_of_getElem? (i := 173) (by decide +kernel), by decide +kernel⟩
theorem oi_X0 : Cond.methodLink RX0 3 Lib.objectInit ∈ TB := List.mem_filter.mpr ⟨List.mem_of_getElem? (i := 209) (by decide +kernel), by decide +kernel⟩
theorem wo_Board : Cond.arrayOver (.object "PegDiscs$Board") ∈ TB := List.mem_filter.mpr ⟨List.mem_of_getElem? (i := 211) (by decide +kernel), by decide +kernel⟩
theorem oi_X1 : Cond.methodLink RX1 3 Lib.objectInit ∈ TB := List.mem_filter.mpr ⟨List.mem_of_getElem? (i := 229) (by decide +kernel), by decide +kernel⟩
theorem oi_X5 : Cond.methodLink RX5 3 Lib.objectInit ∈ TB := List.mem_filter.mpr ⟨List.mem_of_getElem? (i := 253) (by decide +kernel), by decide +kernel⟩
theorem ac_link : Cond.methodLink RX8 86 arraycopyName ∈ TB := List.mem_filter.mpr ⟨List.mem_of_getElem? (i := 349) (by decide +kernel), by decide +kernel⟩
theorem ac_stat : Cond.static arraycopyName ∈ TB := List.mem_filter.mpr ⟨List.mem_of_getElem? (i := 350) (by decide +kernel), by decide +kernel⟩
theorem ac_nat : Cond.native arraycopyName ∈ TB := List.mem_filter.mpr ⟨List.mem_of_getElem? (i := 351) (by decide +kernel), by decide +kernel⟩
theorem oi_X6 : Cond.methodLink RX6 3 Lib.objectInit ∈ TB := List.mem_filter.mpr ⟨List.mem_of_getElem? (i := 563) (by decide +kernel), by decide +kernel⟩
theorem oi_X4 : Cond.methodLink RX4 3 Lib.objectInit ∈ TB := List.mem_filter.mpr ⟨List.mem_of_getElem? (i := 630) (by decide +kernel), by decide +kernel⟩
theorem oi_X3 : Cond.methodLink RX3 3 Lib.objectInit ∈ TB := List.mem_filter.mpr ⟨List.mem_of_getElem? (i := 725) (by decide +kernel), by decide +kernel⟩
theorem wa_long : Cond.arrayClass .long ∈ TB := List.mem_filter.mpr ⟨List.mem_of_getElem? (i := 739) (by decide +kernel), by decide +kernel⟩
theorem gs_X8_258 : Cond.fieldLink RX8 258 "PegDiscs" (snm 0) "[I" ∈ TB := List.mem_filter.mpr ⟨List.mem_of_getElem? (i := 843) (by decide +kernel), by decide +kernel⟩
theorem gs_X1_48 : Cond.fieldLinkNest RX1 48 "PegDiscs" (snm 1) "[I" "PegDiscs" ∈ TB := List.mem_filter.mpr ⟨List.mem_of_getElem? (i := 857) (by decide +kernel), by decide +kernel⟩
theorem gs_X1_51 : Cond.fieldLinkNest RX1 51 "PegDiscs" (snm 2) "[I" "PegDiscs" ∈ TB := List.mem_filter.mpr ⟨List.mem_of_getElem? (i := 859) (by decide +kernel), by decide +kernel⟩
theorem oi_X9 : Cond.methodLink RX9 1 Lib.objectInit ∈ TB := List.mem_filter.mpr ⟨List.mem_of_getElem? (i := 895) (by decide +kernel), by decide +kernel⟩
theorem wa_byte : Cond.arrayClass .byte ∈ TB := List.mem_filter.mpr ⟨List.mem_of_getElem? (i := 969) (by decide +kernel), by decide +kernel⟩
theorem wa_boolean : Cond.arrayClass .boolean ∈ TB := List.mem_filter.mpr ⟨List.mem_of_getElem? (i := 970) (by decide +kernel), by decide +kernel⟩
theorem mi_X0_init : MI yX0_init cX0_init 2 0 := ⟨⟨List.mem_filter.mpr ⟨List.mem_of_getElem? (i := 208) (by decide +kernel), by decide +kernel⟩, List.mem_filter.mpr ⟨List.mem_of_getElem? (i := 122) (by decide +kernel), by decide +kernel⟩, ⟨by decide +kernel, by decide +kernel, by decide +kernel⟩, by decide⟩, List.mem_filter.mpr ⟨List.mem_of_getElem? (i := 207) (by decide +kernel), by decide +kernel⟩, rfl⟩
theorem mi_X1_init : MI yX1_init cX1_init 1 0 := ⟨⟨List.mem_filter.mpr ⟨List.mem_of_getElem? (i := 228) (by decide +kernel), by decide +kernel⟩, List.mem_filter.mpr ⟨List.mem_of_getElem? (i := 123) (by decide +kernel), by decide +kernel⟩, ⟨by decide +kernel, by decide +kernel, by decide +kernel⟩, by decide⟩, List.mem_filter.mpr ⟨List.mem_of_getElem? (i := 227) (by decide +kernel), by decide +kernel⟩, rfl⟩
theorem mi_X2_init : MI yX2_init cX2_init 1 0 := ⟨⟨List.mem_filter.mpr ⟨List.mem_of_getElem? (i := 172) (by decide +kernel), by decide +kernel⟩, List.mem_filter.mpr ⟨List.mem_of_getElem? (i := 121) (by decide +kernel), by decide +kernel⟩, ⟨by decide +kernel, by decide +kernel, by decide +kernel⟩, by decide⟩, List.mem_filter.mpr ⟨List.mem_of_getElem? (i := 171) (by decide +kernel), by decide +kernel⟩, rfl⟩
theorem mi_X3_init : MI yX3_init cX3_init 2 1 := ⟨⟨List.mem_filter.mpr ⟨List.mem_of_getElem? (i := 724) (by decide +kernel), by decide +kernel⟩, List.mem_filter.mpr ⟨List.mem_of_getElem? (i := 131) (by decide +kernel), by decide +kernel⟩, ⟨by decide +kernel, by decide +kernel, by decide +kernel⟩, by decide⟩, List.mem_filter.mpr ⟨List.mem_of_getElem? (i := 723) (by decide +kernel), by decide +kernel⟩, rfl⟩
theorem mi_X4_init : MI yX4_init cX4_init 1 0 := ⟨⟨List.mem_filter.mpr ⟨List.mem_of_getElem? (i := 629) (by decide +kernel), by decide +kernel⟩, List.mem_filter.mpr ⟨List.mem_of_getElem? (i := 130) (by decide +kernel), by decide +kernel⟩, ⟨by decide +kernel, by decide +kernel, by decide +kernel⟩, by decide⟩, List.mem_filter.mpr ⟨List.mem_of_getElem? (i := 628) (by decide +kernel), by decide +kernel⟩, rfl⟩
theorem mi_X5_init : MI yX5_init cX5_init 1 0 := ⟨⟨List.mem_filter.mpr ⟨List.mem_of_getElem? (i := 252) (by decide +kernel), by decide +kernel⟩, List.mem_filter.mpr ⟨List.mem_of_getElem? (i := 124) (by decide +kernel), by decide +kernel⟩, ⟨by decide +kernel, by decide +kernel, by decide +kernel⟩, by decide⟩, List.mem_filter.mpr ⟨List.mem_of_getElem? (i := 251) (by decide +kernel), by decide +kernel⟩, rfl⟩
theorem mi_X6_init : MI yX6_init cX6_init 1 0 := ⟨⟨List.mem_filter.mpr ⟨List.mem_of_getElem? (i := 562) (by decide +kernel), by decide +kernel⟩, List.mem_filter.mpr ⟨List.mem_of_getElem? (i := 129) (by decide +kernel), by decide +kernel⟩, ⟨by decide +kernel, by decide +kernel, by decide +kernel⟩, by decide⟩, List.mem_filter.mpr ⟨List.mem_of_getElem? (i := 561) (by decide +kernel), by decide +kernel⟩, rfl⟩
theorem mi_X7_init : MI yX7_init cX7_init 1 0 := ⟨⟨List.mem_filter.mpr ⟨List.mem_of_getElem? (i := 146) (by decide +kernel), by decide +kernel⟩, List.mem_filter.mpr ⟨List.mem_of_getElem? (i := 120) (by decide +kernel), by decide +kernel⟩, ⟨by decide +kernel, by decide +kernel, by decide +kernel⟩, by decide⟩, List.mem_filter.mpr ⟨List.mem_of_getElem? (i := 145) (by decide +kernel), by decide +kernel⟩, rfl⟩
theorem mi_X8_init : MI yX8_init cX8_init 2 0 := ⟨⟨List.mem_filter.mpr ⟨List.mem_of_getElem? (i := 136) (by decide +kernel), by decide +kernel⟩, List.mem_filter.mpr ⟨List.mem_of_getElem? (i := 119) (by decide +kernel), by decide +kernel⟩, ⟨by decide +kernel, by decide +kernel, by decide +kernel⟩, by decide⟩, List.mem_filter.mpr ⟨List.mem_of_getElem? (i := 135) (by decide +kernel), by decide +kernel⟩, rfl⟩
theorem mi_X9_init : MI yX9_init cX9_init 2 0 := ⟨⟨List.mem_filter.mpr ⟨List.mem_of_getElem? (i := 894) (by decide +kernel), by decide +kernel⟩, List.mem_filter.mpr ⟨List.mem_of_getElem? (i := 125) (by decide +kernel), by decide +kernel⟩, ⟨by decide +kernel, by decide +kernel, by decide +kernel⟩, by decide⟩, List.mem_filter.mpr ⟨List.mem_of_getElem? (i := 893) (by decide +kernel), by decide +kernel⟩, rfl⟩
end
