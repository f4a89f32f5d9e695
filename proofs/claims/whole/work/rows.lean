section
-- ===== PART A: goes FIRST, ahead of the names: the tables' words, and 'selects' of the private methods out of them =====
/-- a private method of a class that the tables say can be made, by its rows of tables_1 -/
def lw_okq (q : MethodName × Nat) : Prop := (q.1.cls ≠ "java/lang/invoke/MethodHandle" ∧ q.1.cls ≠ "java/lang/invoke/VarHandle") ∧ Cond.instantiable q.1.cls q.2 ∈ tables_1 ∧ Cond.privateMethod q.1 ∈ tables_1 ∧ Cond.instanceMethod q.1 ∈ tables_1
theorem lw_p0 : lw_okq (⟨"ThreadedArchive$Threads", "clear", "()V"⟩, 1) := ⟨⟨by decide +kernel, by decide +kernel⟩, List.mem_of_getElem? (i := 93) (by decide +kernel), List.mem_of_getElem? (i := 99) (by decide +kernel), List.mem_of_getElem? (i := 100) (by decide +kernel)⟩
theorem lw_p1 : lw_okq (⟨"ThreadedArchive$Line", "put", "(C)Z"⟩, 2) := ⟨⟨by decide +kernel, by decide +kernel⟩, List.mem_of_getElem? (i := 23) (by decide +kernel), List.mem_of_getElem? (i := 220) (by decide +kernel), List.mem_of_getElem? (i := 221) (by decide +kernel)⟩
theorem lw_p2 : lw_okq (⟨"ThreadedArchive$Draft", "take", "(LThreadedArchive$Line;)Z"⟩, 2) := ⟨⟨by decide +kernel, by decide +kernel⟩, List.mem_of_getElem? (i := 42) (by decide +kernel), List.mem_of_getElem? (i := 228) (by decide +kernel), List.mem_of_getElem? (i := 229) (by decide +kernel)⟩
theorem lw_p3 : lw_okq (⟨"ThreadedArchive$Line", "copyFrom", "(LThreadedArchive$Line;)V"⟩, 2) := ⟨⟨by decide +kernel, by decide +kernel⟩, List.mem_of_getElem? (i := 23) (by decide +kernel), List.mem_of_getElem? (i := 232) (by decide +kernel), List.mem_of_getElem? (i := 233) (by decide +kernel)⟩
theorem lw_p4 : lw_okq (⟨"ThreadedArchive$Line", "clear", "()V"⟩, 2) := ⟨⟨by decide +kernel, by decide +kernel⟩, List.mem_of_getElem? (i := 23) (by decide +kernel), List.mem_of_getElem? (i := 239) (by decide +kernel), List.mem_of_getElem? (i := 240) (by decide +kernel)⟩
theorem lw_p5 : lw_okq (⟨"ThreadedArchive$Draft", "clear", "()V"⟩, 2) := ⟨⟨by decide +kernel, by decide +kernel⟩, List.mem_of_getElem? (i := 42) (by decide +kernel), List.mem_of_getElem? (i := 247) (by decide +kernel), List.mem_of_getElem? (i := 248) (by decide +kernel)⟩
theorem lw_p6 : lw_okq (⟨"ThreadedArchive", "numberForDraft", "()I"⟩, 10) := ⟨⟨by decide +kernel, by decide +kernel⟩, List.mem_of_getElem? (i := 15) (by decide +kernel), List.mem_of_getElem? (i := 255) (by decide +kernel), List.mem_of_getElem? (i := 256) (by decide +kernel)⟩
theorem lw_p7 : lw_okq (⟨"ThreadedArchive$Draft", "id", "()I"⟩, 2) := ⟨⟨by decide +kernel, by decide +kernel⟩, List.mem_of_getElem? (i := 42) (by decide +kernel), List.mem_of_getElem? (i := 259) (by decide +kernel), List.mem_of_getElem? (i := 260) (by decide +kernel)⟩
theorem lw_p8 : lw_okq (⟨"ThreadedArchive$Draft", "header", "(IIC)LThreadedArchive$Line;"⟩, 2) := ⟨⟨by decide +kernel, by decide +kernel⟩, List.mem_of_getElem? (i := 42) (by decide +kernel), List.mem_of_getElem? (i := 263) (by decide +kernel), List.mem_of_getElem? (i := 264) (by decide +kernel)⟩
theorem lw_p9 : lw_okq (⟨"ThreadedArchive$Draft", "headersEnd", "(II)I"⟩, 2) := ⟨⟨by decide +kernel, by decide +kernel⟩, List.mem_of_getElem? (i := 42) (by decide +kernel), List.mem_of_getElem? (i := 267) (by decide +kernel), List.mem_of_getElem? (i := 268) (by decide +kernel)⟩
theorem lw_p10 : lw_okq (⟨"ThreadedArchive$Line", "isHeader", "(C)Z"⟩, 2) := ⟨⟨by decide +kernel, by decide +kernel⟩, List.mem_of_getElem? (i := 23) (by decide +kernel), List.mem_of_getElem? (i := 271) (by decide +kernel), List.mem_of_getElem? (i := 272) (by decide +kernel)⟩
theorem lw_p11 : lw_okq (⟨"ThreadedArchive$Line", "at", "(I)I"⟩, 2) := ⟨⟨by decide +kernel, by decide +kernel⟩, List.mem_of_getElem? (i := 23) (by decide +kernel), List.mem_of_getElem? (i := 275) (by decide +kernel), List.mem_of_getElem? (i := 276) (by decide +kernel)⟩
theorem lw_p12 : lw_okq (⟨"ThreadedArchive$Line", "idBetween", "(II)I"⟩, 2) := ⟨⟨by decide +kernel, by decide +kernel⟩, List.mem_of_getElem? (i := 23) (by decide +kernel), List.mem_of_getElem? (i := 279) (by decide +kernel), List.mem_of_getElem? (i := 280) (by decide +kernel)⟩
theorem lw_p13 : lw_okq (⟨"ThreadedArchive", "numberWithId", "(I)I"⟩, 10) := ⟨⟨by decide +kernel, by decide +kernel⟩, List.mem_of_getElem? (i := 15) (by decide +kernel), List.mem_of_getElem? (i := 286) (by decide +kernel), List.mem_of_getElem? (i := 287) (by decide +kernel)⟩
theorem lw_p14 : lw_okq (⟨"ThreadedArchive$PartReader", "readDraft", "(LThreadedArchive$Draft;LThreadedArchive$Message;)V"⟩, 2) := ⟨⟨by decide +kernel, by decide +kernel⟩, List.mem_of_getElem? (i := 61) (by decide +kernel), List.mem_of_getElem? (i := 290) (by decide +kernel), List.mem_of_getElem? (i := 291) (by decide +kernel)⟩
theorem lw_p15 : lw_okq (⟨"ThreadedArchive$Message", "begin", "(I)V"⟩, 9) := ⟨⟨by decide +kernel, by decide +kernel⟩, List.mem_of_getElem? (i := 140) (by decide +kernel), List.mem_of_getElem? (i := 295) (by decide +kernel), List.mem_of_getElem? (i := 296) (by decide +kernel)⟩
def lw_privs_1 : List (MethodName × Nat) := [(⟨"ThreadedArchive$Threads", "clear", "()V"⟩, 1), (⟨"ThreadedArchive$Line", "put", "(C)Z"⟩, 2), (⟨"ThreadedArchive$Draft", "take", "(LThreadedArchive$Line;)Z"⟩, 2), (⟨"ThreadedArchive$Line", "copyFrom", "(LThreadedArchive$Line;)V"⟩, 2), (⟨"ThreadedArchive$Line", "clear", "()V"⟩, 2), (⟨"ThreadedArchive$Draft", "clear", "()V"⟩, 2), (⟨"ThreadedArchive", "numberForDraft", "()I"⟩, 10), (⟨"ThreadedArchive$Draft", "id", "()I"⟩, 2), (⟨"ThreadedArchive$Draft", "header", "(IIC)LThreadedArchive$Line;"⟩, 2), (⟨"ThreadedArchive$Draft", "headersEnd", "(II)I"⟩, 2), (⟨"ThreadedArchive$Line", "isHeader", "(C)Z"⟩, 2), (⟨"ThreadedArchive$Line", "at", "(I)I"⟩, 2), (⟨"ThreadedArchive$Line", "idBetween", "(II)I"⟩, 2), (⟨"ThreadedArchive", "numberWithId", "(I)I"⟩, 10), (⟨"ThreadedArchive$PartReader", "readDraft", "(LThreadedArchive$Draft;LThreadedArchive$Message;)V"⟩, 2), (⟨"ThreadedArchive$Message", "begin", "(I)V"⟩, 9)]
theorem lw_r1 : ∀ q ∈ lw_privs_1, lw_okq q := List.forall_mem_cons.mpr ⟨lw_p0, List.forall_mem_cons.mpr ⟨lw_p1, List.forall_mem_cons.mpr ⟨lw_p2, List.forall_mem_cons.mpr ⟨lw_p3, List.forall_mem_cons.mpr ⟨lw_p4, List.forall_mem_cons.mpr ⟨lw_p5, List.forall_mem_cons.mpr ⟨lw_p6, List.forall_mem_cons.mpr ⟨lw_p7, List.forall_mem_cons.mpr ⟨lw_p8, List.forall_mem_cons.mpr ⟨lw_p9, List.forall_mem_cons.mpr ⟨lw_p10, List.forall_mem_cons.mpr ⟨lw_p11, List.forall_mem_cons.mpr ⟨lw_p12, List.forall_mem_cons.mpr ⟨lw_p13, List.forall_mem_cons.mpr ⟨lw_p14, List.forall_mem_cons.mpr ⟨lw_p15, fun _ h => absurd h List.not_mem_nil⟩⟩⟩⟩⟩⟩⟩⟩⟩⟩⟩⟩⟩⟩⟩⟩
theorem lw_p16 : lw_okq (⟨"ThreadedArchive$Message", "setReferences", "(LThreadedArchive$Line;)V"⟩, 9) := ⟨⟨by decide +kernel, by decide +kernel⟩, List.mem_of_getElem? (i := 140) (by decide +kernel), List.mem_of_getElem? (i := 300) (by decide +kernel), List.mem_of_getElem? (i := 301) (by decide +kernel)⟩
theorem lw_p17 : lw_okq (⟨"ThreadedArchive$Message", "readReferences", "(LThreadedArchive$Line;)I"⟩, 9) := ⟨⟨by decide +kernel, by decide +kernel⟩, List.mem_of_getElem? (i := 140) (by decide +kernel), List.mem_of_getElem? (i := 304) (by decide +kernel), List.mem_of_getElem? (i := 305) (by decide +kernel)⟩
theorem lw_p18 : lw_okq (⟨"ThreadedArchive$Line", "blankFrom", "(I)I"⟩, 2) := ⟨⟨by decide +kernel, by decide +kernel⟩, List.mem_of_getElem? (i := 23) (by decide +kernel), List.mem_of_getElem? (i := 308) (by decide +kernel), List.mem_of_getElem? (i := 309) (by decide +kernel)⟩
theorem lw_p19 : lw_okq (⟨"ThreadedArchive$PartReader", "readHeader", "(LThreadedArchive$Line;LThreadedArchive$Message;I)V"⟩, 2) := ⟨⟨by decide +kernel, by decide +kernel⟩, List.mem_of_getElem? (i := 61) (by decide +kernel), List.mem_of_getElem? (i := 313) (by decide +kernel), List.mem_of_getElem? (i := 314) (by decide +kernel)⟩
theorem lw_p20 : lw_okq (⟨"ThreadedArchive$PartReader", "readLine", "(LThreadedArchive$Line;ILThreadedArchive$Message;I)V"⟩, 2) := ⟨⟨by decide +kernel, by decide +kernel⟩, List.mem_of_getElem? (i := 61) (by decide +kernel), List.mem_of_getElem? (i := 317) (by decide +kernel), List.mem_of_getElem? (i := 318) (by decide +kernel)⟩
theorem lw_p21 : lw_okq (⟨"ThreadedArchive$Letters", "put", "(I)V"⟩, 2) := ⟨⟨by decide +kernel, by decide +kernel⟩, List.mem_of_getElem? (i := 67) (by decide +kernel), List.mem_of_getElem? (i := 328) (by decide +kernel), List.mem_of_getElem? (i := 329) (by decide +kernel)⟩
theorem lw_p22 : lw_okq (⟨"ThreadedArchive$Message", "takeWord", "(LThreadedArchive$Letters;I)V"⟩, 9) := ⟨⟨by decide +kernel, by decide +kernel⟩, List.mem_of_getElem? (i := 140) (by decide +kernel), List.mem_of_getElem? (i := 333) (by decide +kernel), List.mem_of_getElem? (i := 334) (by decide +kernel)⟩
theorem lw_p23 : lw_okq (⟨"ThreadedArchive$Letters", "clear", "()V"⟩, 2) := ⟨⟨by decide +kernel, by decide +kernel⟩, List.mem_of_getElem? (i := 67) (by decide +kernel), List.mem_of_getElem? (i := 337) (by decide +kernel), List.mem_of_getElem? (i := 338) (by decide +kernel)⟩
theorem lw_p24 : lw_okq (⟨"ThreadedArchive$PartReader", "readPart", "(LThreadedArchive$Draft;IIILThreadedArchive$Message;)V"⟩, 2) := ⟨⟨by decide +kernel, by decide +kernel⟩, List.mem_of_getElem? (i := 61) (by decide +kernel), List.mem_of_getElem? (i := 341) (by decide +kernel), List.mem_of_getElem? (i := 342) (by decide +kernel)⟩
theorem lw_p25 : lw_okq (⟨"ThreadedArchive$Draft", "bodyStart", "(II)I"⟩, 2) := ⟨⟨by decide +kernel, by decide +kernel⟩, List.mem_of_getElem? (i := 42) (by decide +kernel), List.mem_of_getElem? (i := 345) (by decide +kernel), List.mem_of_getElem? (i := 346) (by decide +kernel)⟩
theorem lw_p26 : lw_okq (⟨"ThreadedArchive$PartReader", "readMulti", "(LThreadedArchive$Draft;IIILThreadedArchive$Message;I)V"⟩, 2) := ⟨⟨by decide +kernel, by decide +kernel⟩, List.mem_of_getElem? (i := 61) (by decide +kernel), List.mem_of_getElem? (i := 352) (by decide +kernel), List.mem_of_getElem? (i := 353) (by decide +kernel)⟩
theorem lw_p27 : lw_okq (⟨"ThreadedArchive$Draft", "closingPlace", "(III)I"⟩, 2) := ⟨⟨by decide +kernel, by decide +kernel⟩, List.mem_of_getElem? (i := 42) (by decide +kernel), List.mem_of_getElem? (i := 356) (by decide +kernel), List.mem_of_getElem? (i := 357) (by decide +kernel)⟩
theorem lw_p28 : lw_okq (⟨"ThreadedArchive$Line", "isClosing", "(I)Z"⟩, 2) := ⟨⟨by decide +kernel, by decide +kernel⟩, List.mem_of_getElem? (i := 23) (by decide +kernel), List.mem_of_getElem? (i := 360) (by decide +kernel), List.mem_of_getElem? (i := 361) (by decide +kernel)⟩
theorem lw_p29 : lw_okq (⟨"ThreadedArchive$Line", "isCut", "(I)Z"⟩, 2) := ⟨⟨by decide +kernel, by decide +kernel⟩, List.mem_of_getElem? (i := 23) (by decide +kernel), List.mem_of_getElem? (i := 364) (by decide +kernel), List.mem_of_getElem? (i := 365) (by decide +kernel)⟩
theorem lw_p30 : lw_okq (⟨"ThreadedArchive$PartReader", "readLeaf", "(LThreadedArchive$Draft;IILThreadedArchive$Line;LThreadedArchive$Message;)V"⟩, 2) := ⟨⟨by decide +kernel, by decide +kernel⟩, List.mem_of_getElem? (i := 61) (by decide +kernel), List.mem_of_getElem? (i := 368) (by decide +kernel), List.mem_of_getElem? (i := 369) (by decide +kernel)⟩
theorem lw_p31 : lw_okq (⟨"ThreadedArchive$PartReader", "decode", "(LThreadedArchive$Line;)LThreadedArchive$Line;"⟩, 2) := ⟨⟨by decide +kernel, by decide +kernel⟩, List.mem_of_getElem? (i := 61) (by decide +kernel), List.mem_of_getElem? (i := 372) (by decide +kernel), List.mem_of_getElem? (i := 373) (by decide +kernel)⟩
def lw_privs_2 : List (MethodName × Nat) := [(⟨"ThreadedArchive$Message", "setReferences", "(LThreadedArchive$Line;)V"⟩, 9), (⟨"ThreadedArchive$Message", "readReferences", "(LThreadedArchive$Line;)I"⟩, 9), (⟨"ThreadedArchive$Line", "blankFrom", "(I)I"⟩, 2), (⟨"ThreadedArchive$PartReader", "readHeader", "(LThreadedArchive$Line;LThreadedArchive$Message;I)V"⟩, 2), (⟨"ThreadedArchive$PartReader", "readLine", "(LThreadedArchive$Line;ILThreadedArchive$Message;I)V"⟩, 2), (⟨"ThreadedArchive$Letters", "put", "(I)V"⟩, 2), (⟨"ThreadedArchive$Message", "takeWord", "(LThreadedArchive$Letters;I)V"⟩, 9), (⟨"ThreadedArchive$Letters", "clear", "()V"⟩, 2), (⟨"ThreadedArchive$PartReader", "readPart", "(LThreadedArchive$Draft;IIILThreadedArchive$Message;)V"⟩, 2), (⟨"ThreadedArchive$Draft", "bodyStart", "(II)I"⟩, 2), (⟨"ThreadedArchive$PartReader", "readMulti", "(LThreadedArchive$Draft;IIILThreadedArchive$Message;I)V"⟩, 2), (⟨"ThreadedArchive$Draft", "closingPlace", "(III)I"⟩, 2), (⟨"ThreadedArchive$Line", "isClosing", "(I)Z"⟩, 2), (⟨"ThreadedArchive$Line", "isCut", "(I)Z"⟩, 2), (⟨"ThreadedArchive$PartReader", "readLeaf", "(LThreadedArchive$Draft;IILThreadedArchive$Line;LThreadedArchive$Message;)V"⟩, 2), (⟨"ThreadedArchive$PartReader", "decode", "(LThreadedArchive$Line;)LThreadedArchive$Line;"⟩, 2)]
theorem lw_r2 : ∀ q ∈ lw_privs_2, lw_okq q := List.forall_mem_cons.mpr ⟨lw_p16, List.forall_mem_cons.mpr ⟨lw_p17, List.forall_mem_cons.mpr ⟨lw_p18, List.forall_mem_cons.mpr ⟨lw_p19, List.forall_mem_cons.mpr ⟨lw_p20, List.forall_mem_cons.mpr ⟨lw_p21, List.forall_mem_cons.mpr ⟨lw_p22, List.forall_mem_cons.mpr ⟨lw_p23, List.forall_mem_cons.mpr ⟨lw_p24, List.forall_mem_cons.mpr ⟨lw_p25, List.forall_mem_cons.mpr ⟨lw_p26, List.forall_mem_cons.mpr ⟨lw_p27, List.forall_mem_cons.mpr ⟨lw_p28, List.forall_mem_cons.mpr ⟨lw_p29, List.forall_mem_cons.mpr ⟨lw_p30, List.forall_mem_cons.mpr ⟨lw_p31, fun _ h => absurd h List.not_mem_nil⟩⟩⟩⟩⟩⟩⟩⟩⟩⟩⟩⟩⟩⟩⟩⟩
theorem lw_p32 : lw_okq (⟨"ThreadedArchive", "rejoinThreads", "()V"⟩, 10) := ⟨⟨by decide +kernel, by decide +kernel⟩, List.mem_of_getElem? (i := 15) (by decide +kernel), List.mem_of_getElem? (i := 382) (by decide +kernel), List.mem_of_getElem? (i := 383) (by decide +kernel)⟩
theorem lw_p33 : lw_okq (⟨"ThreadedArchive$Threads", "join", "(LThreadedArchive$Message;)V"⟩, 1) := ⟨⟨by decide +kernel, by decide +kernel⟩, List.mem_of_getElem? (i := 93) (by decide +kernel), List.mem_of_getElem? (i := 387) (by decide +kernel), List.mem_of_getElem? (i := 388) (by decide +kernel)⟩
theorem lw_p34 : lw_okq (⟨"ThreadedArchive$Threads", "setParent", "(II)V"⟩, 1) := ⟨⟨by decide +kernel, by decide +kernel⟩, List.mem_of_getElem? (i := 93) (by decide +kernel), List.mem_of_getElem? (i := 391) (by decide +kernel), List.mem_of_getElem? (i := 392) (by decide +kernel)⟩
theorem lw_p35 : lw_okq (⟨"ThreadedArchive$Threads", "makesRing", "(II)Z"⟩, 1) := ⟨⟨by decide +kernel, by decide +kernel⟩, List.mem_of_getElem? (i := 93) (by decide +kernel), List.mem_of_getElem? (i := 395) (by decide +kernel), List.mem_of_getElem? (i := 396) (by decide +kernel)⟩
theorem lw_p36 : lw_okq (⟨"ThreadedArchive", "messageAt", "(I)LThreadedArchive$Message;"⟩, 10) := ⟨⟨by decide +kernel, by decide +kernel⟩, List.mem_of_getElem? (i := 15) (by decide +kernel), List.mem_of_getElem? (i := 403) (by decide +kernel), List.mem_of_getElem? (i := 404) (by decide +kernel)⟩
theorem lw_p37 : lw_okq (⟨"ThreadedArchive", "removeFromOrder", "(I)V"⟩, 10) := ⟨⟨by decide +kernel, by decide +kernel⟩, List.mem_of_getElem? (i := 15) (by decide +kernel), List.mem_of_getElem? (i := 407) (by decide +kernel), List.mem_of_getElem? (i := 408) (by decide +kernel)⟩
theorem lw_p38 : lw_okq (⟨"ThreadedArchive$Message", "setTag", "(IZ)V"⟩, 9) := ⟨⟨by decide +kernel, by decide +kernel⟩, List.mem_of_getElem? (i := 140) (by decide +kernel), List.mem_of_getElem? (i := 415) (by decide +kernel), List.mem_of_getElem? (i := 416) (by decide +kernel)⟩
theorem lw_p39 : lw_okq (⟨"ThreadedArchive$Query", "read", "(LThreadedArchive$Line;[LThreadedArchive$Message;)I"⟩, 7) := ⟨⟨by decide +kernel, by decide +kernel⟩, List.mem_of_getElem? (i := 108) (by decide +kernel), List.mem_of_getElem? (i := 423) (by decide +kernel), List.mem_of_getElem? (i := 424) (by decide +kernel)⟩
theorem lw_p40 : lw_okq (⟨"ThreadedArchive$Query", "beginLevel", "()V"⟩, 7) := ⟨⟨by decide +kernel, by decide +kernel⟩, List.mem_of_getElem? (i := 108) (by decide +kernel), List.mem_of_getElem? (i := 427) (by decide +kernel), List.mem_of_getElem? (i := 428) (by decide +kernel)⟩
theorem lw_p41 : lw_okq (⟨"ThreadedArchive$Query", "beginOne", "()V"⟩, 7) := ⟨⟨by decide +kernel, by decide +kernel⟩, List.mem_of_getElem? (i := 108) (by decide +kernel), List.mem_of_getElem? (i := 431) (by decide +kernel), List.mem_of_getElem? (i := 432) (by decide +kernel)⟩
theorem lw_p42 : lw_okq (⟨"ThreadedArchive$Query", "readCharacter", "(I[LThreadedArchive$Message;)Z"⟩, 7) := ⟨⟨by decide +kernel, by decide +kernel⟩, List.mem_of_getElem? (i := 108) (by decide +kernel), List.mem_of_getElem? (i := 437) (by decide +kernel), List.mem_of_getElem? (i := 438) (by decide +kernel)⟩
theorem lw_p43 : lw_okq (⟨"ThreadedArchive$Query", "readLetter", "(I)Z"⟩, 7) := ⟨⟨by decide +kernel, by decide +kernel⟩, List.mem_of_getElem? (i := 108) (by decide +kernel), List.mem_of_getElem? (i := 441) (by decide +kernel), List.mem_of_getElem? (i := 442) (by decide +kernel)⟩
theorem lw_p44 : lw_okq (⟨"ThreadedArchive$Query", "readNot", "(I)Z"⟩, 7) := ⟨⟨by decide +kernel, by decide +kernel⟩, List.mem_of_getElem? (i := 108) (by decide +kernel), List.mem_of_getElem? (i := 447) (by decide +kernel), List.mem_of_getElem? (i := 448) (by decide +kernel)⟩
theorem lw_p45 : lw_okq (⟨"ThreadedArchive$Query", "readOpening", "(I)Z"⟩, 7) := ⟨⟨by decide +kernel, by decide +kernel⟩, List.mem_of_getElem? (i := 108) (by decide +kernel), List.mem_of_getElem? (i := 451) (by decide +kernel), List.mem_of_getElem? (i := 452) (by decide +kernel)⟩
theorem lw_p46 : lw_okq (⟨"ThreadedArchive$Query", "readColon", "(I)Z"⟩, 7) := ⟨⟨by decide +kernel, by decide +kernel⟩, List.mem_of_getElem? (i := 108) (by decide +kernel), List.mem_of_getElem? (i := 455) (by decide +kernel), List.mem_of_getElem? (i := 456) (by decide +kernel)⟩
theorem lw_p47 : lw_okq (⟨"ThreadedArchive$Query", "readBehindWord", "(I[LThreadedArchive$Message;)Z"⟩, 7) := ⟨⟨by decide +kernel, by decide +kernel⟩, List.mem_of_getElem? (i := 108) (by decide +kernel), List.mem_of_getElem? (i := 462) (by decide +kernel), List.mem_of_getElem? (i := 463) (by decide +kernel)⟩
def lw_privs_3 : List (MethodName × Nat) := [(⟨"ThreadedArchive", "rejoinThreads", "()V"⟩, 10), (⟨"ThreadedArchive$Threads", "join", "(LThreadedArchive$Message;)V"⟩, 1), (⟨"ThreadedArchive$Threads", "setParent", "(II)V"⟩, 1), (⟨"ThreadedArchive$Threads", "makesRing", "(II)Z"⟩, 1), (⟨"ThreadedArchive", "messageAt", "(I)LThreadedArchive$Message;"⟩, 10), (⟨"ThreadedArchive", "removeFromOrder", "(I)V"⟩, 10), (⟨"ThreadedArchive$Message", "setTag", "(IZ)V"⟩, 9), (⟨"ThreadedArchive$Query", "read", "(LThreadedArchive$Line;[LThreadedArchive$Message;)I"⟩, 7), (⟨"ThreadedArchive$Query", "beginLevel", "()V"⟩, 7), (⟨"ThreadedArchive$Query", "beginOne", "()V"⟩, 7), (⟨"ThreadedArchive$Query", "readCharacter", "(I[LThreadedArchive$Message;)Z"⟩, 7), (⟨"ThreadedArchive$Query", "readLetter", "(I)Z"⟩, 7), (⟨"ThreadedArchive$Query", "readNot", "(I)Z"⟩, 7), (⟨"ThreadedArchive$Query", "readOpening", "(I)Z"⟩, 7), (⟨"ThreadedArchive$Query", "readColon", "(I)Z"⟩, 7), (⟨"ThreadedArchive$Query", "readBehindWord", "(I[LThreadedArchive$Message;)Z"⟩, 7)]
theorem lw_r3 : ∀ q ∈ lw_privs_3, lw_okq q := List.forall_mem_cons.mpr ⟨lw_p32, List.forall_mem_cons.mpr ⟨lw_p33, List.forall_mem_cons.mpr ⟨lw_p34, List.forall_mem_cons.mpr ⟨lw_p35, List.forall_mem_cons.mpr ⟨lw_p36, List.forall_mem_cons.mpr ⟨lw_p37, List.forall_mem_cons.mpr ⟨lw_p38, List.forall_mem_cons.mpr ⟨lw_p39, List.forall_mem_cons.mpr ⟨lw_p40, List.forall_mem_cons.mpr ⟨lw_p41, List.forall_mem_cons.mpr ⟨lw_p42, List.forall_mem_cons.mpr ⟨lw_p43, List.forall_mem_cons.mpr ⟨lw_p44, List.forall_mem_cons.mpr ⟨lw_p45, List.forall_mem_cons.mpr ⟨lw_p46, List.forall_mem_cons.mpr ⟨lw_p47, fun _ h => absurd h List.not_mem_nil⟩⟩⟩⟩⟩⟩⟩⟩⟩⟩⟩⟩⟩⟩⟩⟩
theorem lw_p48 : lw_okq (⟨"ThreadedArchive$Query", "endWord", "([LThreadedArchive$Message;Z)V"⟩, 7) := ⟨⟨by decide +kernel, by decide +kernel⟩, List.mem_of_getElem? (i := 108) (by decide +kernel), List.mem_of_getElem? (i := 466) (by decide +kernel), List.mem_of_getElem? (i := 467) (by decide +kernel)⟩
theorem lw_p49 : lw_okq (⟨"ThreadedArchive$Message", "hasMatch", "(JZI)Z"⟩, 9) := ⟨⟨by decide +kernel, by decide +kernel⟩, List.mem_of_getElem? (i := 140) (by decide +kernel), List.mem_of_getElem? (i := 470) (by decide +kernel), List.mem_of_getElem? (i := 471) (by decide +kernel)⟩
theorem lw_p50 : lw_okq (⟨"ThreadedArchive$Query", "endOne", "(I)V"⟩, 7) := ⟨⟨by decide +kernel, by decide +kernel⟩, List.mem_of_getElem? (i := 108) (by decide +kernel), List.mem_of_getElem? (i := 477) (by decide +kernel), List.mem_of_getElem? (i := 478) (by decide +kernel)⟩
theorem lw_p51 : lw_okq (⟨"ThreadedArchive$Query", "readBehindOne", "(I)Z"⟩, 7) := ⟨⟨by decide +kernel, by decide +kernel⟩, List.mem_of_getElem? (i := 108) (by decide +kernel), List.mem_of_getElem? (i := 481) (by decide +kernel), List.mem_of_getElem? (i := 482) (by decide +kernel)⟩
theorem lw_p52 : lw_okq (⟨"ThreadedArchive$Query", "readClosing", "()Z"⟩, 7) := ⟨⟨by decide +kernel, by decide +kernel⟩, List.mem_of_getElem? (i := 108) (by decide +kernel), List.mem_of_getElem? (i := 485) (by decide +kernel), List.mem_of_getElem? (i := 486) (by decide +kernel)⟩
theorem lw_p53 : lw_okq (⟨"ThreadedArchive$Query", "readTag", "(I[LThreadedArchive$Message;)Z"⟩, 7) := ⟨⟨by decide +kernel, by decide +kernel⟩, List.mem_of_getElem? (i := 108) (by decide +kernel), List.mem_of_getElem? (i := 489) (by decide +kernel), List.mem_of_getElem? (i := 490) (by decide +kernel)⟩
theorem lw_p54 : lw_okq (⟨"ThreadedArchive$Message", "hasTag", "(I)Z"⟩, 9) := ⟨⟨by decide +kernel, by decide +kernel⟩, List.mem_of_getElem? (i := 140) (by decide +kernel), List.mem_of_getElem? (i := 494) (by decide +kernel), List.mem_of_getElem? (i := 495) (by decide +kernel)⟩
theorem lw_p55 : lw_okq (⟨"ThreadedArchive$Query", "holding", "()I"⟩, 7) := ⟨⟨by decide +kernel, by decide +kernel⟩, List.mem_of_getElem? (i := 108) (by decide +kernel), List.mem_of_getElem? (i := 498) (by decide +kernel), List.mem_of_getElem? (i := 499) (by decide +kernel)⟩
theorem lw_p56 : lw_okq (⟨"ThreadedArchive", "numbersThere", "()I"⟩, 10) := ⟨⟨by decide +kernel, by decide +kernel⟩, List.mem_of_getElem? (i := 15) (by decide +kernel), List.mem_of_getElem? (i := 502) (by decide +kernel), List.mem_of_getElem? (i := 503) (by decide +kernel)⟩
theorem lw_p57 : lw_okq (⟨"ThreadedArchive", "rootsOf", "(I)J"⟩, 10) := ⟨⟨by decide +kernel, by decide +kernel⟩, List.mem_of_getElem? (i := 15) (by decide +kernel), List.mem_of_getElem? (i := 527) (by decide +kernel), List.mem_of_getElem? (i := 528) (by decide +kernel)⟩
theorem lw_p58 : lw_okq (⟨"ThreadedArchive", "rootBit", "(LThreadedArchive$Message;)J"⟩, 10) := ⟨⟨by decide +kernel, by decide +kernel⟩, List.mem_of_getElem? (i := 15) (by decide +kernel), List.mem_of_getElem? (i := 531) (by decide +kernel), List.mem_of_getElem? (i := 532) (by decide +kernel)⟩
theorem lw_p59 : lw_okq (⟨"ThreadedArchive$Threads", "topOf", "(I)I"⟩, 1) := ⟨⟨by decide +kernel, by decide +kernel⟩, List.mem_of_getElem? (i := 93) (by decide +kernel), List.mem_of_getElem? (i := 535) (by decide +kernel), List.mem_of_getElem? (i := 536) (by decide +kernel)⟩
theorem lw_p60 : lw_okq (⟨"ThreadedArchive$Threads", "parentOf", "(I)I"⟩, 1) := ⟨⟨by decide +kernel, by decide +kernel⟩, List.mem_of_getElem? (i := 93) (by decide +kernel), List.mem_of_getElem? (i := 547) (by decide +kernel), List.mem_of_getElem? (i := 548) (by decide +kernel)⟩
theorem lw_p61 : lw_okq (⟨"ThreadedArchive$Message", "hasWord", "(I)Z"⟩, 9) := ⟨⟨by decide +kernel, by decide +kernel⟩, List.mem_of_getElem? (i := 140) (by decide +kernel), List.mem_of_getElem? (i := 559) (by decide +kernel), List.mem_of_getElem? (i := 560) (by decide +kernel)⟩
theorem lw_p62 : lw_okq (⟨"ThreadedArchive", "differentCodes", "()I"⟩, 10) := ⟨⟨by decide +kernel, by decide +kernel⟩, List.mem_of_getElem? (i := 15) (by decide +kernel), List.mem_of_getElem? (i := 578) (by decide +kernel), List.mem_of_getElem? (i := 579) (by decide +kernel)⟩
theorem lw_p63 : lw_okq (⟨"ThreadedArchive$Message", "hasCodeBefore", "(IJ)Z"⟩, 9) := ⟨⟨by decide +kernel, by decide +kernel⟩, List.mem_of_getElem? (i := 140) (by decide +kernel), List.mem_of_getElem? (i := 582) (by decide +kernel), List.mem_of_getElem? (i := 583) (by decide +kernel)⟩
def lw_privs_4 : List (MethodName × Nat) := [(⟨"ThreadedArchive$Query", "endWord", "([LThreadedArchive$Message;Z)V"⟩, 7), (⟨"ThreadedArchive$Message", "hasMatch", "(JZI)Z"⟩, 9), (⟨"ThreadedArchive$Query", "endOne", "(I)V"⟩, 7), (⟨"ThreadedArchive$Query", "readBehindOne", "(I)Z"⟩, 7), (⟨"ThreadedArchive$Query", "readClosing", "()Z"⟩, 7), (⟨"ThreadedArchive$Query", "readTag", "(I[LThreadedArchive$Message;)Z"⟩, 7), (⟨"ThreadedArchive$Message", "hasTag", "(I)Z"⟩, 9), (⟨"ThreadedArchive$Query", "holding", "()I"⟩, 7), (⟨"ThreadedArchive", "numbersThere", "()I"⟩, 10), (⟨"ThreadedArchive", "rootsOf", "(I)J"⟩, 10), (⟨"ThreadedArchive", "rootBit", "(LThreadedArchive$Message;)J"⟩, 10), (⟨"ThreadedArchive$Threads", "topOf", "(I)I"⟩, 1), (⟨"ThreadedArchive$Threads", "parentOf", "(I)I"⟩, 1), (⟨"ThreadedArchive$Message", "hasWord", "(I)Z"⟩, 9), (⟨"ThreadedArchive", "differentCodes", "()I"⟩, 10), (⟨"ThreadedArchive$Message", "hasCodeBefore", "(IJ)Z"⟩, 9)]
theorem lw_r4 : ∀ q ∈ lw_privs_4, lw_okq q := List.forall_mem_cons.mpr ⟨lw_p48, List.forall_mem_cons.mpr ⟨lw_p49, List.forall_mem_cons.mpr ⟨lw_p50, List.forall_mem_cons.mpr ⟨lw_p51, List.forall_mem_cons.mpr ⟨lw_p52, List.forall_mem_cons.mpr ⟨lw_p53, List.forall_mem_cons.mpr ⟨lw_p54, List.forall_mem_cons.mpr ⟨lw_p55, List.forall_mem_cons.mpr ⟨lw_p56, List.forall_mem_cons.mpr ⟨lw_p57, List.forall_mem_cons.mpr ⟨lw_p58, List.forall_mem_cons.mpr ⟨lw_p59, List.forall_mem_cons.mpr ⟨lw_p60, List.forall_mem_cons.mpr ⟨lw_p61, List.forall_mem_cons.mpr ⟨lw_p62, List.forall_mem_cons.mpr ⟨lw_p63, fun _ h => absurd h List.not_mem_nil⟩⟩⟩⟩⟩⟩⟩⟩⟩⟩⟩⟩⟩⟩⟩⟩
theorem lw_p64 : lw_okq (⟨"ThreadedArchive", "isCodeEarlier", "(IJ)Z"⟩, 10) := ⟨⟨by decide +kernel, by decide +kernel⟩, List.mem_of_getElem? (i := 15) (by decide +kernel), List.mem_of_getElem? (i := 586) (by decide +kernel), List.mem_of_getElem? (i := 587) (by decide +kernel)⟩
theorem lw_p65 : lw_okq (⟨"ThreadedArchive", "leavesOf", "(I)I"⟩, 10) := ⟨⟨by decide +kernel, by decide +kernel⟩, List.mem_of_getElem? (i := 15) (by decide +kernel), List.mem_of_getElem? (i := 590) (by decide +kernel), List.mem_of_getElem? (i := 591) (by decide +kernel)⟩
theorem lw_p66 : lw_okq (⟨"ThreadedArchiveModel", "at", "(II)I"⟩, 28) := ⟨⟨by decide +kernel, by decide +kernel⟩, List.mem_of_getElem? (i := 594) (by decide +kernel), List.mem_of_getElem? (i := 696) (by decide +kernel), List.mem_of_getElem? (i := 697) (by decide +kernel)⟩
theorem lw_p67 : lw_okq (⟨"ThreadedArchiveModel", "header", "(III)I"⟩, 28) := ⟨⟨by decide +kernel, by decide +kernel⟩, List.mem_of_getElem? (i := 594) (by decide +kernel), List.mem_of_getElem? (i := 708) (by decide +kernel), List.mem_of_getElem? (i := 709) (by decide +kernel)⟩
theorem lw_p68 : lw_okq (⟨"ThreadedArchiveModel", "emptyLine", "(II)I"⟩, 28) := ⟨⟨by decide +kernel, by decide +kernel⟩, List.mem_of_getElem? (i := 594) (by decide +kernel), List.mem_of_getElem? (i := 712) (by decide +kernel), List.mem_of_getElem? (i := 713) (by decide +kernel)⟩
theorem lw_p69 : lw_okq (⟨"ThreadedArchiveModel", "number", "(III)I"⟩, 28) := ⟨⟨by decide +kernel, by decide +kernel⟩, List.mem_of_getElem? (i := 594) (by decide +kernel), List.mem_of_getElem? (i := 716) (by decide +kernel), List.mem_of_getElem? (i := 717) (by decide +kernel)⟩
theorem lw_p70 : lw_okq (⟨"ThreadedArchiveModel", "fill", "(III)V"⟩, 28) := ⟨⟨by decide +kernel, by decide +kernel⟩, List.mem_of_getElem? (i := 594) (by decide +kernel), List.mem_of_getElem? (i := 720) (by decide +kernel), List.mem_of_getElem? (i := 721) (by decide +kernel)⟩
theorem lw_p71 : lw_okq (⟨"ThreadedArchiveModel", "readReferences", "(II)V"⟩, 28) := ⟨⟨by decide +kernel, by decide +kernel⟩, List.mem_of_getElem? (i := 594) (by decide +kernel), List.mem_of_getElem? (i := 724) (by decide +kernel), List.mem_of_getElem? (i := 725) (by decide +kernel)⟩
theorem lw_p72 : lw_okq (⟨"ThreadedArchiveModel", "collect", "(III)V"⟩, 28) := ⟨⟨by decide +kernel, by decide +kernel⟩, List.mem_of_getElem? (i := 594) (by decide +kernel), List.mem_of_getElem? (i := 728) (by decide +kernel), List.mem_of_getElem? (i := 729) (by decide +kernel)⟩
theorem lw_p73 : lw_okq (⟨"ThreadedArchiveModel", "letter", "(II)V"⟩, 28) := ⟨⟨by decide +kernel, by decide +kernel⟩, List.mem_of_getElem? (i := 594) (by decide +kernel), List.mem_of_getElem? (i := 732) (by decide +kernel), List.mem_of_getElem? (i := 733) (by decide +kernel)⟩
theorem lw_p74 : lw_okq (⟨"ThreadedArchiveModel", "push", "(III)V"⟩, 28) := ⟨⟨by decide +kernel, by decide +kernel⟩, List.mem_of_getElem? (i := 594) (by decide +kernel), List.mem_of_getElem? (i := 737) (by decide +kernel), List.mem_of_getElem? (i := 738) (by decide +kernel)⟩
theorem lw_p75 : lw_okq (⟨"ThreadedArchiveModel", "takePart", "()V"⟩, 28) := ⟨⟨by decide +kernel, by decide +kernel⟩, List.mem_of_getElem? (i := 594) (by decide +kernel), List.mem_of_getElem? (i := 741) (by decide +kernel), List.mem_of_getElem? (i := 742) (by decide +kernel)⟩
theorem lw_p76 : lw_okq (⟨"ThreadedArchiveModel", "leaf", "(III)V"⟩, 28) := ⟨⟨by decide +kernel, by decide +kernel⟩, List.mem_of_getElem? (i := 594) (by decide +kernel), List.mem_of_getElem? (i := 745) (by decide +kernel), List.mem_of_getElem? (i := 746) (by decide +kernel)⟩
theorem lw_p77 : lw_okq (⟨"ThreadedArchiveModel", "collectCoded", "(I)V"⟩, 28) := ⟨⟨by decide +kernel, by decide +kernel⟩, List.mem_of_getElem? (i := 594) (by decide +kernel), List.mem_of_getElem? (i := 749) (by decide +kernel), List.mem_of_getElem? (i := 750) (by decide +kernel)⟩
theorem lw_p78 : lw_okq (⟨"ThreadedArchiveModel", "closes", "(II)Z"⟩, 28) := ⟨⟨by decide +kernel, by decide +kernel⟩, List.mem_of_getElem? (i := 594) (by decide +kernel), List.mem_of_getElem? (i := 756) (by decide +kernel), List.mem_of_getElem? (i := 757) (by decide +kernel)⟩
theorem lw_p79 : lw_okq (⟨"ThreadedArchiveModel", "cuts", "(II)Z"⟩, 28) := ⟨⟨by decide +kernel, by decide +kernel⟩, List.mem_of_getElem? (i := 594) (by decide +kernel), List.mem_of_getElem? (i := 760) (by decide +kernel), List.mem_of_getElem? (i := 761) (by decide +kernel)⟩
def lw_privs_5 : List (MethodName × Nat) := [(⟨"ThreadedArchive", "isCodeEarlier", "(IJ)Z"⟩, 10), (⟨"ThreadedArchive", "leavesOf", "(I)I"⟩, 10), (⟨"ThreadedArchiveModel", "at", "(II)I"⟩, 28), (⟨"ThreadedArchiveModel", "header", "(III)I"⟩, 28), (⟨"ThreadedArchiveModel", "emptyLine", "(II)I"⟩, 28), (⟨"ThreadedArchiveModel", "number", "(III)I"⟩, 28), (⟨"ThreadedArchiveModel", "fill", "(III)V"⟩, 28), (⟨"ThreadedArchiveModel", "readReferences", "(II)V"⟩, 28), (⟨"ThreadedArchiveModel", "collect", "(III)V"⟩, 28), (⟨"ThreadedArchiveModel", "letter", "(II)V"⟩, 28), (⟨"ThreadedArchiveModel", "push", "(III)V"⟩, 28), (⟨"ThreadedArchiveModel", "takePart", "()V"⟩, 28), (⟨"ThreadedArchiveModel", "leaf", "(III)V"⟩, 28), (⟨"ThreadedArchiveModel", "collectCoded", "(I)V"⟩, 28), (⟨"ThreadedArchiveModel", "closes", "(II)Z"⟩, 28), (⟨"ThreadedArchiveModel", "cuts", "(II)Z"⟩, 28)]
theorem lw_r5 : ∀ q ∈ lw_privs_5, lw_okq q := List.forall_mem_cons.mpr ⟨lw_p64, List.forall_mem_cons.mpr ⟨lw_p65, List.forall_mem_cons.mpr ⟨lw_p66, List.forall_mem_cons.mpr ⟨lw_p67, List.forall_mem_cons.mpr ⟨lw_p68, List.forall_mem_cons.mpr ⟨lw_p69, List.forall_mem_cons.mpr ⟨lw_p70, List.forall_mem_cons.mpr ⟨lw_p71, List.forall_mem_cons.mpr ⟨lw_p72, List.forall_mem_cons.mpr ⟨lw_p73, List.forall_mem_cons.mpr ⟨lw_p74, List.forall_mem_cons.mpr ⟨lw_p75, List.forall_mem_cons.mpr ⟨lw_p76, List.forall_mem_cons.mpr ⟨lw_p77, List.forall_mem_cons.mpr ⟨lw_p78, List.forall_mem_cons.mpr ⟨lw_p79, fun _ h => absurd h List.not_mem_nil⟩⟩⟩⟩⟩⟩⟩⟩⟩⟩⟩⟩⟩⟩⟩⟩
theorem lw_p80 : lw_okq (⟨"ThreadedArchiveModel", "noMessage", "(I)Z"⟩, 28) := ⟨⟨by decide +kernel, by decide +kernel⟩, List.mem_of_getElem? (i := 594) (by decide +kernel), List.mem_of_getElem? (i := 768) (by decide +kernel), List.mem_of_getElem? (i := 769) (by decide +kernel)⟩
theorem lw_p81 : lw_okq (⟨"ThreadedArchiveModel", "fault", "(I)I"⟩, 28) := ⟨⟨by decide +kernel, by decide +kernel⟩, List.mem_of_getElem? (i := 594) (by decide +kernel), List.mem_of_getElem? (i := 780) (by decide +kernel), List.mem_of_getElem? (i := 781) (by decide +kernel)⟩
theorem lw_p82 : lw_okq (⟨"ThreadedArchiveModel", "nextState", "(IIII)I"⟩, 28) := ⟨⟨by decide +kernel, by decide +kernel⟩, List.mem_of_getElem? (i := 594) (by decide +kernel), List.mem_of_getElem? (i := 784) (by decide +kernel), List.mem_of_getElem? (i := 785) (by decide +kernel)⟩
theorem lw_p83 : lw_okq (⟨"ThreadedArchiveModel", "term", "(II)I"⟩, 28) := ⟨⟨by decide +kernel, by decide +kernel⟩, List.mem_of_getElem? (i := 594) (by decide +kernel), List.mem_of_getElem? (i := 791) (by decide +kernel), List.mem_of_getElem? (i := 792) (by decide +kernel)⟩
theorem lw_p84 : lw_okq (⟨"ThreadedArchiveModel", "withTag", "(I)I"⟩, 28) := ⟨⟨by decide +kernel, by decide +kernel⟩, List.mem_of_getElem? (i := 594) (by decide +kernel), List.mem_of_getElem? (i := 795) (by decide +kernel), List.mem_of_getElem? (i := 796) (by decide +kernel)⟩
theorem lw_p85 : lw_okq (⟨"ThreadedArchiveModel", "one", "(I)V"⟩, 28) := ⟨⟨by decide +kernel, by decide +kernel⟩, List.mem_of_getElem? (i := 594) (by decide +kernel), List.mem_of_getElem? (i := 799) (by decide +kernel), List.mem_of_getElem? (i := 800) (by decide +kernel)⟩
theorem lw_p86 : lw_okq (⟨"ThreadedArchiveModel", "present", "()I"⟩, 28) := ⟨⟨by decide +kernel, by decide +kernel⟩, List.mem_of_getElem? (i := 594) (by decide +kernel), List.mem_of_getElem? (i := 803) (by decide +kernel), List.mem_of_getElem? (i := 804) (by decide +kernel)⟩
theorem lw_p87 : lw_okq (⟨"ThreadedArchiveModel", "withWord", "(JZI)I"⟩, 28) := ⟨⟨by decide +kernel, by decide +kernel⟩, List.mem_of_getElem? (i := 594) (by decide +kernel), List.mem_of_getElem? (i := 808) (by decide +kernel), List.mem_of_getElem? (i := 809) (by decide +kernel)⟩
theorem lw_p88 : lw_okq (⟨"ThreadedArchiveModel", "sign", "(I)V"⟩, 28) := ⟨⟨by decide +kernel, by decide +kernel⟩, List.mem_of_getElem? (i := 594) (by decide +kernel), List.mem_of_getElem? (i := 818) (by decide +kernel), List.mem_of_getElem? (i := 819) (by decide +kernel)⟩
theorem lw_p89 : lw_okq (⟨"ThreadedArchiveModel", "reduce", "(Z)V"⟩, 28) := ⟨⟨by decide +kernel, by decide +kernel⟩, List.mem_of_getElem? (i := 594) (by decide +kernel), List.mem_of_getElem? (i := 822) (by decide +kernel), List.mem_of_getElem? (i := 823) (by decide +kernel)⟩
theorem lw_p90 : lw_okq (⟨"ThreadedArchiveModel", "linkAll", "()V"⟩, 28) := ⟨⟨by decide +kernel, by decide +kernel⟩, List.mem_of_getElem? (i := 594) (by decide +kernel), List.mem_of_getElem? (i := 844) (by decide +kernel), List.mem_of_getElem? (i := 845) (by decide +kernel)⟩
theorem lw_p91 : lw_okq (⟨"ThreadedArchiveModel", "addedAfter", "(I)I"⟩, 28) := ⟨⟨by decide +kernel, by decide +kernel⟩, List.mem_of_getElem? (i := 594) (by decide +kernel), List.mem_of_getElem? (i := 848) (by decide +kernel), List.mem_of_getElem? (i := 849) (by decide +kernel)⟩
theorem lw_p92 : lw_okq (⟨"ThreadedArchiveModel", "ring", "(II)Z"⟩, 28) := ⟨⟨by decide +kernel, by decide +kernel⟩, List.mem_of_getElem? (i := 594) (by decide +kernel), List.mem_of_getElem? (i := 852) (by decide +kernel), List.mem_of_getElem? (i := 853) (by decide +kernel)⟩
theorem lw_p93 : lw_okq (⟨"ThreadedArchiveModel", "top", "(I)I"⟩, 28) := ⟨⟨by decide +kernel, by decide +kernel⟩, List.mem_of_getElem? (i := 594) (by decide +kernel), List.mem_of_getElem? (i := 856) (by decide +kernel), List.mem_of_getElem? (i := 857) (by decide +kernel)⟩
theorem lw_p94 : lw_okq (⟨"ThreadedArchiveModel", "withId", "(I)I"⟩, 28) := ⟨⟨by decide +kernel, by decide +kernel⟩, List.mem_of_getElem? (i := 594) (by decide +kernel), List.mem_of_getElem? (i := 868) (by decide +kernel), List.mem_of_getElem? (i := 869) (by decide +kernel)⟩
theorem lw_p95 : lw_okq (⟨"ThreadedArchiveModel", "roots", "()I"⟩, 28) := ⟨⟨by decide +kernel, by decide +kernel⟩, List.mem_of_getElem? (i := 594) (by decide +kernel), List.mem_of_getElem? (i := 889) (by decide +kernel), List.mem_of_getElem? (i := 890) (by decide +kernel)⟩
def lw_privs_6 : List (MethodName × Nat) := [(⟨"ThreadedArchiveModel", "noMessage", "(I)Z"⟩, 28), (⟨"ThreadedArchiveModel", "fault", "(I)I"⟩, 28), (⟨"ThreadedArchiveModel", "nextState", "(IIII)I"⟩, 28), (⟨"ThreadedArchiveModel", "term", "(II)I"⟩, 28), (⟨"ThreadedArchiveModel", "withTag", "(I)I"⟩, 28), (⟨"ThreadedArchiveModel", "one", "(I)V"⟩, 28), (⟨"ThreadedArchiveModel", "present", "()I"⟩, 28), (⟨"ThreadedArchiveModel", "withWord", "(JZI)I"⟩, 28), (⟨"ThreadedArchiveModel", "sign", "(I)V"⟩, 28), (⟨"ThreadedArchiveModel", "reduce", "(Z)V"⟩, 28), (⟨"ThreadedArchiveModel", "linkAll", "()V"⟩, 28), (⟨"ThreadedArchiveModel", "addedAfter", "(I)I"⟩, 28), (⟨"ThreadedArchiveModel", "ring", "(II)Z"⟩, 28), (⟨"ThreadedArchiveModel", "top", "(I)I"⟩, 28), (⟨"ThreadedArchiveModel", "withId", "(I)I"⟩, 28), (⟨"ThreadedArchiveModel", "roots", "()I"⟩, 28)]
theorem lw_r6 : ∀ q ∈ lw_privs_6, lw_okq q := List.forall_mem_cons.mpr ⟨lw_p80, List.forall_mem_cons.mpr ⟨lw_p81, List.forall_mem_cons.mpr ⟨lw_p82, List.forall_mem_cons.mpr ⟨lw_p83, List.forall_mem_cons.mpr ⟨lw_p84, List.forall_mem_cons.mpr ⟨lw_p85, List.forall_mem_cons.mpr ⟨lw_p86, List.forall_mem_cons.mpr ⟨lw_p87, List.forall_mem_cons.mpr ⟨lw_p88, List.forall_mem_cons.mpr ⟨lw_p89, List.forall_mem_cons.mpr ⟨lw_p90, List.forall_mem_cons.mpr ⟨lw_p91, List.forall_mem_cons.mpr ⟨lw_p92, List.forall_mem_cons.mpr ⟨lw_p93, List.forall_mem_cons.mpr ⟨lw_p94, List.forall_mem_cons.mpr ⟨lw_p95, fun _ h => absurd h List.not_mem_nil⟩⟩⟩⟩⟩⟩⟩⟩⟩⟩⟩⟩⟩⟩⟩⟩
theorem lw_p96 : lw_okq (⟨"ThreadedArchiveModel", "different", "()I"⟩, 28) := ⟨⟨by decide +kernel, by decide +kernel⟩, List.mem_of_getElem? (i := 594) (by decide +kernel), List.mem_of_getElem? (i := 893) (by decide +kernel), List.mem_of_getElem? (i := 894) (by decide +kernel)⟩
theorem lw_p97 : lw_okq (⟨"ThreadedArchiveModel", "fresh", "(II)Z"⟩, 28) := ⟨⟨by decide +kernel, by decide +kernel⟩, List.mem_of_getElem? (i := 594) (by decide +kernel), List.mem_of_getElem? (i := 897) (by decide +kernel), List.mem_of_getElem? (i := 898) (by decide +kernel)⟩
def lw_privs_7 : List (MethodName × Nat) := [(⟨"ThreadedArchiveModel", "different", "()I"⟩, 28), (⟨"ThreadedArchiveModel", "fresh", "(II)Z"⟩, 28)]
theorem lw_r7 : ∀ q ∈ lw_privs_7, lw_okq q := List.forall_mem_cons.mpr ⟨lw_p96, List.forall_mem_cons.mpr ⟨lw_p97, fun _ h => absurd h List.not_mem_nil⟩⟩
def lw_privs : List (MethodName × Nat) := lw_privs_1 ++ (lw_privs_2 ++ (lw_privs_3 ++ (lw_privs_4 ++ (lw_privs_5 ++ (lw_privs_6 ++ (lw_privs_7))))))
def lw_tbl : List Cond := k2_sels lw_privs ++ tables_1
theorem lw_privs_ok : ∀ q ∈ lw_privs, lw_okq q := by
  show ∀ q ∈ lw_privs_1 ++ (lw_privs_2 ++ (lw_privs_3 ++ (lw_privs_4 ++ (lw_privs_5 ++ (lw_privs_6 ++ (lw_privs_7)))))), lw_okq q
  exact List.forall_mem_append.mpr ⟨lw_r1, List.forall_mem_append.mpr ⟨lw_r2, List.forall_mem_append.mpr ⟨lw_r3, List.forall_mem_append.mpr ⟨lw_r4, List.forall_mem_append.mpr ⟨lw_r5, List.forall_mem_append.mpr ⟨lw_r6, lw_r7⟩⟩⟩⟩⟩⟩
-- ===== end of PART A =====
end
section
def R_Arc : String := "ThreadedArchive"
def R_Draft : String := "ThreadedArchive$Draft"
def R_Letters : String := "ThreadedArchive$Letters"
def R_Line : String := "ThreadedArchive$Line"
def R_Message : String := "ThreadedArchive$Message"
def R_Reader : String := "ThreadedArchive$PartReader"
def R_Query : String := "ThreadedArchive$Query"
def R_Threads : String := "ThreadedArchive$Threads"
def R_Mod : String := "ThreadedArchiveModel"
def R_Law : String := "ThreadedArchiveLaw"
def R_Integer : String := "java/lang/Integer"
def R_Long : String := "java/lang/Long"
def R_Math : String := "java/lang/Math"
def R_System : String := "java/lang/System"
def R_Object : String := "java/lang/Object"
def F_Arc : u_T := fun k => match k with
  | 0 => ("ThreadedArchive", "line", "LThreadedArchive$Line;", true)
  | 1 => ("ThreadedArchive", "draft", "LThreadedArchive$Draft;", true)
  | 2 => ("ThreadedArchive", "reader", "LThreadedArchive$PartReader;", true)
  | 3 => ("ThreadedArchive", "threads", "LThreadedArchive$Threads;", true)
  | 4 => ("ThreadedArchive", "query", "LThreadedArchive$Query;", true)
  | 5 => ("ThreadedArchive", "messages", "[LThreadedArchive$Message;", true)
  | 6 => ("ThreadedArchive", "order", "[I", true)
  | 7 => ("ThreadedArchive", "messageCount", "I", false)
  | 8 => ("ThreadedArchive", "found", "I", false)
  | _ => ("ThreadedArchive", "errorPlace", "I", false)
def t_Arc : Nat → FieldType := fun k => match k with
  | 0 => (.object "ThreadedArchive$Line")
  | 1 => (.object "ThreadedArchive$Draft")
  | 2 => (.object "ThreadedArchive$PartReader")
  | 3 => (.object "ThreadedArchive$Threads")
  | 4 => (.object "ThreadedArchive$Query")
  | 5 => .array (.object "ThreadedArchive$Message")
  | 6 => .array .int
  | 7 => .int
  | 8 => .int
  | _ => .int
theorem n_Arc : ∀ a, a < 10 → ∀ b, b < 10 → a ≠ b → (F_Arc a).2.1 ≠ (F_Arc b).2.1 := by decide +kernel
theorem t_Arc_ok : ∀ k, k < 10 → parseFieldDescriptor (F_Arc k).2.2.1 = some (t_Arc k) := by decide +kernel
def F_Line : u_T := fun k => match k with
  | 0 => ("ThreadedArchive$Line", "characters", "[C", true)
  | _ => ("ThreadedArchive$Line", "length", "I", false)
def t_Line : Nat → FieldType := fun k => match k with
  | 0 => .array .char
  | _ => .int
theorem n_Line : ∀ a, a < 2 → ∀ b, b < 2 → a ≠ b → (F_Line a).2.1 ≠ (F_Line b).2.1 := by decide +kernel
theorem t_Line_ok : ∀ k, k < 2 → parseFieldDescriptor (F_Line k).2.2.1 = some (t_Line k) := by decide +kernel
def F_Draft : u_T := fun k => match k with
  | 0 => ("ThreadedArchive$Draft", "lines", "[LThreadedArchive$Line;", true)
  | _ => ("ThreadedArchive$Draft", "size", "I", false)
def t_Draft : Nat → FieldType := fun k => match k with
  | 0 => .array (.object "ThreadedArchive$Line")
  | _ => .int
theorem n_Draft : ∀ a, a < 2 → ∀ b, b < 2 → a ≠ b → (F_Draft a).2.1 ≠ (F_Draft b).2.1 := by decide +kernel
theorem t_Draft_ok : ∀ k, k < 2 → parseFieldDescriptor (F_Draft k).2.2.1 = some (t_Draft k) := by decide +kernel
def F_Letters : u_T := fun k => match k with
  | 0 => ("ThreadedArchive$Letters", "code", "J", false)
  | _ => ("ThreadedArchive$Letters", "number", "I", false)
def t_Letters : Nat → FieldType := fun k => match k with
  | 0 => .long
  | _ => .int
theorem n_Letters : ∀ a, a < 2 → ∀ b, b < 2 → a ≠ b → (F_Letters a).2.1 ≠ (F_Letters b).2.1 := by decide +kernel
theorem t_Letters_ok : ∀ k, k < 2 → parseFieldDescriptor (F_Letters k).2.2.1 = some (t_Letters k) := by decide +kernel
def F_Message : u_T := fun k => match k with
  | 0 => ("ThreadedArchive$Message", "references", "[I", true)
  | 1 => ("ThreadedArchive$Message", "codes", "[J", true)
  | 2 => ("ThreadedArchive$Message", "fields", "[I", true)
  | 3 => ("ThreadedArchive$Message", "there", "Z", false)
  | 4 => ("ThreadedArchive$Message", "id", "I", false)
  | 5 => ("ThreadedArchive$Message", "referenceCount", "I", false)
  | 6 => ("ThreadedArchive$Message", "wordCount", "I", false)
  | 7 => ("ThreadedArchive$Message", "leaves", "I", false)
  | _ => ("ThreadedArchive$Message", "tags", "I", false)
def t_Message : Nat → FieldType := fun k => match k with
  | 0 => .array .int
  | 1 => .array .long
  | 2 => .array .int
  | 3 => .boolean
  | 4 => .int
  | 5 => .int
  | 6 => .int
  | 7 => .int
  | _ => .int
theorem n_Message : ∀ a, a < 9 → ∀ b, b < 9 → a ≠ b → (F_Message a).2.1 ≠ (F_Message b).2.1 := by decide +kernel
theorem t_Message_ok : ∀ k, k < 9 → parseFieldDescriptor (F_Message k).2.2.1 = some (t_Message k) := by decide +kernel
def F_Reader : u_T := fun k => match k with
  | 0 => ("ThreadedArchive$PartReader", "letters", "LThreadedArchive$Letters;", true)
  | _ => ("ThreadedArchive$PartReader", "decoded", "LThreadedArchive$Line;", true)
def t_Reader : Nat → FieldType := fun k => match k with
  | 0 => (.object "ThreadedArchive$Letters")
  | _ => (.object "ThreadedArchive$Line")
theorem n_Reader : ∀ a, a < 2 → ∀ b, b < 2 → a ≠ b → (F_Reader a).2.1 ≠ (F_Reader b).2.1 := by decide +kernel
theorem t_Reader_ok : ∀ k, k < 2 → parseFieldDescriptor (F_Reader k).2.2.1 = some (t_Reader k) := by decide +kernel
def F_Threads : u_T := fun k => match k with
  | _ => ("ThreadedArchive$Threads", "parents", "[I", true)
def t_Threads : Nat → FieldType := fun k => match k with
  | _ => .array .int
theorem n_Threads : ∀ a, a < 1 → ∀ b, b < 1 → a ≠ b → (F_Threads a).2.1 ≠ (F_Threads b).2.1 := by decide +kernel
theorem t_Threads_ok : ∀ k, k < 1 → parseFieldDescriptor (F_Threads k).2.2.1 = some (t_Threads k) := by decide +kernel
def F_Query : u_T := fun k => match k with
  | 0 => ("ThreadedArchive$Query", "any", "[I", true)
  | 1 => ("ThreadedArchive$Query", "all", "[I", true)
  | 2 => ("ThreadedArchive$Query", "isNegated", "[Z", true)
  | 3 => ("ThreadedArchive$Query", "letters", "LThreadedArchive$Letters;", true)
  | 4 => ("ThreadedArchive$Query", "level", "I", false)
  | 5 => ("ThreadedArchive$Query", "state", "I", false)
  | _ => ("ThreadedArchive$Query", "inField", "I", false)
def t_Query : Nat → FieldType := fun k => match k with
  | 0 => .array .int
  | 1 => .array .int
  | 2 => .array .boolean
  | 3 => (.object "ThreadedArchive$Letters")
  | 4 => .int
  | 5 => .int
  | _ => .int
theorem n_Query : ∀ a, a < 7 → ∀ b, b < 7 → a ≠ b → (F_Query a).2.1 ≠ (F_Query b).2.1 := by decide +kernel
theorem t_Query_ok : ∀ k, k < 7 → parseFieldDescriptor (F_Query k).2.2.1 = some (t_Query k) := by decide +kernel
def F_Mod : u_T := fun k => match k with
  | 0 => ("ThreadedArchiveModel", "chars", "[I", true)
  | 1 => ("ThreadedArchiveModel", "lengths", "[I", true)
  | 2 => ("ThreadedArchiveModel", "lines", "I", false)
  | 3 => ("ThreadedArchiveModel", "partFrom", "[I", true)
  | 4 => ("ThreadedArchiveModel", "partTo", "[I", true)
  | 5 => ("ThreadedArchiveModel", "partDepth", "[I", true)
  | 6 => ("ThreadedArchiveModel", "parts", "I", false)
  | 7 => ("ThreadedArchiveModel", "there", "[Z", true)
  | 8 => ("ThreadedArchiveModel", "ids", "[I", true)
  | 9 => ("ThreadedArchiveModel", "order", "[I", true)
  | 10 => ("ThreadedArchiveModel", "added", "I", false)
  | 11 => ("ThreadedArchiveModel", "references", "[I", true)
  | 12 => ("ThreadedArchiveModel", "referenceCount", "[I", true)
  | 13 => ("ThreadedArchiveModel", "tags", "[I", true)
  | 14 => ("ThreadedArchiveModel", "leaves", "[I", true)
  | 15 => ("ThreadedArchiveModel", "words", "[I", true)
  | 16 => ("ThreadedArchiveModel", "codes", "[J", true)
  | 17 => ("ThreadedArchiveModel", "fields", "[I", true)
  | 18 => ("ThreadedArchiveModel", "target", "I", false)
  | 19 => ("ThreadedArchiveModel", "parent", "[I", true)
  | 20 => ("ThreadedArchiveModel", "found", "I", false)
  | 21 => ("ThreadedArchiveModel", "errorAt", "I", false)
  | 22 => ("ThreadedArchiveModel", "sets", "[I", true)
  | 23 => ("ThreadedArchiveModel", "signs", "[I", true)
  | 24 => ("ThreadedArchiveModel", "setCount", "I", false)
  | 25 => ("ThreadedArchiveModel", "signCount", "I", false)
  | 26 => ("ThreadedArchiveModel", "code", "J", false)
  | _ => ("ThreadedArchiveModel", "letters", "I", false)
def t_Mod : Nat → FieldType := fun k => match k with
  | 0 => .array .int
  | 1 => .array .int
  | 2 => .int
  | 3 => .array .int
  | 4 => .array .int
  | 5 => .array .int
  | 6 => .int
  | 7 => .array .boolean
  | 8 => .array .int
  | 9 => .array .int
  | 10 => .int
  | 11 => .array .int
  | 12 => .array .int
  | 13 => .array .int
  | 14 => .array .int
  | 15 => .array .int
  | 16 => .array .long
  | 17 => .array .int
  | 18 => .int
  | 19 => .array .int
  | 20 => .int
  | 21 => .int
  | 22 => .array .int
  | 23 => .array .int
  | 24 => .int
  | 25 => .int
  | 26 => .long
  | _ => .int
theorem n_Mod : ∀ a, a < 28 → ∀ b, b < 28 → a ≠ b → (F_Mod a).2.1 ≠ (F_Mod b).2.1 := by decide +kernel
theorem t_Mod_ok : ∀ k, k < 28 → parseFieldDescriptor (F_Mod k).2.2.1 = some (t_Mod k) := by decide +kernel
abbrev classes : List vw_C := [(R_Arc, F_Arc, 10), (R_Line, F_Line, 2), (R_Draft, F_Draft, 2), (R_Letters, F_Letters, 2), (R_Message, F_Message, 9), (R_Reader, F_Reader, 2), (R_Threads, F_Threads, 1), (R_Query, F_Query, 7), (R_Mod, F_Mod, 28)]
def m_TY : List FieldType := [.int, .char, .long, .boolean, .object "ThreadedArchive$Line", .object "ThreadedArchive$Message"]
def m_AO : List String := [R_Line, R_Message]
theorem ao_Line : R_Line ∈ m_AO := List.mem_cons_self
theorem ao_Message : R_Message ∈ m_AO := List.mem_cons_of_mem _ List.mem_cons_self
def m_TB : List Cond := lw_tbl.filter goodWord
theorem m_TB_good : m_TB.all goodWord = true := List.all_eq_true.mpr (fun w h => (List.mem_filter.mp h).2)
def m_isNest : Cond → Bool
  | .methodLinkNest .. => true
  | .fieldLinkNest .. => true
  | _ => false
def m_NW : List Cond := tables_1.filter m_isNest
theorem m_NW_nest : m_NW.all m_isNest = true := List.all_eq_true.mpr (fun w h => (List.mem_filter.mp h).2)
theorem m_in_t {w : Cond} (h : w ∈ tables_1) (hg : goodWord w = true) : w ∈ m_TB := List.mem_filter.mpr ⟨List.mem_append_right _ h, hg⟩
theorem m_in_s {q : MethodName × Nat} (h : q ∈ lw_privs) : Cond.selects q.1.cls q.1 q.1 ∈ m_TB := List.mem_filter.mpr ⟨List.mem_append_left _ (List.mem_map.mpr ⟨q, h, rfl⟩), rfl⟩
theorem m_in_n {w : Cond} (h : w ∈ tables_1) (hg : m_isNest w = true) : w ∈ m_NW := List.mem_filter.mpr ⟨h, hg⟩
abbrev b_Arc_init : ByteArray := prog_1_method_1_code
def y_Arc_init : MethodName := ⟨R_Arc, "<init>", "()V"⟩
abbrev b_Line_init : ByteArray := prog_4_method_1_code
def y_Line_init : MethodName := ⟨R_Line, "<init>", "()V"⟩
abbrev b_Draft_init : ByteArray := prog_2_method_1_code
def y_Draft_init : MethodName := ⟨R_Draft, "<init>", "()V"⟩
abbrev b_Reader_init : ByteArray := prog_6_method_1_code
def y_Reader_init : MethodName := ⟨R_Reader, "<init>", "()V"⟩
abbrev b_Letters_init : ByteArray := prog_3_method_1_code
def y_Letters_init : MethodName := ⟨R_Letters, "<init>", "()V"⟩
abbrev b_Threads_init : ByteArray := prog_8_method_1_code
def y_Threads_init : MethodName := ⟨R_Threads, "<init>", "()V"⟩
abbrev b_Threads_clear : ByteArray := prog_8_method_2_code
def y_Threads_clear : MethodName := ⟨R_Threads, "clear", "()V"⟩
abbrev b_Query_init : ByteArray := prog_7_method_1_code
def y_Query_init : MethodName := ⟨R_Query, "<init>", "()V"⟩
abbrev b_Message_init : ByteArray := prog_5_method_1_code
def y_Message_init : MethodName := ⟨R_Message, "<init>", "()V"⟩
abbrev b_Arc_type : ByteArray := prog_1_method_2_code
def y_Arc_type : MethodName := ⟨R_Arc, "type", "(I)I"⟩
abbrev b_Line_put : ByteArray := prog_4_method_2_code
def y_Line_put : MethodName := ⟨R_Line, "put", "(C)Z"⟩
abbrev b_Arc_enter : ByteArray := prog_1_method_3_code
def y_Arc_enter : MethodName := ⟨R_Arc, "enter", "()I"⟩
abbrev b_Draft_take : ByteArray := prog_2_method_2_code
def y_Draft_take : MethodName := ⟨R_Draft, "take", "(LThreadedArchive$Line;)Z"⟩
abbrev b_Line_copyFrom : ByteArray := prog_4_method_4_code
def y_Line_copyFrom : MethodName := ⟨R_Line, "copyFrom", "(LThreadedArchive$Line;)V"⟩
abbrev b_Line_clear : ByteArray := prog_4_method_3_code
def y_Line_clear : MethodName := ⟨R_Line, "clear", "()V"⟩
abbrev b_Arc_wipe : ByteArray := prog_1_method_4_code
def y_Arc_wipe : MethodName := ⟨R_Arc, "wipe", "()I"⟩
abbrev b_Draft_clear : ByteArray := prog_2_method_3_code
def y_Draft_clear : MethodName := ⟨R_Draft, "clear", "()V"⟩
abbrev b_Arc_add : ByteArray := prog_1_method_5_code
def y_Arc_add : MethodName := ⟨R_Arc, "add", "()I"⟩
abbrev b_Arc_numberForDraft : ByteArray := prog_1_method_18_code
def y_Arc_numberForDraft : MethodName := ⟨R_Arc, "numberForDraft", "()I"⟩
abbrev b_Draft_id : ByteArray := prog_2_method_7_code
def y_Draft_id : MethodName := ⟨R_Draft, "id", "()I"⟩
abbrev b_Draft_header : ByteArray := prog_2_method_6_code
def y_Draft_header : MethodName := ⟨R_Draft, "header", "(IIC)LThreadedArchive$Line;"⟩
abbrev b_Draft_headersEnd : ByteArray := prog_2_method_4_code
def y_Draft_headersEnd : MethodName := ⟨R_Draft, "headersEnd", "(II)I"⟩
abbrev b_Line_isHeader : ByteArray := prog_4_method_6_code
def y_Line_isHeader : MethodName := ⟨R_Line, "isHeader", "(C)Z"⟩
abbrev b_Line_at : ByteArray := prog_4_method_5_code
def y_Line_at : MethodName := ⟨R_Line, "at", "(I)I"⟩
abbrev b_Line_idBetween : ByteArray := prog_4_method_9_code
def y_Line_idBetween : MethodName := ⟨R_Line, "idBetween", "(II)I"⟩
abbrev b_Arc_digit : ByteArray := prog_1_method_32_code
def y_Arc_digit : MethodName := ⟨R_Arc, "digit", "(I)I"⟩
abbrev b_Arc_numberWithId : ByteArray := prog_1_method_19_code
def y_Arc_numberWithId : MethodName := ⟨R_Arc, "numberWithId", "(I)I"⟩
abbrev b_Reader_readDraft : ByteArray := prog_6_method_2_code
def y_Reader_readDraft : MethodName := ⟨R_Reader, "readDraft", "(LThreadedArchive$Draft;LThreadedArchive$Message;)V"⟩
abbrev b_Message_begin : ByteArray := prog_5_method_2_code
def y_Message_begin : MethodName := ⟨R_Message, "begin", "(I)V"⟩
abbrev b_Message_setReferences : ByteArray := prog_5_method_3_code
def y_Message_setReferences : MethodName := ⟨R_Message, "setReferences", "(LThreadedArchive$Line;)V"⟩
abbrev b_Message_readReferences : ByteArray := prog_5_method_4_code
def y_Message_readReferences : MethodName := ⟨R_Message, "readReferences", "(LThreadedArchive$Line;)I"⟩
abbrev b_Line_blankFrom : ByteArray := prog_4_method_10_code
def y_Line_blankFrom : MethodName := ⟨R_Line, "blankFrom", "(I)I"⟩
abbrev b_Reader_readHeader : ByteArray := prog_6_method_3_code
def y_Reader_readHeader : MethodName := ⟨R_Reader, "readHeader", "(LThreadedArchive$Line;LThreadedArchive$Message;I)V"⟩
abbrev b_Reader_readLine : ByteArray := prog_6_method_7_code
def y_Reader_readLine : MethodName := ⟨R_Reader, "readLine", "(LThreadedArchive$Line;ILThreadedArchive$Message;I)V"⟩
abbrev b_Arc_letter : ByteArray := prog_1_method_31_code
def y_Arc_letter : MethodName := ⟨R_Arc, "letter", "(I)I"⟩
abbrev b_Arc_smallLetter : ByteArray := prog_1_method_30_code
def y_Arc_smallLetter : MethodName := ⟨R_Arc, "smallLetter", "(I)I"⟩
abbrev b_Letters_put : ByteArray := prog_3_method_3_code
def y_Letters_put : MethodName := ⟨R_Letters, "put", "(I)V"⟩
abbrev b_Message_takeWord : ByteArray := prog_5_method_5_code
def y_Message_takeWord : MethodName := ⟨R_Message, "takeWord", "(LThreadedArchive$Letters;I)V"⟩
abbrev b_Letters_clear : ByteArray := prog_3_method_2_code
def y_Letters_clear : MethodName := ⟨R_Letters, "clear", "()V"⟩
abbrev b_Reader_readPart : ByteArray := prog_6_method_4_code
def y_Reader_readPart : MethodName := ⟨R_Reader, "readPart", "(LThreadedArchive$Draft;IIILThreadedArchive$Message;)V"⟩
abbrev b_Draft_bodyStart : ByteArray := prog_2_method_5_code
def y_Draft_bodyStart : MethodName := ⟨R_Draft, "bodyStart", "(II)I"⟩
abbrev b_Math_min : ByteArray := prog_13_method_69_code
def y_Math_min : MethodName := ⟨R_Math, "min", "(II)I"⟩
abbrev b_Reader_readMulti : ByteArray := prog_6_method_5_code
def y_Reader_readMulti : MethodName := ⟨R_Reader, "readMulti", "(LThreadedArchive$Draft;IIILThreadedArchive$Message;I)V"⟩
abbrev b_Draft_closingPlace : ByteArray := prog_2_method_8_code
def y_Draft_closingPlace : MethodName := ⟨R_Draft, "closingPlace", "(III)I"⟩
abbrev b_Line_isClosing : ByteArray := prog_4_method_8_code
def y_Line_isClosing : MethodName := ⟨R_Line, "isClosing", "(I)Z"⟩
abbrev b_Line_isCut : ByteArray := prog_4_method_7_code
def y_Line_isCut : MethodName := ⟨R_Line, "isCut", "(I)Z"⟩
abbrev b_Reader_readLeaf : ByteArray := prog_6_method_6_code
def y_Reader_readLeaf : MethodName := ⟨R_Reader, "readLeaf", "(LThreadedArchive$Draft;IILThreadedArchive$Line;LThreadedArchive$Message;)V"⟩
abbrev b_Reader_decode : ByteArray := prog_6_method_8_code
def y_Reader_decode : MethodName := ⟨R_Reader, "decode", "(LThreadedArchive$Line;)LThreadedArchive$Line;"⟩
abbrev b_Arc_hexDigit : ByteArray := prog_1_method_33_code
def y_Arc_hexDigit : MethodName := ⟨R_Arc, "hexDigit", "(I)I"⟩
abbrev b_Arc_rejoinThreads : ByteArray := prog_1_method_22_code
def y_Arc_rejoinThreads : MethodName := ⟨R_Arc, "rejoinThreads", "()V"⟩
abbrev b_Threads_join : ByteArray := prog_8_method_3_code
def y_Threads_join : MethodName := ⟨R_Threads, "join", "(LThreadedArchive$Message;)V"⟩
abbrev b_Threads_setParent : ByteArray := prog_8_method_4_code
def y_Threads_setParent : MethodName := ⟨R_Threads, "setParent", "(II)V"⟩
abbrev b_Threads_makesRing : ByteArray := prog_8_method_5_code
def y_Threads_makesRing : MethodName := ⟨R_Threads, "makesRing", "(II)Z"⟩
abbrev b_Arc_drop : ByteArray := prog_1_method_6_code
def y_Arc_drop : MethodName := ⟨R_Arc, "drop", "(I)I"⟩
abbrev b_Arc_messageAt : ByteArray := prog_1_method_20_code
def y_Arc_messageAt : MethodName := ⟨R_Arc, "messageAt", "(I)LThreadedArchive$Message;"⟩
abbrev b_Arc_removeFromOrder : ByteArray := prog_1_method_21_code
def y_Arc_removeFromOrder : MethodName := ⟨R_Arc, "removeFromOrder", "(I)V"⟩
abbrev b_Arc_tag : ByteArray := prog_1_method_7_code
def y_Arc_tag : MethodName := ⟨R_Arc, "tag", "(IIZ)I"⟩
abbrev b_Message_setTag : ByteArray := prog_5_method_8_code
def y_Message_setTag : MethodName := ⟨R_Message, "setTag", "(IZ)V"⟩
abbrev b_Arc_search : ByteArray := prog_1_method_8_code
def y_Arc_search : MethodName := ⟨R_Arc, "search", "()I"⟩
abbrev b_Query_read : ByteArray := prog_7_method_2_code
def y_Query_read : MethodName := ⟨R_Query, "read", "(LThreadedArchive$Line;[LThreadedArchive$Message;)I"⟩
abbrev b_Query_beginLevel : ByteArray := prog_7_method_4_code
def y_Query_beginLevel : MethodName := ⟨R_Query, "beginLevel", "()V"⟩
abbrev b_Query_beginOne : ByteArray := prog_7_method_5_code
def y_Query_beginOne : MethodName := ⟨R_Query, "beginOne", "()V"⟩
abbrev b_Query_readCharacter : ByteArray := prog_7_method_6_code
def y_Query_readCharacter : MethodName := ⟨R_Query, "readCharacter", "(I[LThreadedArchive$Message;)Z"⟩
abbrev b_Query_readLetter : ByteArray := prog_7_method_7_code
def y_Query_readLetter : MethodName := ⟨R_Query, "readLetter", "(I)Z"⟩
abbrev b_Query_readNot : ByteArray := prog_7_method_8_code
def y_Query_readNot : MethodName := ⟨R_Query, "readNot", "(I)Z"⟩
abbrev b_Query_readOpening : ByteArray := prog_7_method_9_code
def y_Query_readOpening : MethodName := ⟨R_Query, "readOpening", "(I)Z"⟩
abbrev b_Query_readColon : ByteArray := prog_7_method_10_code
def y_Query_readColon : MethodName := ⟨R_Query, "readColon", "(I)Z"⟩
abbrev b_Query_fieldNamed : ByteArray := prog_7_method_11_code
def y_Query_fieldNamed : MethodName := ⟨R_Query, "fieldNamed", "(J)I"⟩
abbrev b_Query_readBehindWord : ByteArray := prog_7_method_12_code
def y_Query_readBehindWord : MethodName := ⟨R_Query, "readBehindWord", "(I[LThreadedArchive$Message;)Z"⟩
abbrev b_Query_endWord : ByteArray := prog_7_method_14_code
def y_Query_endWord : MethodName := ⟨R_Query, "endWord", "([LThreadedArchive$Message;Z)V"⟩
abbrev b_Message_hasMatch : ByteArray := prog_5_method_10_code
def y_Message_hasMatch : MethodName := ⟨R_Message, "hasMatch", "(JZI)Z"⟩
abbrev b_Message_beginsWith : ByteArray := prog_5_method_11_code
def y_Message_beginsWith : MethodName := ⟨R_Message, "beginsWith", "(JJ)Z"⟩
abbrev b_Query_endOne : ByteArray := prog_7_method_15_code
def y_Query_endOne : MethodName := ⟨R_Query, "endOne", "(I)V"⟩
abbrev b_Query_readBehindOne : ByteArray := prog_7_method_16_code
def y_Query_readBehindOne : MethodName := ⟨R_Query, "readBehindOne", "(I)Z"⟩
abbrev b_Query_readClosing : ByteArray := prog_7_method_17_code
def y_Query_readClosing : MethodName := ⟨R_Query, "readClosing", "()Z"⟩
abbrev b_Query_readTag : ByteArray := prog_7_method_13_code
def y_Query_readTag : MethodName := ⟨R_Query, "readTag", "(I[LThreadedArchive$Message;)Z"⟩
abbrev b_Message_hasTag : ByteArray := prog_5_method_9_code
def y_Message_hasTag : MethodName := ⟨R_Message, "hasTag", "(I)Z"⟩
abbrev b_Query_holding : ByteArray := prog_7_method_3_code
def y_Query_holding : MethodName := ⟨R_Query, "holding", "()I"⟩
abbrev b_Arc_numbersThere : ByteArray := prog_1_method_23_code
def y_Arc_numbersThere : MethodName := ⟨R_Arc, "numbersThere", "()I"⟩
abbrev b_Integer_bitCount : ByteArray := prog_11_method_49_code
def y_Integer_bitCount : MethodName := ⟨R_Integer, "bitCount", "(I)I"⟩
abbrev b_Arc_errorAt : ByteArray := prog_1_method_9_code
def y_Arc_errorAt : MethodName := ⟨R_Arc, "errorAt", "()I"⟩
abbrev b_Arc_hit : ByteArray := prog_1_method_10_code
def y_Arc_hit : MethodName := ⟨R_Arc, "hit", "(I)I"⟩
abbrev b_Arc_numberInSet : ByteArray := prog_1_method_26_code
def y_Arc_numberInSet : MethodName := ⟨R_Arc, "numberInSet", "(II)I"⟩
abbrev b_Arc_related : ByteArray := prog_1_method_11_code
def y_Arc_related : MethodName := ⟨R_Arc, "related", "(I)I"⟩
abbrev b_Arc_rootsOf : ByteArray := prog_1_method_24_code
def y_Arc_rootsOf : MethodName := ⟨R_Arc, "rootsOf", "(I)J"⟩
abbrev b_Arc_rootBit : ByteArray := prog_1_method_25_code
def y_Arc_rootBit : MethodName := ⟨R_Arc, "rootBit", "(LThreadedArchive$Message;)J"⟩
abbrev b_Threads_topOf : ByteArray := prog_8_method_7_code
def y_Threads_topOf : MethodName := ⟨R_Threads, "topOf", "(I)I"⟩
abbrev b_Arc_idOf : ByteArray := prog_1_method_12_code
def y_Arc_idOf : MethodName := ⟨R_Arc, "idOf", "(I)I"⟩
abbrev b_Arc_answers : ByteArray := prog_1_method_13_code
def y_Arc_answers : MethodName := ⟨R_Arc, "answers", "(I)I"⟩
abbrev b_Threads_parentOf : ByteArray := prog_8_method_6_code
def y_Threads_parentOf : MethodName := ⟨R_Threads, "parentOf", "(I)I"⟩
abbrev b_Arc_root : ByteArray := prog_1_method_14_code
def y_Arc_root : MethodName := ⟨R_Arc, "root", "(I)I"⟩
abbrev b_Arc_word : ByteArray := prog_1_method_15_code
def y_Arc_word : MethodName := ⟨R_Arc, "word", "(II)J"⟩
abbrev b_Message_hasWord : ByteArray := prog_5_method_6_code
def y_Message_hasWord : MethodName := ⟨R_Message, "hasWord", "(I)Z"⟩
abbrev b_Arc_field : ByteArray := prog_1_method_16_code
def y_Arc_field : MethodName := ⟨R_Arc, "field", "(II)I"⟩
abbrev b_Arc_count : ByteArray := prog_1_method_17_code
def y_Arc_count : MethodName := ⟨R_Arc, "count", "(I)I"⟩
abbrev b_Long_bitCount : ByteArray := prog_12_method_50_code
def y_Long_bitCount : MethodName := ⟨R_Long, "bitCount", "(J)I"⟩
abbrev b_Arc_differentCodes : ByteArray := prog_1_method_28_code
def y_Arc_differentCodes : MethodName := ⟨R_Arc, "differentCodes", "()I"⟩
abbrev b_Message_hasCodeBefore : ByteArray := prog_5_method_7_code
def y_Message_hasCodeBefore : MethodName := ⟨R_Message, "hasCodeBefore", "(IJ)Z"⟩
abbrev b_Arc_isCodeEarlier : ByteArray := prog_1_method_29_code
def y_Arc_isCodeEarlier : MethodName := ⟨R_Arc, "isCodeEarlier", "(IJ)Z"⟩
abbrev b_Arc_leavesOf : ByteArray := prog_1_method_27_code
def y_Arc_leavesOf : MethodName := ⟨R_Arc, "leavesOf", "(I)I"⟩
abbrev b_Mod_init : ByteArray := prog_10_method_1_code
def y_Mod_init : MethodName := ⟨R_Mod, "<init>", "()V"⟩
abbrev b_Mod_type : ByteArray := prog_10_method_5_code
def y_Mod_type : MethodName := ⟨R_Mod, "type", "(I)I"⟩
abbrev b_Mod_out : ByteArray := prog_10_method_2_code
def y_Mod_out : MethodName := ⟨R_Mod, "out", "(II)Z"⟩
abbrev b_Mod_enter : ByteArray := prog_10_method_6_code
def y_Mod_enter : MethodName := ⟨R_Mod, "enter", "()I"⟩
abbrev b_Mod_at : ByteArray := prog_10_method_4_code
def y_Mod_at : MethodName := ⟨R_Mod, "at", "(II)I"⟩
abbrev b_Mod_wipe : ByteArray := prog_10_method_7_code
def y_Mod_wipe : MethodName := ⟨R_Mod, "wipe", "()I"⟩
abbrev b_Mod_add : ByteArray := prog_10_method_22_code
def y_Mod_add : MethodName := ⟨R_Mod, "add", "()I"⟩
abbrev b_Mod_header : ByteArray := prog_10_method_9_code
def y_Mod_header : MethodName := ⟨R_Mod, "header", "(III)I"⟩
abbrev b_Mod_emptyLine : ByteArray := prog_10_method_8_code
def y_Mod_emptyLine : MethodName := ⟨R_Mod, "emptyLine", "(II)I"⟩
abbrev b_Mod_number : ByteArray := prog_10_method_19_code
def y_Mod_number : MethodName := ⟨R_Mod, "number", "(III)I"⟩
abbrev b_Mod_fill : ByteArray := prog_10_method_21_code
def y_Mod_fill : MethodName := ⟨R_Mod, "fill", "(III)V"⟩
abbrev b_Mod_readReferences : ByteArray := prog_10_method_20_code
def y_Mod_readReferences : MethodName := ⟨R_Mod, "readReferences", "(II)V"⟩
abbrev b_Mod_collect : ByteArray := prog_10_method_17_code
def y_Mod_collect : MethodName := ⟨R_Mod, "collect", "(III)V"⟩
abbrev b_Mod_letter : ByteArray := prog_10_method_16_code
def y_Mod_letter : MethodName := ⟨R_Mod, "letter", "(II)V"⟩
abbrev b_Mod_push : ByteArray := prog_10_method_12_code
def y_Mod_push : MethodName := ⟨R_Mod, "push", "(III)V"⟩
abbrev b_Mod_takePart : ByteArray := prog_10_method_13_code
def y_Mod_takePart : MethodName := ⟨R_Mod, "takePart", "()V"⟩
abbrev b_Mod_leaf : ByteArray := prog_10_method_15_code
def y_Mod_leaf : MethodName := ⟨R_Mod, "leaf", "(III)V"⟩
abbrev b_Mod_collectCoded : ByteArray := prog_10_method_18_code
def y_Mod_collectCoded : MethodName := ⟨R_Mod, "collectCoded", "(I)V"⟩
abbrev b_Mod_hex : ByteArray := prog_10_method_14_code
def y_Mod_hex : MethodName := ⟨R_Mod, "hex", "(I)I"⟩
abbrev b_Mod_closes : ByteArray := prog_10_method_11_code
def y_Mod_closes : MethodName := ⟨R_Mod, "closes", "(II)Z"⟩
abbrev b_Mod_cuts : ByteArray := prog_10_method_10_code
def y_Mod_cuts : MethodName := ⟨R_Mod, "cuts", "(II)Z"⟩
abbrev b_Mod_drop : ByteArray := prog_10_method_23_code
def y_Mod_drop : MethodName := ⟨R_Mod, "drop", "(I)I"⟩
abbrev b_Mod_noMessage : ByteArray := prog_10_method_3_code
def y_Mod_noMessage : MethodName := ⟨R_Mod, "noMessage", "(I)Z"⟩
abbrev b_Mod_tag : ByteArray := prog_10_method_24_code
def y_Mod_tag : MethodName := ⟨R_Mod, "tag", "(IIZ)I"⟩
abbrev b_Mod_search : ByteArray := prog_10_method_42_code
def y_Mod_search : MethodName := ⟨R_Mod, "search", "()I"⟩
abbrev b_Mod_fault : ByteArray := prog_10_method_32_code
def y_Mod_fault : MethodName := ⟨R_Mod, "fault", "(I)I"⟩
abbrev b_Mod_nextState : ByteArray := prog_10_method_31_code
def y_Mod_nextState : MethodName := ⟨R_Mod, "nextState", "(IIII)I"⟩
abbrev b_Mod_isLetter : ByteArray := prog_10_method_30_code
def y_Mod_isLetter : MethodName := ⟨R_Mod, "isLetter", "(I)Z"⟩
abbrev b_Mod_term : ByteArray := prog_10_method_41_code
def y_Mod_term : MethodName := ⟨R_Mod, "term", "(II)I"⟩
abbrev b_Mod_withTag : ByteArray := prog_10_method_37_code
def y_Mod_withTag : MethodName := ⟨R_Mod, "withTag", "(I)I"⟩
abbrev b_Mod_one : ByteArray := prog_10_method_38_code
def y_Mod_one : MethodName := ⟨R_Mod, "one", "(I)V"⟩
abbrev b_Mod_present : ByteArray := prog_10_method_33_code
def y_Mod_present : MethodName := ⟨R_Mod, "present", "()I"⟩
abbrev b_Mod_withWord : ByteArray := prog_10_method_36_code
def y_Mod_withWord : MethodName := ⟨R_Mod, "withWord", "(JZI)I"⟩
abbrev b_Mod_begins : ByteArray := prog_10_method_35_code
def y_Mod_begins : MethodName := ⟨R_Mod, "begins", "(JJ)Z"⟩
abbrev b_Mod_lettersOf : ByteArray := prog_10_method_34_code
def y_Mod_lettersOf : MethodName := ⟨R_Mod, "lettersOf", "(J)I"⟩
abbrev b_Mod_sign : ByteArray := prog_10_method_40_code
def y_Mod_sign : MethodName := ⟨R_Mod, "sign", "(I)V"⟩
abbrev b_Mod_reduce : ByteArray := prog_10_method_39_code
def y_Mod_reduce : MethodName := ⟨R_Mod, "reduce", "(Z)V"⟩
abbrev b_Mod_size : ByteArray := prog_10_method_43_code
def y_Mod_size : MethodName := ⟨R_Mod, "size", "(I)I"⟩
abbrev b_Mod_errorAt : ByteArray := prog_10_method_45_code
def y_Mod_errorAt : MethodName := ⟨R_Mod, "errorAt", "()I"⟩
abbrev b_Mod_hit : ByteArray := prog_10_method_46_code
def y_Mod_hit : MethodName := ⟨R_Mod, "hit", "(I)I"⟩
abbrev b_Mod_pick : ByteArray := prog_10_method_44_code
def y_Mod_pick : MethodName := ⟨R_Mod, "pick", "(II)I"⟩
abbrev b_Mod_related : ByteArray := prog_10_method_47_code
def y_Mod_related : MethodName := ⟨R_Mod, "related", "(I)I"⟩
abbrev b_Mod_linkAll : ByteArray := prog_10_method_27_code
def y_Mod_linkAll : MethodName := ⟨R_Mod, "linkAll", "()V"⟩
abbrev b_Mod_addedAfter : ByteArray := prog_10_method_26_code
def y_Mod_addedAfter : MethodName := ⟨R_Mod, "addedAfter", "(I)I"⟩
abbrev b_Mod_ring : ByteArray := prog_10_method_25_code
def y_Mod_ring : MethodName := ⟨R_Mod, "ring", "(II)Z"⟩
abbrev b_Mod_top : ByteArray := prog_10_method_28_code
def y_Mod_top : MethodName := ⟨R_Mod, "top", "(I)I"⟩
abbrev b_Mod_idOf : ByteArray := prog_10_method_48_code
def y_Mod_idOf : MethodName := ⟨R_Mod, "idOf", "(I)I"⟩
abbrev b_Mod_answers : ByteArray := prog_10_method_49_code
def y_Mod_answers : MethodName := ⟨R_Mod, "answers", "(I)I"⟩
abbrev b_Mod_withId : ByteArray := prog_10_method_29_code
def y_Mod_withId : MethodName := ⟨R_Mod, "withId", "(I)I"⟩
abbrev b_Mod_root : ByteArray := prog_10_method_50_code
def y_Mod_root : MethodName := ⟨R_Mod, "root", "(I)I"⟩
abbrev b_Mod_word : ByteArray := prog_10_method_51_code
def y_Mod_word : MethodName := ⟨R_Mod, "word", "(II)J"⟩
abbrev b_Mod_field : ByteArray := prog_10_method_52_code
def y_Mod_field : MethodName := ⟨R_Mod, "field", "(II)I"⟩
abbrev b_Mod_count : ByteArray := prog_10_method_56_code
def y_Mod_count : MethodName := ⟨R_Mod, "count", "(I)I"⟩
abbrev b_Mod_roots : ByteArray := prog_10_method_53_code
def y_Mod_roots : MethodName := ⟨R_Mod, "roots", "()I"⟩
abbrev b_Mod_different : ByteArray := prog_10_method_55_code
def y_Mod_different : MethodName := ⟨R_Mod, "different", "()I"⟩
abbrev b_Mod_fresh : ByteArray := prog_10_method_54_code
def y_Mod_fresh : MethodName := ⟨R_Mod, "fresh", "(II)Z"⟩
end
section
/-! THE LAYER: a heap by small numbers. Cells made since the law's entry stand at B, B + 1, ..; 'g' says what each holds (numbers for references); what isn't made yet is m_dead. -/
abbrev m_E : Type := (Nat × vp_A) ⊕ (Nat × List Value)
abbrev m_G : Type := Nat → m_E
def m_dead : m_E := .inr (99, [])
def m_v (B : Nat) (v : Value) : Value := match v with
  | .ref a => .ref (B + a)
  | v => v
def m_a (B : Nat) (a : vp_A) : vp_A := match a with
  | (k, .inr (.inr (.inr (.inr f)))) => (k, .inr (.inr (.inr (.inr (fun j => (f j).map (fun a => B + a))))))
  | a => a
def m_c (B : Nat) (K : Nat → ClassId) (x : m_E) : va_E := match x with
  | .inl a => .inl (K a.1, m_a B a.2)
  | .inr o => .inr (o.1, o.2.map (m_v B))
def m_ws (B : Nat) (K : Nat → ClassId) (n : Nat) (g : m_G) : va_W := (List.range n).map (fun i => (B + i, m_c B K (g i)))
def m_r (B : Nat) (r : Option Nat) : Value := va_rf (r.map (fun a => B + a))
theorem m_ws_len (B : Nat) (K : Nat → ClassId) (n : Nat) (g : m_G) : (m_ws B K n g).length = n := by simp [m_ws]
theorem m_ws_get {B : Nat} {K : Nat → ClassId} {n : Nat} {g : m_G} {i : Nat} (h : i < n) : (m_ws B K n g)[i]? = some (B + i, m_c B K (g i)) := by
  simp [m_ws, h]
theorem m_ws_inv {B : Nat} {K : Nat → ClassId} {n : Nat} {g : m_G} {i : Nat} {q : Nat × va_E} (h : (m_ws B K n g)[i]? = some q) : i < n ∧ q = (B + i, m_c B K (g i)) := by
  have hi : i < n := by
    have := (List.getElem?_eq_some_iff.mp h).1
    rwa [m_ws_len] at this
  rw [m_ws_get hi] at h
  exact ⟨hi, (Option.some.inj h).symm⟩
theorem m_ws_set {B : Nat} {K : Nat → ClassId} {n : Nat} {g : m_G} {i : Nat} {x : m_E} (h : i < n) : (m_ws B K n g).set i (B + i, m_c B K x) = m_ws B K n (va_up g i x) := by
  apply List.ext_getElem?
  intro j
  rw [List.getElem?_set]
  by_cases hij : i = j
  · subst hij
    rw [if_pos rfl, if_pos (by rw [m_ws_len]; exact h), m_ws_get h]
    simp [va_up]
  · rw [if_neg hij]
    by_cases hj : j < n
    · rw [m_ws_get hj, m_ws_get hj, va_up, if_neg (fun q => hij q.symm)]
    · rw [List.getElem?_eq_none (by rw [m_ws_len]; omega), List.getElem?_eq_none (by rw [m_ws_len]; omega)]
theorem m_ws_push {B : Nat} {K : Nat → ClassId} {n : Nat} {g : m_G} {x : m_E} : m_ws B K n g ++ [(B + n, m_c B K x)] = m_ws B K (n + 1) (va_up g n x) := by
  apply List.ext_getElem?
  intro j
  by_cases hj : j < n
  · rw [List.getElem?_append_left (by rw [m_ws_len]; exact hj), m_ws_get hj, m_ws_get (by omega), va_up, if_neg (by omega)]
  · by_cases hj2 : j = n
    · subst hj2
      rw [List.getElem?_append_right (by rw [m_ws_len]; omega), m_ws_get (by omega), m_ws_len]
      simp [va_up]
    · rw [List.getElem?_eq_none (by rw [List.length_append, m_ws_len]; simp; omega), List.getElem?_eq_none (by rw [m_ws_len]; omega)]
theorem m_ws_D {B : Nat} {K : Nat → ClassId} {n : Nat} {g : m_G} : va_D (fun q => B ≤ q) (m_ws B K n g) := by
  refine ⟨fun i j a b ha hb h => ?_, fun k q hk => ?_⟩
  · obtain ⟨_, rfl⟩ := m_ws_inv ha
    obtain ⟨_, rfl⟩ := m_ws_inv hb
    exact Nat.add_left_cancel h
  · obtain ⟨_, rfl⟩ := m_ws_inv hk
    exact Nat.le_add_right _ _
/-- the tables' words of array classes -/
def m_tys (K : Nat → ClassId) : List (ClassId × FieldType) := (List.range m_TY.length).map (fun i => (K i, m_TY.getD i .int))
theorem m_tys_get {K : Nat → ClassId} {t : Nat} {ty : FieldType} (h : m_TY[t]? = some ty) : (m_tys K)[t]? = some (K t, ty) := by
  have ht := (List.getElem?_eq_some_iff.mp h).1
  simp [m_tys, ht]
  rw [List.getElem?_eq_getElem ht] at h
  exact Option.some.inj h
def m_K (D : va_G) (K : Nat → ClassId) (U : State) : Prop := va_K D classes (m_tys K) U ∧ (∀ w ∈ m_NW, va_Nw w U) ∧ ∀ C ∈ m_AO, va_AO C U
theorem m_K.warm {D : va_G} {K : Nat → ClassId} {s U : State} (hW : s.WarmedH U.vm) (h : m_K D K s) : m_K D K U := by
  refine ⟨va_K.moved hW.alike h.1, fun w hw => ?_, fun C hC => (h.2.2 C hC).moved hW.alike⟩
  have hz := h.2.1 w hw
  have hn := List.all_eq_true.mp m_NW_nest w hw
  cases w <;> first | exact va_Nw.warmM hW hz | exact va_Nw.warmF hW hz | (simp [m_isNest] at hn; done)
theorem m_K.same {D : va_G} {K : Nat → ClassId} {s U : State} (hv : s.vm = U.vm) (h : m_K D K s) : m_K D K U := by
  have hA : s.vm.Alike U.vm := by rw [hv]; exact Vm.Alike.refl U.vm
  refine ⟨va_K.moved hA h.1, fun w hw => ?_, fun C hC => (h.2.2 C hC).moved hA⟩
  have hz := h.2.1 w hw
  have hn := List.all_eq_true.mp m_NW_nest w hw
  cases w <;> first | exact va_Nw.same rfl hv hz | (simp [m_isNest] at hn; done)
/-- the world: where the cells are, and that nothing below B has changed -/
def m_S (D : va_G) (B : Nat) (K : Nat → ClassId) (n : Nat) (g : m_G) (H0 H : Heap) (locs : List Loc) : Prop :=
  va_P D classes (m_ws B K n g) H ∧ va_S (fun q => B ≤ q) H0 H locs ∧ (∀ i, n ≤ i → g i = m_dead) ∧ B ≤ H0.size
def m_V (p : Program) (m : MethodId) (c : Code) (cc : ByteArray) (nL : Nat) (s : State) (args : Array Value) (own : String) (D : va_G) (K : Nat → ClassId) : Prop :=
  CallFix p m c cc nL s args m_TB own ∧ m_K D K s
def m_Pc (D : va_G) (B : Nat) (K : Nat → ClassId) (n : Nat) (g : m_G) (av : List Value) : Array Value → State → Prop := fun a U =>
  a = av.toArray ∧ U.heap.size = B + n ∧ va_P D classes (m_ws B K n g) U.heap ∧ m_K D K U ∧ ∀ i, n ≤ i → g i = m_dead
def m_Q (D : va_G) (B : Nat) (K : Nat → ClassId) (v : Option Value) (n : Nat) (g : m_G) : Array Value → State → Outcome → State → Prop := fun _ st o t =>
  o = .returned v ∧ t.heap.size = B + n ∧ va_P D classes (m_ws B K n g) t.heap ∧ va_F (fun q => B ≤ q) st t ∧ ∀ i, n ≤ i → g i = m_dead
-- what the heap's cells say
def m_asI (v : Value) : Option Int32 := match v with
  | .int x => some x
  | _ => none
def m_asL (v : Value) : Option Int64 := match v with
  | .long x => some x
  | _ => none
def m_asR (v : Value) : Option (Option Nat) := match v with
  | .ref a => some (some a)
  | .null => some none
  | _ => none
def m_gf (g : m_G) (a ci k : Nat) : Option Value := match g a with
  | .inr (c, fs) => if c = ci then fs[k]? else none
  | .inl _ => none
def m_gI (g : m_G) (a ci k : Nat) : Option Int32 := (m_gf g a ci k).bind m_asI
def m_gL (g : m_G) (a ci k : Nat) : Option Int64 := (m_gf g a ci k).bind m_asL
def m_gR (g : m_G) (a ci k : Nat) : Option (Option Nat) := (m_gf g a ci k).bind m_asR
def m_pf (g : m_G) (a ci k : Nat) (v : Value) : Option m_G := match g a with
  | .inr (c, fs) => if c = ci ∧ k < fs.length then some (va_up g a (.inr (c, fs.set k v))) else none
  | .inl _ => none
def m_pI (g : m_G) (a ci k : Nat) (x : Int32) : Option m_G := m_pf g a ci k (.int x)
def m_pL (g : m_G) (a ci k : Nat) (x : Int64) : Option m_G := m_pf g a ci k (.long x)
def m_pZ (g : m_G) (a ci k : Nat) (x : Int32) : Option m_G := if x = 0 ∨ x = 1 then m_pf g a ci k (.int x) else none
def m_rv (r : Option Nat) : Value := match r with
  | some a => .ref a
  | none => .null
def m_pR (g : m_G) (a ci k : Nat) (r : Option Nat) : Option m_G := m_pf g a ci k (m_rv r)
def m_in (i : Int32) (len : Nat) : Bool := decide (0 ≤ i) && decide (i.toNatClampNeg < len)
def m_ld (g : m_G) (a t : Nat) (i : Int32) : Option Int32 := match g a with
  | .inl (t', len, .inl f) => if t' = t ∧ m_in i len = true then some (f i.toNatClampNeg) else none
  | _ => none
def m_ldL (g : m_G) (a t : Nat) (i : Int32) : Option Int64 := match g a with
  | .inl (t', len, .inr (.inl f)) => if t' = t ∧ m_in i len = true then some (f i.toNatClampNeg) else none
  | _ => none
def m_ldR (g : m_G) (a t : Nat) (i : Int32) : Option (Option Nat) := match g a with
  | .inl (t', len, .inr (.inr (.inr (.inr f)))) => if t' = t ∧ m_in i len = true then some (f i.toNatClampNeg) else none
  | _ => none
def m_st (g : m_G) (a t : Nat) (i x : Int32) : Option m_G := match g a with
  | .inl (t', len, .inl f) => if t' = t ∧ m_in i len = true then some (va_up g a (.inl (t', len, .inl (upd f i.toNatClampNeg x)))) else none
  | _ => none
def m_stL (g : m_G) (a t : Nat) (i : Int32) (x : Int64) : Option m_G := match g a with
  | .inl (t', len, .inr (.inl f)) => if t' = t ∧ m_in i len = true then some (va_up g a (.inl (t', len, .inr (.inl (vp_updL f i.toNatClampNeg x))))) else none
  | _ => none
def m_is (g : m_G) (a ci : Nat) : Bool := match g a with
  | .inr (c, _) => decide (c = ci)
  | .inl _ => false
def m_stR (g : m_G) (a t ci : Nat) (i : Int32) (v : Nat) : Option m_G := match g a with
  | .inl (t', len, .inr (.inr (.inr (.inr f)))) => if t' = t ∧ m_in i len = true ∧ m_is g v ci = true then some (va_up g a (.inl (t', len, .inr (.inr (.inr (.inr (va_up f i.toNatClampNeg (some v)))))))) else none
  | _ => none
def m_len (g : m_G) (a : Nat) : Option Int32 := match g a with
  | .inl (t, len, _) => if t < m_TY.length then some (Int32.ofNat len) else none
  | .inr _ => none
/-- System.arraycopy between two arrays of ints of the type t -/
def m_cpy (g : m_G) (a0 a t : Nat) (ty : FieldType) (sp dp k : Int32) : Option m_G := match g a0, g a with
  | .inl (t0, n0, .inl f0), .inl (t1, n1, .inl f1) => if t0 = t ∧ t1 = t ∧ 0 ≤ sp ∧ 0 ≤ dp ∧ 0 ≤ k ∧ sp.toNatClampNeg + k.toNatClampNeg ≤ n0 ∧ dp.toNatClampNeg + k.toNatClampNeg ≤ n1 ∧ (List.range k.toNatClampNeg).all (fun i => fits ty (.int (f0 (sp.toNatClampNeg + i)))) = true then some (va_up g a (.inl (t1, n1, .inl (va_cpy f0 f1 sp.toNatClampNeg dp.toNatClampNeg k.toNatClampNeg)))) else none
  | _, _ => none
def m_nw (g : m_G) (n : Nat) (x : m_E) : Option m_G := some (va_up g n x)
def m_fu : Nat := 100000
def m_bd {α β : Type} (o : Option (α × m_G)) (k : α → m_G → Option β) : Option β := match o with
  | some (x, g) => k x g
  | none => none
def m_gd {β : Type} (b : Bool) (k : Option β) : Option β := if b = true then k else none
theorem m_bd_inv {α β : Type} {o : Option (α × m_G)} {k : α → m_G → Option β} {y : β} (h : m_bd o k = some y) : ∃ x g, o = some (x, g) ∧ k x g = some y := by
  unfold m_bd at h
  split at h
  · exact ⟨_, _, rfl, h⟩
  · cases h
theorem m_gd_inv {β : Type} {b : Bool} {k : Option β} {y : β} (h : m_gd b k = some y) : b = true ∧ k = some y := by
  unfold m_gd at h
  split at h
  · rename_i hb
    exact ⟨hb, h⟩
  · cases h
theorem m_r_cat (B : Nat) (r : Option Nat) : (m_r B r).category = 1 := by cases r <;> rfl
theorem m_gf_inv {g : m_G} {a ci k : Nat} {v : Value} (h : m_gf g a ci k = some v) : ∃ fs, g a = .inr (ci, fs) ∧ fs[k]? = some v := by
  unfold m_gf at h
  split at h
  · rename_i c fs e
    split at h
    · rename_i hc
      subst hc
      exact ⟨fs, e, h⟩
    · cases h
  · cases h
theorem m_asI_inv {v : Value} {x : Int32} (h : m_asI v = some x) : v = .int x := by
  cases v <;> simp [m_asI] at h
  subst h; rfl
theorem m_asL_inv {v : Value} {x : Int64} (h : m_asL v = some x) : v = .long x := by
  cases v <;> simp [m_asL] at h
  subst h; rfl
theorem m_asR_inv {v : Value} {r : Option Nat} (h : m_asR v = some r) : v = m_rv r := by
  cases v <;> simp [m_asR] at h
  · subst h; rfl
  · subst h; rfl
theorem m_v_rv (B : Nat) (r : Option Nat) : m_v B (m_rv r) = m_r B r := by cases r <;> rfl
theorem m_pf_inv {g g' : m_G} {a ci k : Nat} {v : Value} (h : m_pf g a ci k v = some g') : ∃ fs, g a = .inr (ci, fs) ∧ k < fs.length ∧ g' = va_up g a (.inr (ci, fs.set k v)) := by
  unfold m_pf at h
  split at h
  · rename_i c fs e
    split at h
    · rename_i hc
      obtain ⟨hc, hk⟩ := hc
      subst hc
      exact ⟨fs, e, hk, (Option.some.inj h).symm⟩
    · cases h
  · cases h
theorem m_in_vp {i : Int32} {len : Nat} (h : m_in i len = true) : vp_in i len := by
  simp only [m_in, Bool.and_eq_true, decide_eq_true_eq] at h
  rintro (q | q)
  · exact absurd h.1 (Int32.not_le.mpr q)
  · omega
theorem m_ld_inv {g : m_G} {a t : Nat} {i x : Int32} (h : m_ld g a t i = some x) : ∃ len f, g a = .inl (t, len, .inl f) ∧ m_in i len = true ∧ x = f i.toNatClampNeg := by
  unfold m_ld at h
  split at h
  · rename_i t' len f e
    split at h
    · rename_i hc
      obtain ⟨hc, hk⟩ := hc
      subst hc
      exact ⟨len, f, e, hk, (Option.some.inj h).symm⟩
    · cases h
  · cases h
theorem m_ldL_inv {g : m_G} {a t : Nat} {i : Int32} {x : Int64} (h : m_ldL g a t i = some x) : ∃ len f, g a = .inl (t, len, .inr (.inl f)) ∧ m_in i len = true ∧ x = f i.toNatClampNeg := by
  unfold m_ldL at h
  split at h
  · rename_i t' len f e
    split at h
    · rename_i hc
      obtain ⟨hc, hk⟩ := hc
      subst hc
      exact ⟨len, f, e, hk, (Option.some.inj h).symm⟩
    · cases h
  · cases h
theorem m_ldR_inv {g : m_G} {a t : Nat} {i : Int32} {x : Option Nat} (h : m_ldR g a t i = some x) : ∃ len f, g a = .inl (t, len, .inr (.inr (.inr (.inr f)))) ∧ m_in i len = true ∧ x = f i.toNatClampNeg := by
  unfold m_ldR at h
  split at h
  · rename_i t' len f e
    split at h
    · rename_i hc
      obtain ⟨hc, hk⟩ := hc
      subst hc
      exact ⟨len, f, e, hk, (Option.some.inj h).symm⟩
    · cases h
  · cases h
theorem m_st_inv {g g' : m_G} {a t : Nat} {i x : Int32} (h : m_st g a t i x = some g') : ∃ len f, g a = .inl (t, len, .inl f) ∧ m_in i len = true ∧ g' = va_up g a (.inl (t, len, .inl (upd f i.toNatClampNeg x))) := by
  unfold m_st at h
  split at h
  · rename_i t' len f e
    split at h
    · rename_i hc
      obtain ⟨hc, hk⟩ := hc
      subst hc
      exact ⟨len, f, e, hk, (Option.some.inj h).symm⟩
    · cases h
  · cases h
theorem m_stL_inv {g g' : m_G} {a t : Nat} {i : Int32} {x : Int64} (h : m_stL g a t i x = some g') : ∃ len f, g a = .inl (t, len, .inr (.inl f)) ∧ m_in i len = true ∧ g' = va_up g a (.inl (t, len, .inr (.inl (vp_updL f i.toNatClampNeg x)))) := by
  unfold m_stL at h
  split at h
  · rename_i t' len f e
    split at h
    · rename_i hc
      obtain ⟨hc, hk⟩ := hc
      subst hc
      exact ⟨len, f, e, hk, (Option.some.inj h).symm⟩
    · cases h
  · cases h
theorem m_is_inv {g : m_G} {a ci : Nat} (h : m_is g a ci = true) : ∃ fs, g a = .inr (ci, fs) := by
  unfold m_is at h
  split at h
  · rename_i c fs e
    have hc := of_decide_eq_true h
    subst hc
    exact ⟨fs, e⟩
  · cases h
theorem m_stR_inv {g g' : m_G} {a t ci : Nat} {i : Int32} {v : Nat} (h : m_stR g a t ci i v = some g') : ∃ len f, g a = .inl (t, len, .inr (.inr (.inr (.inr f)))) ∧ m_in i len = true ∧ m_is g v ci = true ∧ g' = va_up g a (.inl (t, len, .inr (.inr (.inr (.inr (va_up f i.toNatClampNeg (some v))))))) := by
  unfold m_stR at h
  split at h
  · rename_i t' len f e
    split at h
    · rename_i hc
      obtain ⟨hc, hk, hi⟩ := hc
      subst hc
      exact ⟨len, f, e, hk, hi, (Option.some.inj h).symm⟩
    · cases h
  · cases h
theorem m_cls_lt {ci : Nat} {r : vw_C} (h : classes[ci]? = some r) : ci ≠ 99 := by
  have := (List.getElem?_eq_some_iff.mp h).1
  have h2 : classes.length ≤ 99 := Nat.le_of_ble_eq_true rfl
  omega
section MB
variable {p : Program} {l : Launch} {e : Env} {R : Room} {s : State} {m : MethodId} {args : Array Value} {below : List Frame} {meth : Method} {c : Code} {H : Heap} {locs : List Loc} {cells slots : Nat} {Q : State → Prop}
variable {cc : ByteArray} {pc nL : Nat} {own : String} {ls : Array Slot} {rest : List Value} {D : va_G} {B n : Nat} {K : Nat → ClassId} {g g' : m_G} {H0 : Heap}
theorem m_S.ltO (S : m_S D B K n g H0 H locs) {a ci : Nat} {fs : List Value} (h : g a = .inr (ci, fs)) (hc : ci ≠ 99) : a < n := by
  apply Nat.lt_of_not_le
  intro q
  have := S.2.2.1 a q
  rw [h] at this
  unfold m_dead at this
  exact hc (congrArg Prod.fst (Sum.inr.inj this))
theorem m_S.ltA (S : m_S D B K n g H0 H locs) {a : Nat} {x : Nat × vp_A} (h : g a = .inl x) : a < n := by
  apply Nat.lt_of_not_le
  intro q
  have := S.2.2.1 a q
  rw [h] at this
  unfold m_dead at this
  cases this
theorem m_dead_up {a : Nat} {x : m_E} (h : ∀ i, n ≤ i → g i = m_dead) (ha : a < n) : ∀ i, n ≤ i → va_up g a x i = m_dead := fun i hi => by
  rw [va_up, if_neg (by omega)]; exact h i hi
theorem m_S.up {H1 : Heap} {locs1 : List Loc} {a : Nat} {x : m_E} {y : va_E} (S : m_S D B K n g H0 H locs) (ha : a < n) (hP : va_P D classes ((m_ws B K n g).set a (B + a, y)) H1) (hS : va_S (fun q => B ≤ q) H0 H1 locs1) (hy : y = m_c B K x) : m_S D B K n (va_up g a x) H0 H1 locs1 := by
  subst hy
  rw [m_ws_set ha] at hP
  exact ⟨hP, hS, m_dead_up S.2.2.1 ha, S.2.2.2⟩
theorem m_S.size (S : m_S D B K n g H0 H locs) : B + n ≤ H.size := by
  cases n with
  | zero => exact Nat.le_trans S.2.2.2 S.2.1.1
  | succ k =>
    have h := (S.1 k _ (m_ws_get (Nat.lt_succ_self k))).lt
    exact h
theorem m_size (kk : H.size ≤ s.heap.size + cells → W p l e R s m args below meth c H locs cells slots Q (F0 m pc ls rest)) : W p l e R s m args below meth c H locs cells slots Q (F0 m pc ls rest) := fun T hT X => kk (by rw [← hT]; exact X.heapSize) T hT X
theorem m_wsO {a ci : Nat} {fs : List Value} (h : g a = .inr (ci, fs)) (ha : a < n) : (m_ws B K n g)[a]? = some (B + a, .inr (ci, fs.map (m_v B))) := by
  rw [m_ws_get ha, h]; rfl
theorem m_wsI {a t len : Nat} {f : Nat → Int32} (h : g a = .inl (t, len, .inl f)) (ha : a < n) : (m_ws B K n g)[a]? = some (B + a, .inl (K t, len, .inl f)) := by
  rw [m_ws_get ha, h]; rfl
theorem m_wsL {a t len : Nat} {f : Nat → Int64} (h : g a = .inl (t, len, .inr (.inl f))) (ha : a < n) : (m_ws B K n g)[a]? = some (B + a, .inl (K t, len, .inr (.inl f))) := by
  rw [m_ws_get ha, h]; rfl
theorem m_wsR {a t len : Nat} {f : Nat → Option Nat} (h : g a = .inl (t, len, .inr (.inr (.inr (.inr f))))) (ha : a < n) : (m_ws B K n g)[a]? = some (B + a, .inl (K t, len, .inr (.inr (.inr (.inr (fun j => (f j).map (fun a => B + a))))))) := by
  rw [m_ws_get ha, h]; rfl
theorem m_gI_inv {a ci k : Nat} {x : Int32} (h : m_gI g a ci k = some x) : m_gf g a ci k = some (.int x) := by
  obtain ⟨v, h1, h2⟩ := Option.bind_eq_some_iff.mp h
  rw [h1, m_asI_inv h2]
theorem m_gL_inv {a ci k : Nat} {x : Int64} (h : m_gL g a ci k = some x) : m_gf g a ci k = some (.long x) := by
  obtain ⟨v, h1, h2⟩ := Option.bind_eq_some_iff.mp h
  rw [h1, m_asL_inv h2]
theorem m_gR_inv {a ci k : Nat} {x : Option Nat} (h : m_gR g a ci k = some x) : m_gf g a ci k = some (m_rv x) := by
  obtain ⟨v, h1, h2⟩ := Option.bind_eq_some_iff.mp h
  rw [h1, m_asR_inv h2]
theorem m_map_set {B : Nat} {fs : List Value} {k : Nat} {v : Value} : (fs.map (m_v B)).set k (m_v B v) = (fs.set k v).map (m_v B) := by
  rw [List.map_set]
theorem m_fitB {x : Int32} (h : x = 0 ∨ x = 1) : narrow .boolean (.int x) = .int x ∧ fits .boolean (.int x) = true := by
  rcases h with rfl | rfl <;> exact ⟨by decide +kernel, by decide +kernel⟩
-- fields: what a field's row in the tables is (class number ci, name C, table T of N fields, types ty0, place k)
def m_Fd (ci k : Nat) (C ref nm ds : String) (T : u_T) (N : Nat) (fin : Bool) (ty : FieldType) : Prop :=
  (∀ w ∈ u_ws C T N, w ∈ m_TB) ∧ classes[ci]? = some (C, T, N) ∧ k < N ∧ (T k).1 = ref ∧ (T k).2.1 = nm ∧ (T k).2.2.1 = ds ∧ (T k).2.2.2 = fin ∧ parseFieldDescriptor (T k).2.2.1 = some ty ∧ (∀ a, a < N → ∀ b, b < N → a ≠ b → (T a).2.1 ≠ (T b).2.1) ∧ ∃ ty0 : Nat → FieldType, ∀ k, k < N → parseFieldDescriptor (T k).2.2.1 = some (ty0 k)
theorem m_get (E : m_V p m c cc nL s args own D K) (S : m_S D B K n g s.heap H locs) {a ci k index N : Nat} {C ref nm ds : String} {T : u_T} {fin : Bool} {ty : FieldType} {v w : Value} (F : m_Fd ci k C ref nm ds T N fin ty) (hlink : Cond.fieldLink own index ref nm ds ∈ m_TB ∨ ∃ host, Cond.fieldLinkNest own index ref nm ds host ∈ m_NW)
    (hv : m_gf g a ci k = some v) (hw : m_v B v = w) (hdg : decode cc pc = .ok (.getfield index, 3))
    (kk : W p l e R s m args below meth c H locs cells slots Q (F0 m (pc + 3) ls (w :: rest))) : W p l e R s m args below meth c H locs cells slots Q (F0 m pc ls (.ref (B + a) :: rest)) := by
  obtain ⟨⟨hx, hb, hml, hown, hts⟩, hK⟩ := E
  obtain ⟨fs, hg, hf⟩ := m_gf_inv hv
  obtain ⟨hin, hc, hk, rfl, rfl, rfl, -⟩ := F
  subst hw
  rcases hlink with hlink | ⟨host, hlink⟩
  · exact va_get hx hb hts hin hown hK.1 S.1 a (m_wsO hg (S.ltO hg (m_cls_lt hc))) hc k hk (hts _ hlink) (fun _ h => h) (v := m_v B v) (by rw [List.getElem?_map, hf]; rfl) hdg kk
  · exact va_getN hx hb hts hin hown hK.1 S.1 a (m_wsO hg (S.ltO hg (m_cls_lt hc))) hc k hk (va_Nw.use rfl (hK.2.1 _ hlink)) (fun _ h => h) (v := m_v B v) (by rw [List.getElem?_map, hf]; rfl) hdg kk
theorem m_getI (E : m_V p m c cc nL s args own D K) (S : m_S D B K n g s.heap H locs) {a ci k index N : Nat} {C ref nm ds : String} {T : u_T} {fin : Bool} {ty : FieldType} {x : Int32} (F : m_Fd ci k C ref nm ds T N fin ty) (hlink : Cond.fieldLink own index ref nm ds ∈ m_TB ∨ ∃ host, Cond.fieldLinkNest own index ref nm ds host ∈ m_NW)
    (hv : m_gI g a ci k = some x) (hdg : decode cc pc = .ok (.getfield index, 3))
    (kk : W p l e R s m args below meth c H locs cells slots Q (F0 m (pc + 3) ls (.int x :: rest))) : W p l e R s m args below meth c H locs cells slots Q (F0 m pc ls (.ref (B + a) :: rest)) := m_get E S F hlink (m_gI_inv hv) rfl hdg kk
theorem m_getL (E : m_V p m c cc nL s args own D K) (S : m_S D B K n g s.heap H locs) {a ci k index N : Nat} {C ref nm ds : String} {T : u_T} {fin : Bool} {ty : FieldType} {x : Int64} (F : m_Fd ci k C ref nm ds T N fin ty) (hlink : Cond.fieldLink own index ref nm ds ∈ m_TB ∨ ∃ host, Cond.fieldLinkNest own index ref nm ds host ∈ m_NW)
    (hv : m_gL g a ci k = some x) (hdg : decode cc pc = .ok (.getfield index, 3))
    (kk : W p l e R s m args below meth c H locs cells slots Q (F0 m (pc + 3) ls (.long x :: rest))) : W p l e R s m args below meth c H locs cells slots Q (F0 m pc ls (.ref (B + a) :: rest)) := m_get E S F hlink (m_gL_inv hv) rfl hdg kk
theorem m_getR (E : m_V p m c cc nL s args own D K) (S : m_S D B K n g s.heap H locs) {a ci k index N : Nat} {C ref nm ds : String} {T : u_T} {fin : Bool} {ty : FieldType} {x : Option Nat} (F : m_Fd ci k C ref nm ds T N fin ty) (hlink : Cond.fieldLink own index ref nm ds ∈ m_TB ∨ ∃ host, Cond.fieldLinkNest own index ref nm ds host ∈ m_NW)
    (hv : m_gR g a ci k = some x) (hdg : decode cc pc = .ok (.getfield index, 3))
    (kk : W p l e R s m args below meth c H locs cells slots Q (F0 m (pc + 3) ls (m_r B x :: rest))) : W p l e R s m args below meth c H locs cells slots Q (F0 m pc ls (.ref (B + a) :: rest)) := m_get E S F hlink (m_gR_inv hv) (m_v_rv B x) hdg kk
theorem m_put (E : m_V p m c cc nL s args own D K) (S : m_S D B K n g s.heap H locs) {a ci k index N : Nat} {C ref nm ds : String} {T : u_T} {ty : FieldType} {v w : Value} (F : m_Fd ci k C ref nm ds T N false ty) (hlink : Cond.fieldLink own index ref nm ds ∈ m_TB ∨ ∃ host, Cond.fieldLinkNest own index ref nm ds host ∈ m_NW)
    (hp : m_pf g a ci k v = some g') (hw : m_v B v = w) (hn : narrow ty w = w) (hfit : fits ty w = true) (hdg : decode cc pc = .ok (.putfield index, 3))
    (kk : ∀ (H1 : Heap) (locs1 : List Loc), m_S D B K n g' s.heap H1 locs1 → W p l e R s m args below meth c H1 locs1 cells slots Q (F0 m (pc + 3) ls rest)) : W p l e R s m args below meth c H locs cells slots Q (F0 m pc ls (w :: .ref (B + a) :: rest)) := by
  obtain ⟨⟨hx, hb, hml, hown, hts⟩, hK⟩ := E
  obtain ⟨fs, hg, hk', rfl⟩ := m_pf_inv hp
  obtain ⟨hin, hc, hk, rfl, rfl, rfl, hfin, hd, hnm, ty0, hty⟩ := F
  subst hw
  have ha := S.ltO hg (m_cls_lt hc)
  rcases hlink with hlink | ⟨host, hlink⟩
  · exact va_put hx hb hts hin ty0 hty hnm hown hK.1 S.1 m_ws_D S.2.1 a (m_wsO hg ha) hc k hk (hts _ hlink) (fun _ h => h) hfin hd hn hfit (by rw [List.length_map]; exact hk') hdg (fun H1 locs1 hP _ hS => kk H1 locs1 (S.up ha hP hS (by rw [m_map_set]; rfl)))
  · exact va_putN hx hb hts hin ty0 hty hnm hown hK.1 S.1 m_ws_D S.2.1 a (m_wsO hg ha) hc k hk (va_Nw.use rfl (hK.2.1 _ hlink)) (fun _ h => h) hfin hd hn hfit (by rw [List.length_map]; exact hk') hdg (fun H1 locs1 hP _ hS => kk H1 locs1 (S.up ha hP hS (by rw [m_map_set]; rfl)))
theorem m_putF (E : m_V p m c cc nL s args own D K) (S : m_S D B K n g s.heap H locs) {a ci k index N : Nat} {C nm ds : String} {T : u_T} {ty : FieldType} {v w : Value} (F : m_Fd ci k C own nm ds T N true ty) (hin2 : meth.name = "<init>") (hlink : Cond.fieldLink own index own nm ds ∈ m_TB)
    (hp : m_pf g a ci k v = some g') (hw : m_v B v = w) (hn : narrow ty w = w) (hfit : fits ty w = true) (hdg : decode cc pc = .ok (.putfield index, 3))
    (kk : ∀ (H1 : Heap) (locs1 : List Loc), m_S D B K n g' s.heap H1 locs1 → W p l e R s m args below meth c H1 locs1 cells slots Q (F0 m (pc + 3) ls rest)) : W p l e R s m args below meth c H locs cells slots Q (F0 m pc ls (w :: .ref (B + a) :: rest)) := by
  obtain ⟨⟨hx, hb, hml, hown, hts⟩, hK⟩ := E
  obtain ⟨fs, hg, hk', rfl⟩ := m_pf_inv hp
  obtain ⟨hin, hc, hk, h1, rfl, rfl, hfin, hd, hnm, ty0, hty⟩ := F
  subst hw
  have ha := S.ltO hg (m_cls_lt hc)
  exact va_putF hx hb hts hin ty0 hty hnm hown hK.1 S.1 m_ws_D S.2.1 a (m_wsO hg ha) hc k hk (hts _ hlink) (fun _ h => by rw [← h1]; exact h) hfin hin2 h1 hd hn hfit (by rw [List.length_map]; exact hk') hdg (fun H1 locs1 hP _ hS => kk H1 locs1 (S.up ha hP hS (by rw [m_map_set]; rfl)))
end MB
end
section
section MC
variable {p : Program} {l : Launch} {e : Env} {R : Room} {s : State} {m : MethodId} {args : Array Value} {below : List Frame} {meth : Method} {c : Code} {H : Heap} {locs : List Loc} {cells slots : Nat} {Q : State → Prop}
variable {cc : ByteArray} {pc nL : Nat} {own : String} {ls : Array Slot} {rest : List Value} {D : va_G} {B n : Nat} {K : Nat → ClassId} {g g' : m_G}
theorem m_putI (E : m_V p m c cc nL s args own D K) (S : m_S D B K n g s.heap H locs) {a ci k index N : Nat} {C ref nm ds : String} {T : u_T} {x : Int32} (F : m_Fd ci k C ref nm ds T N false .int) (hlink : Cond.fieldLink own index ref nm ds ∈ m_TB ∨ ∃ host, Cond.fieldLinkNest own index ref nm ds host ∈ m_NW)
    (hp : m_pI g a ci k x = some g') (hdg : decode cc pc = .ok (.putfield index, 3))
    (kk : ∀ (H1 : Heap) (locs1 : List Loc), m_S D B K n g' s.heap H1 locs1 → W p l e R s m args below meth c H1 locs1 cells slots Q (F0 m (pc + 3) ls rest)) : W p l e R s m args below meth c H locs cells slots Q (F0 m pc ls (.int x :: .ref (B + a) :: rest)) := m_put E S F hlink (v := .int x) hp rfl rfl rfl hdg kk
theorem m_putL (E : m_V p m c cc nL s args own D K) (S : m_S D B K n g s.heap H locs) {a ci k index N : Nat} {C ref nm ds : String} {T : u_T} {x : Int64} (F : m_Fd ci k C ref nm ds T N false .long) (hlink : Cond.fieldLink own index ref nm ds ∈ m_TB ∨ ∃ host, Cond.fieldLinkNest own index ref nm ds host ∈ m_NW)
    (hp : m_pL g a ci k x = some g') (hdg : decode cc pc = .ok (.putfield index, 3))
    (kk : ∀ (H1 : Heap) (locs1 : List Loc), m_S D B K n g' s.heap H1 locs1 → W p l e R s m args below meth c H1 locs1 cells slots Q (F0 m (pc + 3) ls rest)) : W p l e R s m args below meth c H locs cells slots Q (F0 m pc ls (.long x :: .ref (B + a) :: rest)) := m_put E S F hlink (v := .long x) hp rfl rfl rfl hdg kk
theorem m_putZ (E : m_V p m c cc nL s args own D K) (S : m_S D B K n g s.heap H locs) {a ci k index N : Nat} {C ref nm ds : String} {T : u_T} {x : Int32} (F : m_Fd ci k C ref nm ds T N false .boolean) (hlink : Cond.fieldLink own index ref nm ds ∈ m_TB ∨ ∃ host, Cond.fieldLinkNest own index ref nm ds host ∈ m_NW)
    (hp : m_pZ g a ci k x = some g') (hdg : decode cc pc = .ok (.putfield index, 3))
    (kk : ∀ (H1 : Heap) (locs1 : List Loc), m_S D B K n g' s.heap H1 locs1 → W p l e R s m args below meth c H1 locs1 cells slots Q (F0 m (pc + 3) ls rest)) : W p l e R s m args below meth c H locs cells slots Q (F0 m pc ls (.int x :: .ref (B + a) :: rest)) := by
  unfold m_pZ at hp
  split at hp
  · rename_i hz
    exact m_put E S F hlink (v := .int x) hp rfl (m_fitB hz).1 (m_fitB hz).2 hdg kk
  · cases hp
theorem m_putR (E : m_V p m c cc nL s args own D K) (S : m_S D B K n g s.heap H locs) {a ci k index N : Nat} {C ref nm ds cn : String} {T : u_T} {x : Option Nat} (F : m_Fd ci k C ref nm ds T N false (.object cn)) (hlink : Cond.fieldLink own index ref nm ds ∈ m_TB ∨ ∃ host, Cond.fieldLinkNest own index ref nm ds host ∈ m_NW)
    (hp : m_pR g a ci k x = some g') (hdg : decode cc pc = .ok (.putfield index, 3))
    (kk : ∀ (H1 : Heap) (locs1 : List Loc), m_S D B K n g' s.heap H1 locs1 → W p l e R s m args below meth c H1 locs1 cells slots Q (F0 m (pc + 3) ls rest)) : W p l e R s m args below meth c H locs cells slots Q (F0 m pc ls (m_r B x :: .ref (B + a) :: rest)) := m_put E S F hlink (v := m_rv x) hp (m_v_rv B x) (by cases x <;> rfl) (by cases x <;> rfl) hdg kk
theorem m_putFR (E : m_V p m c cc nL s args own D K) (S : m_S D B K n g s.heap H locs) {a ci k index N : Nat} {C nm ds : String} {T : u_T} {x : Option Nat} {ty : FieldType} (F : m_Fd ci k C own nm ds T N true ty) (hty : (∃ cn, ty = .object cn) ∨ ∃ t, ty = .array t) (hin2 : meth.name = "<init>") (hlink : Cond.fieldLink own index own nm ds ∈ m_TB)
    (hp : m_pR g a ci k x = some g') (hdg : decode cc pc = .ok (.putfield index, 3))
    (kk : ∀ (H1 : Heap) (locs1 : List Loc), m_S D B K n g' s.heap H1 locs1 → W p l e R s m args below meth c H1 locs1 cells slots Q (F0 m (pc + 3) ls rest)) : W p l e R s m args below meth c H locs cells slots Q (F0 m pc ls (m_r B x :: .ref (B + a) :: rest)) := by
  rcases hty with ⟨cn, rfl⟩ | ⟨t, rfl⟩
  · exact m_putF E S F hin2 hlink (v := m_rv x) hp (m_v_rv B x) (by cases x <;> rfl) (by cases x <;> rfl) hdg kk
  · exact m_putF E S F hin2 hlink (v := m_rv x) hp (m_v_rv B x) (by cases x <;> rfl) (by cases x <;> rfl) hdg kk
-- arrays
theorem m_iald (E : m_V p m c cc nL s args own D K) (S : m_S D B K n g s.heap H locs) {a t : Nat} {i x : Int32} (ht : m_TY[t]? = some .int) (hv : m_ld g a t i = some x) (hdg : decode cc pc = .ok (.iaload, 1))
    (kk : W p l e R s m args below meth c H locs cells slots Q (F0 m (pc + 1) ls (.int x :: rest))) : W p l e R s m args below meth c H locs cells slots Q (F0 m pc ls (.int i :: .ref (B + a) :: rest)) := by
  obtain ⟨⟨hx, hb, hml, hown, hts⟩, hK⟩ := E
  obtain ⟨len, f, hg, hi, rfl⟩ := m_ld_inv hv
  exact va_iald hx hb hK.1 S.1 a t (m_wsI hg (S.ltA hg)) (m_tys_get ht) (m_in_vp hi) hdg kk
theorem m_cald (E : m_V p m c cc nL s args own D K) (S : m_S D B K n g s.heap H locs) {a t : Nat} {i x : Int32} (ht : m_TY[t]? = some .char) (hv : m_ld g a t i = some x) (hdg : decode cc pc = .ok (.caload, 1))
    (kk : W p l e R s m args below meth c H locs cells slots Q (F0 m (pc + 1) ls (.int x :: rest))) : W p l e R s m args below meth c H locs cells slots Q (F0 m pc ls (.int i :: .ref (B + a) :: rest)) := by
  obtain ⟨⟨hx, hb, hml, hown, hts⟩, hK⟩ := E
  obtain ⟨len, f, hg, hi, rfl⟩ := m_ld_inv hv
  exact va_cald hx hb hK.1 S.1 a t (m_wsI hg (S.ltA hg)) (m_tys_get ht) (m_in_vp hi) hdg kk
theorem m_zald (E : m_V p m c cc nL s args own D K) (S : m_S D B K n g s.heap H locs) {a t : Nat} {i x : Int32} (ht : m_TY[t]? = some .boolean) (hv : m_ld g a t i = some x) (hdg : decode cc pc = .ok (.baload, 1))
    (kk : W p l e R s m args below meth c H locs cells slots Q (F0 m (pc + 1) ls (.int x :: rest))) : W p l e R s m args below meth c H locs cells slots Q (F0 m pc ls (.int i :: .ref (B + a) :: rest)) := by
  obtain ⟨⟨hx, hb, hml, hown, hts⟩, hK⟩ := E
  obtain ⟨len, f, hg, hi, rfl⟩ := m_ld_inv hv
  exact va_zald hx hb hK.1 S.1 a t (m_wsI hg (S.ltA hg)) (m_tys_get ht) (m_in_vp hi) hdg kk
theorem m_lald (E : m_V p m c cc nL s args own D K) (S : m_S D B K n g s.heap H locs) {a t : Nat} {i : Int32} {x : Int64} (ht : m_TY[t]? = some .long) (hv : m_ldL g a t i = some x) (hdg : decode cc pc = .ok (.laload, 1))
    (kk : W p l e R s m args below meth c H locs cells slots Q (F0 m (pc + 1) ls (.long x :: rest))) : W p l e R s m args below meth c H locs cells slots Q (F0 m pc ls (.int i :: .ref (B + a) :: rest)) := by
  obtain ⟨⟨hx, hb, hml, hown, hts⟩, hK⟩ := E
  obtain ⟨len, f, hg, hi, rfl⟩ := m_ldL_inv hv
  exact va_lald hx hb hK.1 S.1 a t (m_wsL hg (S.ltA hg)) (m_tys_get ht) (m_in_vp hi) hdg kk
theorem m_aald (E : m_V p m c cc nL s args own D K) (S : m_S D B K n g s.heap H locs) {a t : Nat} {i : Int32} {x : Option Nat} {cn : String} (ht : m_TY[t]? = some (.object cn)) (hv : m_ldR g a t i = some x) (hdg : decode cc pc = .ok (.aaload, 1))
    (kk : W p l e R s m args below meth c H locs cells slots Q (F0 m (pc + 1) ls (m_r B x :: rest))) : W p l e R s m args below meth c H locs cells slots Q (F0 m pc ls (.int i :: .ref (B + a) :: rest)) := by
  obtain ⟨⟨hx, hb, hml, hown, hts⟩, hK⟩ := E
  obtain ⟨len, f, hg, hi, rfl⟩ := m_ldR_inv hv
  exact va_aldq hx hb hK.1 S.1 a t (m_wsR hg (S.ltA hg)) (m_tys_get ht) (m_in_vp hi) hdg kk
theorem m_iast (E : m_V p m c cc nL s args own D K) (S : m_S D B K n g s.heap H locs) {a t : Nat} {i x : Int32} (ht : m_TY[t]? = some .int) (hv : m_st g a t i x = some g') (hdg : decode cc pc = .ok (.iastore, 1))
    (kk : ∀ (H1 : Heap) (locs1 : List Loc), m_S D B K n g' s.heap H1 locs1 → W p l e R s m args below meth c H1 locs1 cells slots Q (F0 m (pc + 1) ls rest)) : W p l e R s m args below meth c H locs cells slots Q (F0 m pc ls (.int x :: .int i :: .ref (B + a) :: rest)) := by
  obtain ⟨⟨hx, hb, hml, hown, hts⟩, hK⟩ := E
  obtain ⟨len, f, hg, hi, rfl⟩ := m_st_inv hv
  exact va_iast hx hb hK.1 S.1 m_ws_D S.2.1 a t (m_wsI hg (S.ltA hg)) (m_tys_get ht) (m_in_vp hi) hdg (fun H1 locs1 hP _ hS => kk H1 locs1 (S.up (S.ltA hg) hP hS rfl))
theorem m_cast (E : m_V p m c cc nL s args own D K) (S : m_S D B K n g s.heap H locs) {a t : Nat} {i x : Int32} (ht : m_TY[t]? = some .char) (hv : m_st g a t i (vp_nar .char x) = some g') (hdg : decode cc pc = .ok (.castore, 1))
    (kk : ∀ (H1 : Heap) (locs1 : List Loc), m_S D B K n g' s.heap H1 locs1 → W p l e R s m args below meth c H1 locs1 cells slots Q (F0 m (pc + 1) ls rest)) : W p l e R s m args below meth c H locs cells slots Q (F0 m pc ls (.int x :: .int i :: .ref (B + a) :: rest)) := by
  obtain ⟨⟨hx, hb, hml, hown, hts⟩, hK⟩ := E
  obtain ⟨len, f, hg, hi, rfl⟩ := m_st_inv hv
  exact va_cast hx hb hK.1 S.1 m_ws_D S.2.1 a t (m_wsI hg (S.ltA hg)) (m_tys_get ht) (m_in_vp hi) hdg (fun H1 locs1 hP _ hS => kk H1 locs1 (S.up (S.ltA hg) hP hS rfl))
theorem m_zast (E : m_V p m c cc nL s args own D K) (S : m_S D B K n g s.heap H locs) {a t : Nat} {i x : Int32} (ht : m_TY[t]? = some .boolean) (hv : m_st g a t i (vp_nar .boolean x) = some g') (hdg : decode cc pc = .ok (.bastore, 1))
    (kk : ∀ (H1 : Heap) (locs1 : List Loc), m_S D B K n g' s.heap H1 locs1 → W p l e R s m args below meth c H1 locs1 cells slots Q (F0 m (pc + 1) ls rest)) : W p l e R s m args below meth c H locs cells slots Q (F0 m pc ls (.int x :: .int i :: .ref (B + a) :: rest)) := by
  obtain ⟨⟨hx, hb, hml, hown, hts⟩, hK⟩ := E
  obtain ⟨len, f, hg, hi, rfl⟩ := m_st_inv hv
  exact va_zast hx hb hK.1 S.1 m_ws_D S.2.1 a t (m_wsI hg (S.ltA hg)) (m_tys_get ht) (m_in_vp hi) hdg (fun H1 locs1 hP _ hS => kk H1 locs1 (S.up (S.ltA hg) hP hS rfl))
theorem m_last (E : m_V p m c cc nL s args own D K) (S : m_S D B K n g s.heap H locs) {a t : Nat} {i : Int32} {x : Int64} (ht : m_TY[t]? = some .long) (hv : m_stL g a t i x = some g') (hdg : decode cc pc = .ok (.lastore, 1))
    (kk : ∀ (H1 : Heap) (locs1 : List Loc), m_S D B K n g' s.heap H1 locs1 → W p l e R s m args below meth c H1 locs1 cells slots Q (F0 m (pc + 1) ls rest)) : W p l e R s m args below meth c H locs cells slots Q (F0 m pc ls (.long x :: .int i :: .ref (B + a) :: rest)) := by
  obtain ⟨⟨hx, hb, hml, hown, hts⟩, hK⟩ := E
  obtain ⟨len, f, hg, hi, rfl⟩ := m_stL_inv hv
  exact va_last hx hb hK.1 S.1 m_ws_D S.2.1 a t (m_wsL hg (S.ltA hg)) (m_tys_get ht) (m_in_vp hi) hdg (fun H1 locs1 hP _ hS => kk H1 locs1 (S.up (S.ltA hg) hP hS rfl))
theorem m_map_up {B : Nat} {f : Nat → Option Nat} {k v : Nat} : va_up (fun j => (f j).map (fun a => B + a)) k (some (B + v)) = fun j => (va_up f k (some v) j).map (fun a => B + a) := by
  funext j
  unfold va_up
  by_cases h : j = k
  · simp [h]
  · simp [h]
theorem m_aast (E : m_V p m c cc nL s args own D K) (S : m_S D B K n g s.heap H locs) {a t ci v : Nat} {i : Int32} {r : vw_C} (ht : m_TY[t]? = some (.object r.1)) (hc : classes[ci]? = some r) (hv : m_stR g a t ci i v = some g') (hdg : decode cc pc = .ok (.aastore, 1))
    (kk : ∀ (H1 : Heap) (locs1 : List Loc), m_S D B K n g' s.heap H1 locs1 → W p l e R s m args below meth c H1 locs1 cells slots Q (F0 m (pc + 1) ls rest)) : W p l e R s m args below meth c H locs cells slots Q (F0 m pc ls (.ref (B + v) :: .int i :: .ref (B + a) :: rest)) := by
  obtain ⟨⟨hx, hb, hml, hown, hts⟩, hK⟩ := E
  obtain ⟨len, f, hg, hi, hz, rfl⟩ := m_stR_inv hv
  obtain ⟨fs, hfs⟩ := m_is_inv hz
  exact va_astq hx hb hK.1 S.1 m_ws_D S.2.1 a t v ci (m_wsR hg (S.ltA hg)) (m_tys_get ht) (m_wsO hfs (S.ltO hfs (m_cls_lt hc))) hc (m_in_vp hi) hdg (fun H1 locs1 hP _ hS => kk H1 locs1 (S.up (S.ltA hg) hP hS (by rw [m_map_up]; rfl)))
theorem m_alen (E : m_V p m c cc nL s args own D K) (S : m_S D B K n g s.heap H locs) {a : Nat} {x : Int32} (hv : m_len g a = some x) (hdg : decode cc pc = .ok (.arraylength, 1))
    (kk : W p l e R s m args below meth c H locs cells slots Q (F0 m (pc + 1) ls (.int x :: rest))) : W p l e R s m args below meth c H locs cells slots Q (F0 m pc ls (.ref (B + a) :: rest)) := by
  obtain ⟨⟨hx, hb, hml, hown, hts⟩, hK⟩ := E
  unfold m_len at hv
  split at hv
  · rename_i t len f hg
    split at hv
    · rename_i ht
      have ha := S.ltA hg
      have hw := m_ws_get (B := B) (K := K) (g := g) ha
      rw [hg] at hw
      refine va_alen hx hb hK.1 S.1 a t hw (m_tys_get (List.getElem?_eq_getElem ht)) (v := x) ?_ hdg kk
      rw [← Option.some.inj hv]
      obtain f | f | f | f | f := f <;> rfl
    · cases hv
  · cases hv
theorem m_copy (E : m_V p m c cc ls.size s args own D K) (S : m_S D B K n g s.heap H locs) {a0 a t index : Nat} {ty : FieldType} {sp dp k : Int32} (ht : m_TY[t]? = some ty) (hprim : refKind ty = false) (hlink : Cond.methodLink own index arraycopyName ∈ m_TB) (hnat : Cond.native arraycopyName ∈ m_TB) (hstat : Cond.static arraycopyName ∈ m_TB) (hini : Cond.initialized "java/lang/System" ∈ m_TB)
    (hframes : 1 ≤ R.frames) (hlocals : (rest.map fun v => v.category).sum + (nativeFrameWords "java/lang/System" "arraycopy" 5 + 11) ≤ R.locals) (hv : m_cpy g a0 a t ty sp dp k = some g') (hdg : decode cc pc = .ok (.invokestatic index, 3))
    (kk : ∀ (H1 : Heap) (locs1 : List Loc), m_S D B K n g' s.heap H1 locs1 → W p l e R s m args below meth c H1 locs1 cells slots Q (F0 m (pc + 3) ls rest)) : W p l e R s m args below meth c H locs cells slots Q (F0 m pc ls (.int k :: .int dp :: .ref (B + a) :: .int sp :: .ref (B + a0) :: rest)) := by
  obtain ⟨⟨hx, hb, hml, hown, hts⟩, hK⟩ := E
  unfold m_cpy at hv
  split at hv
  · rename_i t0 n0 f0 t1 n1 f1 e0 e1
    split at hv
    · rename_i hh
      obtain ⟨rfl, rfl, h1, h2, h3, h4, h5, h6⟩ := hh
      cases hv
      refine va_copyi hx hb hml hown (hts _ hlink) (hts _ hnat) (hts _ hstat) (hts _ hini) hK.1 S.1 m_ws_D S.2.1 a0 a t1 t1 (m_wsI e0 (S.ltA e0)) (m_wsI e1 (S.ltA e1)) (m_tys_get ht) (m_tys_get ht) hprim (Int32.not_lt.mpr h1) (Int32.not_lt.mpr h2) (Int32.not_lt.mpr h3) h4 h5 (fun i hi => ?_) hframes hlocals hdg (fun H1 locs1 hP _ hS => kk H1 locs1 (S.up (S.ltA e1) hP hS rfl))
      exact List.all_eq_true.mp h6 i (List.mem_range.mpr hi)
    · cases hv
  · cases hv
-- references in locals; null tests
theorem m_aload_n (E : m_V p m c cc nL s args own D K) {k : Fin 4} {i : Nat} {r : Option Nat} (hdg : decode cc pc = .ok (.aload_n k, 1)) (hi : (k : Nat) = i) (hl : ls[i]? = some (.val (m_r B r)))
    (kk : W p l e R s m args below meth c H locs cells slots Q (F0 m (pc + 1) ls (m_r B r :: rest))) : W p l e R s m args below meth c H locs cells slots Q (F0 m pc ls rest) := by
  obtain ⟨⟨hx, hb, hml, hown, hts⟩, hK⟩ := E
  cases r
  · exact lv_aload_nN hx hb hdg hi hl kk
  · exact lv_aload_n hx hb hdg hi hl kk
theorem m_aload (E : m_V p m c cc nL s args own D K) {i : Nat} {r : Option Nat} (hdg : decode cc pc = .ok (.aload i, 2)) (hl : ls[i]? = some (.val (m_r B r)))
    (kk : W p l e R s m args below meth c H locs cells slots Q (F0 m (pc + 2) ls (m_r B r :: rest))) : W p l e R s m args below meth c H locs cells slots Q (F0 m pc ls rest) := by
  obtain ⟨⟨hx, hb, hml, hown, hts⟩, hK⟩ := E
  cases r
  · exact lv_aloadN hx hb hdg hl kk
  · exact lv_aload hx hb hdg hl kk
theorem m_astore_n (E : m_V p m c cc nL s args own D K) {k : Fin 4} {i : Nat} {r : Option Nat} {lv lv' : List (Nat × Value)} (hdg : decode cc pc = .ok (.astore_n k, 1)) (hi : (k : Nat) = i) (h : lv_has ls nL lv) (hn : i < nL) (hl : (i, m_r B r) :: lv.filter (fun q => !(q.1 == i) && !(q.1 + 1 == i && q.2.category == 2)) = lv')
    (kk : ∀ ls' : Array Slot, lv_has ls' nL lv' → W p l e R s m args below meth c H locs cells slots Q (F0 m (pc + 1) ls' rest)) : W p l e R s m args below meth c H locs cells slots Q (F0 m pc ls (m_r B r :: rest)) := by
  obtain ⟨⟨hx, hb, hml, hown, hts⟩, hK⟩ := E
  cases r
  · exact lv_astore_nN hx hb hdg hi h hn hl kk
  · exact lv_astore_n hx hb hdg hi h hn hl kk
theorem m_astore (E : m_V p m c cc nL s args own D K) {i : Nat} {r : Option Nat} {lv lv' : List (Nat × Value)} (hdg : decode cc pc = .ok (.astore i, 2)) (h : lv_has ls nL lv) (hn : i < nL) (hl : (i, m_r B r) :: lv.filter (fun q => !(q.1 == i) && !(q.1 + 1 == i && q.2.category == 2)) = lv')
    (kk : ∀ ls' : Array Slot, lv_has ls' nL lv' → W p l e R s m args below meth c H locs cells slots Q (F0 m (pc + 2) ls' rest)) : W p l e R s m args below meth c H locs cells slots Q (F0 m pc ls (m_r B r :: rest)) := by
  obtain ⟨⟨hx, hb, hml, hown, hts⟩, hK⟩ := E
  cases r
  · exact lv_astoreN hx hb hdg h hn hl kk
  · exact lv_astore hx hb hdg h hn hl kk
theorem m_ifnull (E : m_V p m c cc nL s args own D K) {r : Option Nat} {off : Int} {tgt : Nat} (hdg : decode cc pc = .ok (.ifnull off, 3)) (ht : (pc : Int) + off = (tgt : Int))
    (kt : r = none → W p l e R s m args below meth c H locs cells slots Q (F0 m tgt ls rest)) (kf : ∀ a, r = some a → W p l e R s m args below meth c H locs cells slots Q (F0 m (pc + 3) ls rest)) : W p l e R s m args below meth c H locs cells slots Q (F0 m pc ls (m_r B r :: rest)) := by
  obtain ⟨⟨hx, hb, hml, hown, hts⟩, hK⟩ := E
  cases r
  · exact lv_ifnullN hx hb hdg ht (kt rfl)
  · exact lv_ifnull hx hb hdg (kf _ rfl)
theorem m_ifnonnull (E : m_V p m c cc nL s args own D K) {r : Option Nat} {off : Int} {tgt : Nat} (hdg : decode cc pc = .ok (.ifnonnull off, 3)) (ht : (pc : Int) + off = (tgt : Int))
    (kt : ∀ a, r = some a → W p l e R s m args below meth c H locs cells slots Q (F0 m tgt ls rest)) (kf : r = none → W p l e R s m args below meth c H locs cells slots Q (F0 m (pc + 3) ls rest)) : W p l e R s m args below meth c H locs cells slots Q (F0 m pc ls (m_r B r :: rest)) := by
  obtain ⟨⟨hx, hb, hml, hown, hts⟩, hK⟩ := E
  cases r
  · exact lv_ifnonnullN hx hb hdg (kf rfl)
  · exact lv_ifnonnull hx hb hdg ht (kt _ rfl)
end MC
section MD
variable {p : Program} {l : Launch} {e : Env} {R : Room} {s : State} {m : MethodId} {args : Array Value} {below : List Frame} {meth : Method} {c : Code} {H : Heap} {locs : List Loc} {cells slots : Nat} {Q : State → Prop}
variable {cc : ByteArray} {pc nL : Nat} {own : String} {ls : Array Slot} {rest rest' : List Value} {D : va_G} {B n : Nat} {K : Nat → ClassId} {g : m_G}
-- the ends of a method
theorem m_end (S : m_S D B K n g s.heap H locs) (hz : s.heap.size + cells = B + n) {v : Option Value}
    (kk : (∀ t : State, t.heap = H → s.WarmedH t.vm → m_Q D B K v n g args s (.returned v) t) → (∀ q ∈ locs, B ≤ q.base) → W p l e R s m args below meth c H locs cells slots Q (F0 m pc ls rest)) : W p l e R s m args below meth c H locs cells slots Q (F0 m pc ls rest) := by
  refine m_size (fun h => kk (fun t ht _ => ⟨rfl, ?_, by rw [ht]; exact S.1, S.2.1.F ht, S.2.2.1⟩) S.2.1.2.2)
  have := S.size
  rw [ht]
  omega
theorem m_iret (E : m_V p m c cc nL s args own D K) (S : m_S D B K n g s.heap H locs) (hz : s.heap.size + cells = B + n) (hr : meth.sig.returnType = some .int) (hlocks : meth.locks = false) {v : Int32} (hdg : decode cc pc = .ok (.ireturn, 1)) :
    W p l e R s m args below meth c H locs cells slots (MQ below (m_Q D B K (some (.int v)) n g) args s cells slots (fun q => B ≤ q)) (F0 m pc ls [.int v]) := by
  obtain ⟨⟨hx, hb, hml, hown, hts⟩, hK⟩ := E
  exact m_end S hz (fun hq hf => W.iret hx hb hr hq hf hdg hlocks)
theorem m_zret (E : m_V p m c cc nL s args own D K) (S : m_S D B K n g s.heap H locs) (hz : s.heap.size + cells = B + n) (hr : meth.sig.returnType = some .boolean) (hlocks : meth.locks = false) {v : Int32} (hv : v = 0 ∨ v = 1) (hdg : decode cc pc = .ok (.ireturn, 1)) :
    W p l e R s m args below meth c H locs cells slots (MQ below (m_Q D B K (some (.int v)) n g) args s cells slots (fun q => B ≤ q)) (F0 m pc ls [.int v]) := by
  obtain ⟨⟨hx, hb, hml, hown, hts⟩, hK⟩ := E
  exact m_end S hz (fun hq hf => W.zret hx hb hr (m_fitB hv).1 hq hf hdg hlocks)
theorem m_lret (E : m_V p m c cc nL s args own D K) (S : m_S D B K n g s.heap H locs) (hz : s.heap.size + cells = B + n) (hr : meth.sig.returnType = some .long) (hlocks : meth.locks = false) {v : Int64} (hdg : decode cc pc = .ok (.lreturn, 1)) :
    W p l e R s m args below meth c H locs cells slots (MQ below (m_Q D B K (some (.long v)) n g) args s cells slots (fun q => B ≤ q)) (F0 m pc ls [.long v]) := by
  obtain ⟨⟨hx, hb, hml, hown, hts⟩, hK⟩ := E
  exact m_end S hz (fun hq hf => W.lret hx hb hr hq hf hdg hlocks)
theorem m_vret (E : m_V p m c cc nL s args own D K) (S : m_S D B K n g s.heap H locs) (hz : s.heap.size + cells = B + n) (hr : meth.sig.returnType = none) (hlocks : meth.locks = false) (hdg : decode cc pc = .ok (.return_, 1)) :
    W p l e R s m args below meth c H locs cells slots (MQ below (m_Q D B K none n g) args s cells slots (fun q => B ≤ q)) (F0 m pc ls []) := by
  obtain ⟨⟨hx, hb, hml, hown, hts⟩, hK⟩ := E
  exact m_end S hz (fun hq hf => W.vret hx hb hr hq hf hdg hlocks)
theorem m_aret (E : m_V p m c cc nL s args own D K) (S : m_S D B K n g s.heap H locs) (hz : s.heap.size + cells = B + n) {rt : FieldType} (hr : meth.sig.returnType = some rt) (hrt : (∃ n, rt = .object n) ∨ ∃ t, rt = .array t) (hlocks : meth.locks = false) {r : Option Nat} (hdg : decode cc pc = .ok (.areturn, 1)) :
    W p l e R s m args below meth c H locs cells slots (MQ below (m_Q D B K (some (m_r B r)) n g) args s cells slots (fun q => B ≤ q)) (F0 m pc ls [m_r B r]) := by
  obtain ⟨⟨hx, hb, hml, hown, hts⟩, hK⟩ := E
  exact m_end S hz (fun hq hf => W.aret hx hb hr hrt (by cases r <;> first | exact Or.inl rfl | exact Or.inr ⟨_, rfl⟩) hq hf hdg hlocks)
-- calls
theorem m_blind {n : Nat} {g : m_G} {av : List Value} : FrameBlind (m_Pc D B K n g av) := fun a U f mk h =>
  ⟨h.1, h.2.1, h.2.2.1, m_K.same (s := U) (U := U.calling f mk a) rfl h.2.2.2.1, h.2.2.2.2⟩
theorem m_pc (E : m_V p m c cc nL s args own D K) (S : m_S D B K n g s.heap H locs) (hz : s.heap.size + cells = B + n) (hh : H.size ≤ s.heap.size + cells) {av : List Value} : ∀ U : State, U.heap = H → s.WarmedH U.vm → m_Pc D B K n g av av.toArray U := fun U hU hW =>
  ⟨rfl, by have := S.size; rw [hU]; omega, by rw [hU]; exact S.1, E.2.warm hW, S.2.2.1⟩
theorem m_good {y : MethodName} {bytes : ByteArray} {maxL : Nat} {ret : Option FieldType} (hcd : Cond.code y bytes maxL ret ∈ m_TB) : GoodIn m_TB (Cond.code y bytes maxL ret :: m_TB) := fun w hw => by
  have h : w ∈ m_TB := by
    rcases List.mem_cons.mp hw with rfl | h
    · exact hcd
    · exact h
  exact ⟨h, good_of_word (List.all_eq_true.mp m_TB_good w h)⟩
/-- what a call needs of the tables: the callee's code, and the way from here to it -/
theorem m_ran {mc ms : Nat} {n' : Nat} {g' : m_G} {v : Option Value} {a : Array Value} (E : m_V p m c cc nL s args own D K) (S : m_S D B K n g s.heap H locs) (hr : H.size ≤ s.heap.size + cells → va_Run p l e R s m args below meth c H locs cells slots mc ms (F0 m pc ls rest) rest' (m_Q D B K v n' g' a) (fun q => B ≤ q))
    (kk : ∀ (H1 : Heap) (locs1 : List Loc), m_S D B K n' g' s.heap H1 locs1 → W p l e R s m args below meth c H1 locs1 (cells + mc) (slots + ms) Q (F0 m (pc + 3) ls (v.toList ++ rest'))) : W p l e R s m args below meth c H locs cells slots Q (F0 m pc ls rest) := by
  refine m_size (fun hh => ?_)
  intro T hT X
  obtain ⟨v', st₀, t, T', L, h0, X', hL, e1, e2, ⟨hv, hz, hP, hF, hd⟩, st⟩ := hr hh T hT X
  cases hv
  rw [← e1] at hP
  obtain ⟨hz1, hk⟩ := hF
  rw [h0, ← e1] at hz1 hk
  obtain ⟨t2, a1, b1⟩ := kk T'.heap (locs ++ L) ⟨hP, ⟨Nat.le_trans S.2.1.1 hz1, fun q h1 h2 => by
    rw [hk q (Nat.lt_of_lt_of_le h1 S.2.1.1) h2]; exact S.2.1.2.1 q h1 h2, fun q hq => by
      rcases List.mem_append.mp hq with h | h
      · exact S.2.1.2.2 q h
      · exact hL q h⟩, hd, S.2.2.2⟩ T' rfl X'
  exact ⟨t2, st t2 a1, b1⟩
theorem m_callV {y : MethodName} {bytes : ByteArray} {maxL mc ms index nn b ci N n' : Nat} {ret : Option FieldType} {rm : Room} {As : List Value} {v : Option Value} {g' : m_G} {T : u_T} (E : m_V p m c cc nL s args own D K) (S : m_S D B K n g s.heap H locs) (hz : s.heap.size + cells = B + n)
    (hM : Met l y (Cond.code y bytes maxL ret :: m_TB) rm (m_Pc D B K n g (.ref (B + b) :: As)) (m_Q D B K v n' g') mc ms (fun q => B ≤ q)) (hcd : Cond.code y bytes maxL ret ∈ m_TB) (hrc : rm.cells = mc ∧ rm.slots = ms)
    (hl : Cond.methodLink own index y ∈ m_TB ∨ ∃ host, Cond.methodLinkNest own index y host ∈ m_NW) (hi : Cond.instanceMethod y ∈ m_TB) (hs : Cond.selects y.cls y y ∈ m_TB) (hini : Cond.initialized y.cls ∈ m_TB)
    (hd : y.cls ≠ "java/lang/invoke/MethodHandle" ∧ y.cls ≠ "java/lang/invoke/VarHandle" ∧ (parseMethodDescriptor y.desc).map (fun d => d.parameters.length) = some nn) (hR : rm.frames + 1 ≤ R.frames ∧ 8 + (maxL + 11) + rm.locals ≤ R.locals)
    (ho : m_is g b ci = true) (hc : classes[ci]? = some (y.cls, T, N)) (hn : As.length = nn) (hsz : ls.size = nL) (hst : (rest.map fun v => v.category).sum ≤ 8) (hdg : decode cc pc = .ok (.invokevirtual index, 3)) (hf : cells + mc ≤ R.cells ∧ slots + ms ≤ R.slots)
    (kk : ∀ (H1 : Heap) (locs1 : List Loc), m_S D B K n' g' s.heap H1 locs1 → W p l e R s m args below meth c H1 locs1 (cells + mc) (slots + ms) Q (F0 m (pc + 3) ls (v.toList ++ rest))) : W p l e R s m args below meth c H locs cells slots Q (F0 m pc ls (As.reverse ++ .ref (B + b) :: rest)) := by
  have hts := E.1.2.2.2.2
  obtain ⟨fs, hfs⟩ := m_is_inv ho
  refine m_ran (a := (Value.ref (B + b) :: As).toArray) E S (fun hh => ?_) kk
  have hp : PreV s H y.cls (B + b) (m_Pc D B K n g (.ref (B + b) :: As)) As := ⟨m_blind, va_recv E.2.1 S.1 hc (m_wsO hfs (S.ltO hfs (m_cls_lt hc))), m_pc E S hz hh⟩
  rcases hl with hl | ⟨host, hl⟩
  · exact va_runV E.1 hM ⟨callB_of nn hts (m_good hcd) rfl hrc.1 hrc.2 (hts _ hini) (hts _ hl) hd hR, hts _ hi, hts _ hs⟩ hp rfl hn hsz rfl (lv_room hst) hdg hf
  · exact va_runVN E.1 hM ⟨va_cnB nn hts (m_good hcd) rfl hrc.1 hrc.2 (E.2.2.1 _ hl) (hts _ hini) hd hR, hts _ hi, hts _ hs⟩ hp rfl hn hsz rfl (lv_room hst) hdg hf
theorem m_callS {y : MethodName} {bytes : ByteArray} {maxL mc ms index nn n' : Nat} {ret : Option FieldType} {rm : Room} {As : List Value} {v : Option Value} {g' : m_G} (E : m_V p m c cc nL s args own D K) (S : m_S D B K n g s.heap H locs) (hz : s.heap.size + cells = B + n)
    (hM : Met l y (Cond.code y bytes maxL ret :: m_TB) rm (m_Pc D B K n g As) (m_Q D B K v n' g') mc ms (fun q => B ≤ q)) (hcd : Cond.code y bytes maxL ret ∈ m_TB) (hrc : rm.cells = mc ∧ rm.slots = ms)
    (hl : Cond.methodLink own index y ∈ m_TB ∨ ∃ host, Cond.methodLinkNest own index y host ∈ m_NW) (hi : Cond.static y ∈ m_TB) (hini : Cond.initialized y.cls ∈ m_TB)
    (hd : y.cls ≠ "java/lang/invoke/MethodHandle" ∧ y.cls ≠ "java/lang/invoke/VarHandle" ∧ (parseMethodDescriptor y.desc).map (fun d => d.parameters.length) = some nn) (hR : rm.frames + 1 ≤ R.frames ∧ 8 + (maxL + 11) + rm.locals ≤ R.locals)
    (hn : As.length = nn) (hsz : ls.size = nL) (hst : (rest.map fun v => v.category).sum ≤ 8) (hdg : decode cc pc = .ok (.invokestatic index, 3)) (hf : cells + mc ≤ R.cells ∧ slots + ms ≤ R.slots)
    (kk : ∀ (H1 : Heap) (locs1 : List Loc), m_S D B K n' g' s.heap H1 locs1 → W p l e R s m args below meth c H1 locs1 (cells + mc) (slots + ms) Q (F0 m (pc + 3) ls (v.toList ++ rest))) : W p l e R s m args below meth c H locs cells slots Q (F0 m pc ls (As.reverse ++ rest)) := by
  have hts := E.1.2.2.2.2
  refine m_ran (a := As.toArray) E S (fun hh => ?_) kk
  have hp : PreS s H (m_Pc D B K n g As) As := ⟨m_blind, m_pc E S hz hh⟩
  rcases hl with hl | ⟨host, hl⟩
  · exact va_runS E.1 hM ⟨callB_of nn hts (m_good hcd) rfl hrc.1 hrc.2 (hts _ hini) (hts _ hl) hd hR, hts _ hi⟩ hp rfl hn hsz rfl (lv_room hst) hdg hf
  · exact va_runSN E.1 hM ⟨va_cnB nn hts (m_good hcd) rfl hrc.1 hrc.2 (E.2.2.1 _ hl) (hts _ hini) hd hR, hts _ hi, trivial⟩ hp rfl hn hsz rfl (lv_room hst) hdg hf
theorem m_callI {y : MethodName} {bytes : ByteArray} {maxL mc ms index nn b n' : Nat} {rm : Room} {As : List Value} {g' : m_G} {v : Option Value} (E : m_V p m c cc nL s args own D K) (S : m_S D B K n g s.heap H locs) (hz : s.heap.size + cells = B + n)
    (hM : Met l y (Cond.code y bytes maxL none :: m_TB) rm (m_Pc D B K n g (.ref (B + b) :: As)) (m_Q D B K v n' g') mc ms (fun q => B ≤ q)) (hcd : Cond.code y bytes maxL none ∈ m_TB) (hrc : rm.cells = mc ∧ rm.slots = ms)
    (hl : Cond.methodLink own index y ∈ m_TB ∨ ∃ host, Cond.methodLinkNest own index y host ∈ m_NW) (hi : Cond.instanceMethod y ∈ m_TB) (hini : Cond.initialized y.cls ∈ m_TB) (hy1 : y.name = "<init>")
    (hd : y.cls ≠ "java/lang/invoke/MethodHandle" ∧ y.cls ≠ "java/lang/invoke/VarHandle" ∧ (parseMethodDescriptor y.desc).map (fun d => d.parameters.length) = some nn) (hR : rm.frames + 1 ≤ R.frames ∧ 8 + (maxL + 11) + rm.locals ≤ R.locals)
    (hn : As.length = nn) (hsz : ls.size = nL) (hst : (rest.map fun v => v.category).sum ≤ 8) (hdg : decode cc pc = .ok (.invokespecial index, 3)) (hf : cells + mc ≤ R.cells ∧ slots + ms ≤ R.slots)
    (kk : ∀ (H1 : Heap) (locs1 : List Loc), m_S D B K n' g' s.heap H1 locs1 → W p l e R s m args below meth c H1 locs1 (cells + mc) (slots + ms) Q (F0 m (pc + 3) ls (v.toList ++ rest))) : W p l e R s m args below meth c H locs cells slots Q (F0 m pc ls (As.reverse ++ .ref (B + b) :: rest)) := by
  have hts := E.1.2.2.2.2
  refine m_ran (a := (Value.ref (B + b) :: As).toArray) E S (fun hh => ?_) kk
  have hp : PreS s H (m_Pc D B K n g (.ref (B + b) :: As)) (.ref (B + b) :: As) := ⟨m_blind, m_pc E S hz hh⟩
  rcases hl with hl | ⟨host, hl⟩
  · exact va_runI E.1 hM ⟨callB_of nn hts (m_good hcd) rfl hrc.1 hrc.2 (hts _ hini) (hts _ hl) hd hR, hy1, hts _ hi⟩ hp rfl hn hsz rfl (lv_room hst) hdg hf
  · exact va_runIN E.1 hM ⟨va_cnB nn hts (m_good hcd) rfl hrc.1 hrc.2 (E.2.2.1 _ hl) (hts _ hini) hd hR, hy1, hts _ hi⟩ hp rfl hn hsz rfl (lv_room hst) hdg hf
-- making
theorem m_S.push {H1 : Heap} {x : m_E} {H0 : Heap} (S : m_S D B K n g H0 H locs) (hB : H.size = B + n) (h1 : va_at D classes (B + n, m_c B K x) H1) (z : H1.size = H.size + 1) (o : ∀ q, q < H.size → H1[q]? = H[q]?) : m_S D B K (n + 1) (va_up g n x) H0 H1 locs := by
  refine ⟨?_, ⟨by have := S.2.1.1; omega, fun q h1 h2 => ?_, S.2.1.2.2⟩, fun i hi => ?_, S.2.2.2⟩
  · rw [← m_ws_push]
    refine va_P.app (S.1.kept (fun k q hk => ?_)) (fun k q hk => ?_)
    · exact o _ (S.1 k q hk).lt
    · have hz : k < 1 := (List.getElem?_eq_some_iff.mp hk).1
      rw [show k = 0 by omega] at hk
      cases hk
      exact h1
  · rw [o q (Nat.lt_of_lt_of_le h1 S.2.1.1)]
    exact S.2.1.2.1 q h1 h2
  · rw [va_up, if_neg (by omega)]
    exact S.2.2.1 i (by omega)
theorem m_new {g' : m_G} (E : m_V p m c cc nL s args own D K) (S : m_S D B K n g s.heap H locs) (hz : s.heap.size + cells = B + n) {ci index N : Nat} {C : String} {T : u_T} {fs : List Value} (ty : Nat → FieldType) (hty : ∀ k, k < N → parseFieldDescriptor (T k).2.2.1 = some (ty k)) (hin : ∀ w ∈ u_ws C T N, w ∈ m_TB) (hc : classes[ci]? = some (C, T, N)) (hcl : Cond.classLink own index C ∈ m_TB) (hinst : Cond.instantiable C N ∈ m_TB) (hini : Cond.initialized C ∈ m_TB)
    (hfs : ∀ j, j < N → defaultValue (ty j) = vp_V (fs.map (m_v B)) j) (hcells : cells + 1 ≤ R.cells) (hslots : slots + N ≤ R.slots) (hv : m_nw g n (.inr (ci, fs)) = some g') (hdg : decode cc pc = .ok (.new index, 3))
    (kk : ∀ (H1 : Heap), m_S D B K (n + 1) g' s.heap H1 locs → W p l e R s m args below meth c H1 locs (cells + 1) (slots + N) Q (F0 m (pc + 3) ls (.ref (B + n) :: rest))) : W p l e R s m args below meth c H locs cells slots Q (F0 m pc ls rest) := by
  obtain ⟨⟨hx, hb, hml, hown, hts⟩, hK⟩ := E
  cases hv
  refine m_size (fun hh => ?_)
  have hB : H.size = B + n := by have := S.size; omega
  have hKn := hK.1.1 ci _ hc
  refine W.newcK hx hb hown (hts _ hcl) (hts _ hinst) (hts _ hini) rfl hdg hcells hslots hKn.2.1 hB fun H1 kC hkC e1 z1 o1 => ?_
  exact kk H1 (S.push hB ⟨_, hc, (u_born ty hts hin hKn hkC e1 hty).to hfs⟩ (by rw [hB]; exact z1) (by rw [hB]; exact o1))
theorem m_newa {g' : m_G} (E : m_V p m c cc nL s args own D K) (S : m_S D B K n g s.heap H locs) (hz : s.heap.size + cells = B + n) {atype : ArrayType} {t N : Nat} {k : Int32} {a0 : vp_A} (harr : Cond.arrayClass (newarray.typeOf atype) ∈ m_TB) (ht : m_TY[t]? = some (newarray.typeOf atype))
    (ha : ∀ cA : ClassId, vp_cell cA a0 = arrV cA N (fun _ => defaultValue (newarray.typeOf atype))) (ha2 : m_a B a0 = a0) (hn : ¬ k < 0) (hN : k.toNatClampNeg = N) (hbytes : N * componentBytes (newarray.typeOf atype) ≤ 536870912) (hcells : cells + 1 ≤ R.cells) (hslots : slots + N ≤ R.slots) (hv : m_nw g n (.inl (t, a0)) = some g') (hdg : decode cc pc = .ok (.newarray atype, 2))
    (kk : ∀ (H1 : Heap), m_S D B K (n + 1) g' s.heap H1 locs → W p l e R s m args below meth c H1 locs (cells + 1) (slots + N) Q (F0 m (pc + 2) ls (.ref (B + n) :: rest))) : W p l e R s m args below meth c H locs cells slots Q (F0 m pc ls (.int k :: rest)) := by
  obtain ⟨⟨hx, hb, hml, hown, hts⟩, hK⟩ := E
  cases hv
  refine m_size (fun hh => ?_)
  have hB : H.size = B + n := by have := S.size; omega
  refine va_newaK hx hb (hts _ harr) rfl hdg rfl hn hN hbytes hcells hslots hB fun H1 cA e1 z1 o1 hAr hNm => ?_
  have hcA : cA = K t := by
    have h2 := (hK.1.2 t _ (m_tys_get ht)).2
    have h3 : s.vm.findClass ("[" ++ (newarray.typeOf atype).toString) = some (K t) := by cases atype <;> exact h2
    exact Option.some.inj (hNm.symm.trans h3)
  subst hcA
  refine kk H1 (S.push hB ?_ (by rw [hB]; exact z1) (by rw [hB]; exact o1))
  show H1[B + n]? = some (vp_cell (K t) (m_a B a0))
  rw [ha2, ha]
  exact e1
theorem m_newq {g' : m_G} (E : m_V p m c cc nL s args own D K) (S : m_S D B K n g s.heap H locs) (hz : s.heap.size + cells = B + n) {t N index : Nat} {k : Int32} {C : String} (hcl : Cond.classLink own index C ∈ m_TB) (hov : C ∈ m_AO) (ht : m_TY[t]? = some (.object C))
    (hn : ¬ k < 0) (hN : k.toNatClampNeg = N) (hbytes : N * 4 ≤ 536870912) (hcells : cells + 1 ≤ R.cells) (hslots : slots + N ≤ R.slots) (hv : m_nw g n (.inl (t, N, .inr (.inr (.inr (.inr (fun _ => none)))))) = some g') (hdg : decode cc pc = .ok (.anewarray index, 3))
    (kk : ∀ (H1 : Heap), m_S D B K (n + 1) g' s.heap H1 locs → W p l e R s m args below meth c H1 locs (cells + 1) (slots + N) Q (F0 m (pc + 3) ls (.ref (B + n) :: rest))) : W p l e R s m args below meth c H locs cells slots Q (F0 m pc ls (.int k :: rest)) := by
  obtain ⟨⟨hx, hb, hml, hown, hts⟩, hK⟩ := E
  cases hv
  refine m_size (fun hh => ?_)
  have hB : H.size = B + n := by have := S.size; omega
  subst hN
  refine W.anew hx hb hown (hts _ hcl) (va_AO.use (hK.2.2 _ hov)) rfl hdg rfl hn hbytes hcells hslots fun cA kA comp f1 f2 f3 f4 => ?_
  have hcA : cA = K t := by
    obtain ⟨_, _, _, _, _, h4⟩ := (hK.1.2 t _ (m_tys_get ht)).2
    exact Option.some.inj (f1.symm.trans h4)
  subst hcA
  rw [hB]
  refine kk _ (S.push hB ?_ (by rw [Array.size_push]) (fun q hq => by rw [Array.getElem?_push, if_neg (Nat.ne_of_lt hq)]))
  show (H.push _)[B + n]? = some (vp_cell (K t) _)
  rw [← hB, Array.getElem?_push_size, arrV_new]
  rfl
end MD
/-- a contract out of the walk of its method's body -/
theorem m_met {l : Launch} {D : va_G} {B : Nat} {K : Nat → ClassId} {y : MethodName} {bytes : ByteArray} {maxL mc ms n n' : Nat} {ret : Option FieldType} {rm : Room} {g g' : m_G} {av : List Value} {v : Option Value} (hy : plainName y.cls = true) (hlen : (lg_sl av).length ≤ maxL)
    (body : ∀ (p : Program) (e : Env) (s : State) (m : MethodId) (args : Array Value) (below : List Frame) (meth : Method) (c : Code) (ls : Array Slot), m_V p m c bytes maxL s args y.cls D K → meth.sig.returnType = ret → meth.locks = false → meth.name = y.name → s.heap.size = B + n → m_S D B K n g s.heap s.heap [] → lv_has ls maxL (lv_args 0 av) →
      W p l e rm s m args below meth c s.heap [] 0 0 (MQ below (m_Q D B K v n' g') args s mc ms (fun q => B ≤ q)) (F0 m 0 ls [])) : Met l y (Cond.code y bytes maxL ret :: m_TB) rm (m_Pc D B K n g av) (m_Q D B K v n' g') mc ms (fun q => B ≤ q) := by
  refine Met.ofW (cc := bytes) (maxL := maxL) (ret := ret) hy rfl ?_
  intro p e s m args below meth c s₁ X hml hv
  obtain ⟨rfl, hsz, hP, hK, hd⟩ := hv
  have hts := atoms_spec (ws := Cond.code y bytes maxL ret :: m_TB) X.pre
  have hown : s.vm.findClass y.cls = some m.cls := findClass_of_methodNamed X.named
  have hnm : meth.name = y.name := (name_of_methodNamed X.named X.method).1
  have hl := lv_entry av (n := maxL) hlen
  rw [lg_entry_eq]
  exact body p e s m _ below meth c _ ⟨⟨X.exec, X.bytes, hml, hown, fun w hw => hts w (List.mem_cons_of_mem _ hw)⟩, hK⟩ X.returns X.notSynchronized hnm hsz ⟨hP, va_S.rf, hd, by rw [hsz]; exact Nat.le_add_right _ _⟩ hl
end
