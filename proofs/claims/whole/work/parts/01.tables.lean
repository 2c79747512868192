-- ===== PART A: goes FIRST, ahead of the names: the tables' words, and 'selects' of the private methods out of them =====
/-- a private method of a class that the tables say can be made, by its rows of tables_1 -/
def lw_okq (q : MethodName × Nat) : Prop := (q.1.cls ≠ "java/lang/invoke/MethodHandle" ∧ q.1.cls ≠ "java/lang/invoke/VarHandle") ∧ Cond.instantiable q.1.cls q.2 ∈ tables_1 ∧ Cond.privateMethod q.1 ∈ tables_1 ∧ Cond.instanceMethod q.1 ∈ tables_1
theorem lw_p0 : lw_okq (⟨"CacheLevels$Bank", "isSlot", "(I)Z"⟩, 7) := ⟨⟨by decide +kernel, by decide +kernel⟩, List.mem_of_getElem? (i := 23) (by decide +kernel), List.mem_of_getElem? (i := 128) (by decide +kernel), List.mem_of_getElem? (i := 129) (by decide +kernel)⟩
theorem lw_p1 : lw_okq (⟨"CacheLevels", "writtenInFirst", "(I)I"⟩, 10) := ⟨⟨by decide +kernel, by decide +kernel⟩, List.mem_of_getElem? (i := 12) (by decide +kernel), List.mem_of_getElem? (i := 136) (by decide +kernel), List.mem_of_getElem? (i := 137) (by decide +kernel)⟩
theorem lw_p2 : lw_okq (⟨"CacheLevels$Versions", "indexOf", "(I)I"⟩, 5) := ⟨⟨by decide +kernel, by decide +kernel⟩, List.mem_of_getElem? (i := 58) (by decide +kernel), List.mem_of_getElem? (i := 162) (by decide +kernel), List.mem_of_getElem? (i := 163) (by decide +kernel)⟩
theorem lw_p3 : lw_okq (⟨"CacheLevels", "requireCore", "(I)V"⟩, 10) := ⟨⟨by decide +kernel, by decide +kernel⟩, List.mem_of_getElem? (i := 12) (by decide +kernel), List.mem_of_getElem? (i := 210) (by decide +kernel), List.mem_of_getElem? (i := 211) (by decide +kernel)⟩
theorem lw_p4 : lw_okq (⟨"java/lang/Throwable", "fillInStackTrace", "(I)Ljava/lang/Throwable;"⟩, 6) := ⟨⟨by decide +kernel, by decide +kernel⟩, List.mem_of_getElem? (i := 251) (by decide +kernel), List.mem_of_getElem? (i := 249) (by decide +kernel), List.mem_of_getElem? (i := 250) (by decide +kernel)⟩
theorem lw_p5 : lw_okq (⟨"CacheLevels", "tally", "(II)V"⟩, 10) := ⟨⟨by decide +kernel, by decide +kernel⟩, List.mem_of_getElem? (i := 12) (by decide +kernel), List.mem_of_getElem? (i := 297) (by decide +kernel), List.mem_of_getElem? (i := 298) (by decide +kernel)⟩
theorem lw_p6 : lw_okq (⟨"CacheLevels$Bank", "swap", "(II)V"⟩, 7) := ⟨⟨by decide +kernel, by decide +kernel⟩, List.mem_of_getElem? (i := 23) (by decide +kernel), List.mem_of_getElem? (i := 305) (by decide +kernel), List.mem_of_getElem? (i := 306) (by decide +kernel)⟩
theorem lw_p7 : lw_okq (⟨"CacheLevels", "handOver", "(I)V"⟩, 10) := ⟨⟨by decide +kernel, by decide +kernel⟩, List.mem_of_getElem? (i := 12) (by decide +kernel), List.mem_of_getElem? (i := 309) (by decide +kernel), List.mem_of_getElem? (i := 310) (by decide +kernel)⟩
theorem lw_p8 : lw_okq (⟨"CacheLevels", "writeDown", "(II)V"⟩, 10) := ⟨⟨by decide +kernel, by decide +kernel⟩, List.mem_of_getElem? (i := 12) (by decide +kernel), List.mem_of_getElem? (i := 317) (by decide +kernel), List.mem_of_getElem? (i := 318) (by decide +kernel)⟩
theorem lw_p9 : lw_okq (⟨"CacheLevels", "bring", "(II)I"⟩, 10) := ⟨⟨by decide +kernel, by decide +kernel⟩, List.mem_of_getElem? (i := 12) (by decide +kernel), List.mem_of_getElem? (i := 325) (by decide +kernel), List.mem_of_getElem? (i := 326) (by decide +kernel)⟩
theorem lw_p10 : lw_okq (⟨"CacheLevels", "passesBy", "(I)Z"⟩, 10) := ⟨⟨by decide +kernel, by decide +kernel⟩, List.mem_of_getElem? (i := 12) (by decide +kernel), List.mem_of_getElem? (i := 329) (by decide +kernel), List.mem_of_getElem? (i := 330) (by decide +kernel)⟩
theorem lw_p11 : lw_okq (⟨"CacheLevels", "comeIntoSecond", "(IIIZ)V"⟩, 10) := ⟨⟨by decide +kernel, by decide +kernel⟩, List.mem_of_getElem? (i := 12) (by decide +kernel), List.mem_of_getElem? (i := 333) (by decide +kernel), List.mem_of_getElem? (i := 334) (by decide +kernel)⟩
theorem lw_p12 : lw_okq (⟨"CacheLevels", "leaveSecond", "(I)V"⟩, 10) := ⟨⟨by decide +kernel, by decide +kernel⟩, List.mem_of_getElem? (i := 12) (by decide +kernel), List.mem_of_getElem? (i := 347) (by decide +kernel), List.mem_of_getElem? (i := 348) (by decide +kernel)⟩
theorem lw_p13 : lw_okq (⟨"CacheLevels", "makeRoomInFirst", "(II)V"⟩, 10) := ⟨⟨by decide +kernel, by decide +kernel⟩, List.mem_of_getElem? (i := 12) (by decide +kernel), List.mem_of_getElem? (i := 371) (by decide +kernel), List.mem_of_getElem? (i := 372) (by decide +kernel)⟩
theorem lw_p14 : lw_okq (⟨"CacheLevels", "write", "(II)V"⟩, 10) := ⟨⟨by decide +kernel, by decide +kernel⟩, List.mem_of_getElem? (i := 12) (by decide +kernel), List.mem_of_getElem? (i := 376) (by decide +kernel), List.mem_of_getElem? (i := 377) (by decide +kernel)⟩
theorem lw_p15 : lw_okq (⟨"CacheLevels", "requireCoreOrNone", "(I)V"⟩, 10) := ⟨⟨by decide +kernel, by decide +kernel⟩, List.mem_of_getElem? (i := 12) (by decide +kernel), List.mem_of_getElem? (i := 399) (by decide +kernel), List.mem_of_getElem? (i := 400) (by decide +kernel)⟩
def lw_privs_1 : List (MethodName × Nat) := [(⟨"CacheLevels$Bank", "isSlot", "(I)Z"⟩, 7), (⟨"CacheLevels", "writtenInFirst", "(I)I"⟩, 10), (⟨"CacheLevels$Versions", "indexOf", "(I)I"⟩, 5), (⟨"CacheLevels", "requireCore", "(I)V"⟩, 10), (⟨"java/lang/Throwable", "fillInStackTrace", "(I)Ljava/lang/Throwable;"⟩, 6), (⟨"CacheLevels", "tally", "(II)V"⟩, 10), (⟨"CacheLevels$Bank", "swap", "(II)V"⟩, 7), (⟨"CacheLevels", "handOver", "(I)V"⟩, 10), (⟨"CacheLevels", "writeDown", "(II)V"⟩, 10), (⟨"CacheLevels", "bring", "(II)I"⟩, 10), (⟨"CacheLevels", "passesBy", "(I)Z"⟩, 10), (⟨"CacheLevels", "comeIntoSecond", "(IIIZ)V"⟩, 10), (⟨"CacheLevels", "leaveSecond", "(I)V"⟩, 10), (⟨"CacheLevels", "makeRoomInFirst", "(II)V"⟩, 10), (⟨"CacheLevels", "write", "(II)V"⟩, 10), (⟨"CacheLevels", "requireCoreOrNone", "(I)V"⟩, 10)]
theorem lw_r1 : ∀ q ∈ lw_privs_1, lw_okq q := List.forall_mem_cons.mpr ⟨lw_p0, List.forall_mem_cons.mpr ⟨lw_p1, List.forall_mem_cons.mpr ⟨lw_p2, List.forall_mem_cons.mpr ⟨lw_p3, List.forall_mem_cons.mpr ⟨lw_p4, List.forall_mem_cons.mpr ⟨lw_p5, List.forall_mem_cons.mpr ⟨lw_p6, List.forall_mem_cons.mpr ⟨lw_p7, List.forall_mem_cons.mpr ⟨lw_p8, List.forall_mem_cons.mpr ⟨lw_p9, List.forall_mem_cons.mpr ⟨lw_p10, List.forall_mem_cons.mpr ⟨lw_p11, List.forall_mem_cons.mpr ⟨lw_p12, List.forall_mem_cons.mpr ⟨lw_p13, List.forall_mem_cons.mpr ⟨lw_p14, List.forall_mem_cons.mpr ⟨lw_p15, fun _ h => absurd h List.not_mem_nil⟩⟩⟩⟩⟩⟩⟩⟩⟩⟩⟩⟩⟩⟩⟩⟩
theorem lw_p16 : lw_okq (⟨"CacheLevels", "bankOf", "(I)LCacheLevels$Bank;"⟩, 10) := ⟨⟨by decide +kernel, by decide +kernel⟩, List.mem_of_getElem? (i := 12) (by decide +kernel), List.mem_of_getElem? (i := 403) (by decide +kernel), List.mem_of_getElem? (i := 404) (by decide +kernel)⟩
theorem lw_p17 : lw_okq (⟨"CacheLevelsModel", "isCore", "(I)Z"⟩, 20) := ⟨⟨by decide +kernel, by decide +kernel⟩, List.mem_of_getElem? (i := 440) (by decide +kernel), List.mem_of_getElem? (i := 518) (by decide +kernel), List.mem_of_getElem? (i := 519) (by decide +kernel)⟩
theorem lw_p18 : lw_okq (⟨"CacheLevelsModel", "fail", "(I)I"⟩, 20) := ⟨⟨by decide +kernel, by decide +kernel⟩, List.mem_of_getElem? (i := 440) (by decide +kernel), List.mem_of_getElem? (i := 525) (by decide +kernel), List.mem_of_getElem? (i := 526) (by decide +kernel)⟩
theorem lw_p19 : lw_okq (⟨"CacheLevelsModel", "at", "(II)I"⟩, 20) := ⟨⟨by decide +kernel, by decide +kernel⟩, List.mem_of_getElem? (i := 440) (by decide +kernel), List.mem_of_getElem? (i := 529) (by decide +kernel), List.mem_of_getElem? (i := 530) (by decide +kernel)⟩
theorem lw_p20 : lw_okq (⟨"CacheLevelsModel", "bring", "(II)I"⟩, 20) := ⟨⟨by decide +kernel, by decide +kernel⟩, List.mem_of_getElem? (i := 440) (by decide +kernel), List.mem_of_getElem? (i := 533) (by decide +kernel), List.mem_of_getElem? (i := 534) (by decide +kernel)⟩
theorem lw_p21 : lw_okq (⟨"CacheLevelsModel", "handOver", "(II)V"⟩, 20) := ⟨⟨by decide +kernel, by decide +kernel⟩, List.mem_of_getElem? (i := 440) (by decide +kernel), List.mem_of_getElem? (i := 537) (by decide +kernel), List.mem_of_getElem? (i := 538) (by decide +kernel)⟩
theorem lw_p22 : lw_okq (⟨"CacheLevelsModel", "goDown", "(II)V"⟩, 20) := ⟨⟨by decide +kernel, by decide +kernel⟩, List.mem_of_getElem? (i := 440) (by decide +kernel), List.mem_of_getElem? (i := 541) (by decide +kernel), List.mem_of_getElem? (i := 542) (by decide +kernel)⟩
theorem lw_p23 : lw_okq (⟨"CacheLevelsModel", "toMemory", "(II)V"⟩, 20) := ⟨⟨by decide +kernel, by decide +kernel⟩, List.mem_of_getElem? (i := 440) (by decide +kernel), List.mem_of_getElem? (i := 545) (by decide +kernel), List.mem_of_getElem? (i := 546) (by decide +kernel)⟩
theorem lw_p24 : lw_okq (⟨"CacheLevelsModel", "learn", "(I)I"⟩, 20) := ⟨⟨by decide +kernel, by decide +kernel⟩, List.mem_of_getElem? (i := 440) (by decide +kernel), List.mem_of_getElem? (i := 549) (by decide +kernel), List.mem_of_getElem? (i := 550) (by decide +kernel)⟩
theorem lw_p25 : lw_okq (⟨"CacheLevelsModel", "find", "(I)I"⟩, 20) := ⟨⟨by decide +kernel, by decide +kernel⟩, List.mem_of_getElem? (i := 440) (by decide +kernel), List.mem_of_getElem? (i := 553) (by decide +kernel), List.mem_of_getElem? (i := 554) (by decide +kernel)⟩
theorem lw_p26 : lw_okq (⟨"CacheLevelsModel", "takeOut", "(II)V"⟩, 20) := ⟨⟨by decide +kernel, by decide +kernel⟩, List.mem_of_getElem? (i := 440) (by decide +kernel), List.mem_of_getElem? (i := 557) (by decide +kernel), List.mem_of_getElem? (i := 558) (by decide +kernel)⟩
theorem lw_p27 : lw_okq (⟨"CacheLevelsModel", "copy", "(II)V"⟩, 20) := ⟨⟨by decide +kernel, by decide +kernel⟩, List.mem_of_getElem? (i := 440) (by decide +kernel), List.mem_of_getElem? (i := 561) (by decide +kernel), List.mem_of_getElem? (i := 562) (by decide +kernel)⟩
theorem lw_p28 : lw_okq (⟨"CacheLevelsModel", "use", "(II)V"⟩, 20) := ⟨⟨by decide +kernel, by decide +kernel⟩, List.mem_of_getElem? (i := 440) (by decide +kernel), List.mem_of_getElem? (i := 565) (by decide +kernel), List.mem_of_getElem? (i := 566) (by decide +kernel)⟩
theorem lw_p29 : lw_okq (⟨"CacheLevelsModel", "putFirst", "(IIZII)V"⟩, 20) := ⟨⟨by decide +kernel, by decide +kernel⟩, List.mem_of_getElem? (i := 440) (by decide +kernel), List.mem_of_getElem? (i := 569) (by decide +kernel), List.mem_of_getElem? (i := 570) (by decide +kernel)⟩
theorem lw_p30 : lw_okq (⟨"CacheLevelsModel", "comeToFirst", "(IIZI)V"⟩, 20) := ⟨⟨by decide +kernel, by decide +kernel⟩, List.mem_of_getElem? (i := 440) (by decide +kernel), List.mem_of_getElem? (i := 573) (by decide +kernel), List.mem_of_getElem? (i := 574) (by decide +kernel)⟩
theorem lw_p31 : lw_okq (⟨"CacheLevelsModel", "setOf", "(II)I"⟩, 20) := ⟨⟨by decide +kernel, by decide +kernel⟩, List.mem_of_getElem? (i := 440) (by decide +kernel), List.mem_of_getElem? (i := 577) (by decide +kernel), List.mem_of_getElem? (i := 578) (by decide +kernel)⟩
def lw_privs_2 : List (MethodName × Nat) := [(⟨"CacheLevels", "bankOf", "(I)LCacheLevels$Bank;"⟩, 10), (⟨"CacheLevelsModel", "isCore", "(I)Z"⟩, 20), (⟨"CacheLevelsModel", "fail", "(I)I"⟩, 20), (⟨"CacheLevelsModel", "at", "(II)I"⟩, 20), (⟨"CacheLevelsModel", "bring", "(II)I"⟩, 20), (⟨"CacheLevelsModel", "handOver", "(II)V"⟩, 20), (⟨"CacheLevelsModel", "goDown", "(II)V"⟩, 20), (⟨"CacheLevelsModel", "toMemory", "(II)V"⟩, 20), (⟨"CacheLevelsModel", "learn", "(I)I"⟩, 20), (⟨"CacheLevelsModel", "find", "(I)I"⟩, 20), (⟨"CacheLevelsModel", "takeOut", "(II)V"⟩, 20), (⟨"CacheLevelsModel", "copy", "(II)V"⟩, 20), (⟨"CacheLevelsModel", "use", "(II)V"⟩, 20), (⟨"CacheLevelsModel", "putFirst", "(IIZII)V"⟩, 20), (⟨"CacheLevelsModel", "comeToFirst", "(IIZI)V"⟩, 20), (⟨"CacheLevelsModel", "setOf", "(II)I"⟩, 20)]
theorem lw_r2 : ∀ q ∈ lw_privs_2, lw_okq q := List.forall_mem_cons.mpr ⟨lw_p16, List.forall_mem_cons.mpr ⟨lw_p17, List.forall_mem_cons.mpr ⟨lw_p18, List.forall_mem_cons.mpr ⟨lw_p19, List.forall_mem_cons.mpr ⟨lw_p20, List.forall_mem_cons.mpr ⟨lw_p21, List.forall_mem_cons.mpr ⟨lw_p22, List.forall_mem_cons.mpr ⟨lw_p23, List.forall_mem_cons.mpr ⟨lw_p24, List.forall_mem_cons.mpr ⟨lw_p25, List.forall_mem_cons.mpr ⟨lw_p26, List.forall_mem_cons.mpr ⟨lw_p27, List.forall_mem_cons.mpr ⟨lw_p28, List.forall_mem_cons.mpr ⟨lw_p29, List.forall_mem_cons.mpr ⟨lw_p30, List.forall_mem_cons.mpr ⟨lw_p31, fun _ h => absurd h List.not_mem_nil⟩⟩⟩⟩⟩⟩⟩⟩⟩⟩⟩⟩⟩⟩⟩⟩
theorem lw_p32 : lw_okq (⟨"CacheLevelsModel", "sets", "(I)I"⟩, 20) := ⟨⟨by decide +kernel, by decide +kernel⟩, List.mem_of_getElem? (i := 440) (by decide +kernel), List.mem_of_getElem? (i := 581) (by decide +kernel), List.mem_of_getElem? (i := 582) (by decide +kernel)⟩
theorem lw_p33 : lw_okq (⟨"CacheLevelsModel", "oldest", "(IIII)I"⟩, 20) := ⟨⟨by decide +kernel, by decide +kernel⟩, List.mem_of_getElem? (i := 440) (by decide +kernel), List.mem_of_getElem? (i := 585) (by decide +kernel), List.mem_of_getElem? (i := 586) (by decide +kernel)⟩
theorem lw_p34 : lw_okq (⟨"CacheLevelsModel", "passes", "(I)Z"⟩, 20) := ⟨⟨by decide +kernel, by decide +kernel⟩, List.mem_of_getElem? (i := 440) (by decide +kernel), List.mem_of_getElem? (i := 589) (by decide +kernel), List.mem_of_getElem? (i := 590) (by decide +kernel)⟩
theorem lw_p35 : lw_okq (⟨"CacheLevelsModel", "isOneOf", "(II)Z"⟩, 20) := ⟨⟨by decide +kernel, by decide +kernel⟩, List.mem_of_getElem? (i := 440) (by decide +kernel), List.mem_of_getElem? (i := 593) (by decide +kernel), List.mem_of_getElem? (i := 594) (by decide +kernel)⟩
theorem lw_p36 : lw_okq (⟨"CacheLevelsModel", "comeToSecond", "(IIZI)V"⟩, 20) := ⟨⟨by decide +kernel, by decide +kernel⟩, List.mem_of_getElem? (i := 440) (by decide +kernel), List.mem_of_getElem? (i := 597) (by decide +kernel), List.mem_of_getElem? (i := 598) (by decide +kernel)⟩
theorem lw_p37 : lw_okq (⟨"CacheLevelsModel", "leaveSecond", "(I)V"⟩, 20) := ⟨⟨by decide +kernel, by decide +kernel⟩, List.mem_of_getElem? (i := 440) (by decide +kernel), List.mem_of_getElem? (i := 601) (by decide +kernel), List.mem_of_getElem? (i := 602) (by decide +kernel)⟩
theorem lw_p38 : lw_okq (⟨"CacheLevelsModel", "memoryOf", "(I)I"⟩, 20) := ⟨⟨by decide +kernel, by decide +kernel⟩, List.mem_of_getElem? (i := 440) (by decide +kernel), List.mem_of_getElem? (i := 605) (by decide +kernel), List.mem_of_getElem? (i := 606) (by decide +kernel)⟩
theorem lw_p39 : lw_okq (⟨"CacheLevelsModel", "othersLose", "(II)V"⟩, 20) := ⟨⟨by decide +kernel, by decide +kernel⟩, List.mem_of_getElem? (i := 440) (by decide +kernel), List.mem_of_getElem? (i := 609) (by decide +kernel), List.mem_of_getElem? (i := 610) (by decide +kernel)⟩
theorem lw_p40 : lw_okq (⟨"CacheLevelsModel", "isWrittenInFirst", "(I)Z"⟩, 20) := ⟨⟨by decide +kernel, by decide +kernel⟩, List.mem_of_getElem? (i := 440) (by decide +kernel), List.mem_of_getElem? (i := 625) (by decide +kernel), List.mem_of_getElem? (i := 626) (by decide +kernel)⟩
theorem lw_p41 : lw_okq (⟨"CacheLevelsModel", "cacheOf", "(I)I"⟩, 20) := ⟨⟨by decide +kernel, by decide +kernel⟩, List.mem_of_getElem? (i := 440) (by decide +kernel), List.mem_of_getElem? (i := 633) (by decide +kernel), List.mem_of_getElem? (i := 634) (by decide +kernel)⟩
def lw_privs_3 : List (MethodName × Nat) := [(⟨"CacheLevelsModel", "sets", "(I)I"⟩, 20), (⟨"CacheLevelsModel", "oldest", "(IIII)I"⟩, 20), (⟨"CacheLevelsModel", "passes", "(I)Z"⟩, 20), (⟨"CacheLevelsModel", "isOneOf", "(II)Z"⟩, 20), (⟨"CacheLevelsModel", "comeToSecond", "(IIZI)V"⟩, 20), (⟨"CacheLevelsModel", "leaveSecond", "(I)V"⟩, 20), (⟨"CacheLevelsModel", "memoryOf", "(I)I"⟩, 20), (⟨"CacheLevelsModel", "othersLose", "(II)V"⟩, 20), (⟨"CacheLevelsModel", "isWrittenInFirst", "(I)Z"⟩, 20), (⟨"CacheLevelsModel", "cacheOf", "(I)I"⟩, 20)]
theorem lw_r3 : ∀ q ∈ lw_privs_3, lw_okq q := List.forall_mem_cons.mpr ⟨lw_p32, List.forall_mem_cons.mpr ⟨lw_p33, List.forall_mem_cons.mpr ⟨lw_p34, List.forall_mem_cons.mpr ⟨lw_p35, List.forall_mem_cons.mpr ⟨lw_p36, List.forall_mem_cons.mpr ⟨lw_p37, List.forall_mem_cons.mpr ⟨lw_p38, List.forall_mem_cons.mpr ⟨lw_p39, List.forall_mem_cons.mpr ⟨lw_p40, List.forall_mem_cons.mpr ⟨lw_p41, fun _ h => absurd h List.not_mem_nil⟩⟩⟩⟩⟩⟩⟩⟩⟩⟩
def lw_privs : List (MethodName × Nat) := lw_privs_1 ++ (lw_privs_2 ++ (lw_privs_3))
def lw_tbl : List Cond := k2_sels lw_privs ++ tables_1
theorem lw_privs_ok : ∀ q ∈ lw_privs, lw_okq q := by
  show ∀ q ∈ lw_privs_1 ++ (lw_privs_2 ++ (lw_privs_3)), lw_okq q
  exact List.forall_mem_append.mpr ⟨lw_r1, List.forall_mem_append.mpr ⟨lw_r2, lw_r3⟩⟩
def tbW : List Cond := lw_tbl.filter goodWord
theorem tbW_good : ∀ w ∈ tbW, goodWord w = true := fun _ h => (List.mem_filter.mp h).2
theorem tbW_tbl : ∀ w ∈ tbW, w ∈ lw_tbl := fun _ h => (List.mem_filter.mp h).1
theorem tw {w : Cond} (i : Nat) (h : tables_1[i]? = some w) (hg : goodWord w = true) : w ∈ tbW := List.mem_filter.mpr ⟨List.mem_append_right _ (List.mem_of_getElem? h), hg⟩
theorem tp {w : Cond} (i : Nat) (h : (k2_sels lw_privs)[i]? = some w) (hg : goodWord w = true) : w ∈ tbW := List.mem_filter.mpr ⟨List.mem_append_left _ (List.mem_of_getElem? h), hg⟩
def R_B : String := "CacheLevels$Bank"
def T_B : u_T := fun k => match k with
  | 0 => ("CacheLevels$Bank", "sets", "I", true)
  | 1 => ("CacheLevels$Bank", "ways", "I", true)
  | 2 => ("CacheLevels$Bank", "sizes", "[I", true)
  | 3 => ("CacheLevels$Bank", "lines", "[I", true)
  | 4 => ("CacheLevels$Bank", "versions", "[I", true)
  | 5 => ("CacheLevels$Bank", "owners", "[I", true)
  | _ => ("CacheLevels$Bank", "written", "[Z", true)
def ty_B : Nat → FieldType := fun k => match k with
  | 0 => .int
  | 1 => .int
  | 2 => .array .int
  | 3 => .array .int
  | 4 => .array .int
  | 5 => .array .int
  | _ => .array .boolean
theorem nm_B : ∀ a, a < 7 → ∀ b, b < 7 → a ≠ b → (T_B a).2.1 ≠ (T_B b).2.1 := by decide +kernel
theorem tyo_B : ∀ k, k < 7 → parseFieldDescriptor (T_B k).2.2.1 = some (ty_B k) := by decide +kernel
theorem i_B : ∀ w ∈ u_ws R_B T_B 7, w ∈ tbW := by decide +kernel
def R_V : String := "CacheLevels$Versions"
def T_V : u_T := fun k => match k with
  | 0 => ("CacheLevels$Versions", "writeBacks", "I", false)
  | 1 => ("CacheLevels$Versions", "size", "I", false)
  | 2 => ("CacheLevels$Versions", "lines", "[I", true)
  | 3 => ("CacheLevels$Versions", "newest", "[I", true)
  | _ => ("CacheLevels$Versions", "stored", "[I", true)
def ty_V : Nat → FieldType := fun k => match k with
  | 0 => .int
  | 1 => .int
  | 2 => .array .int
  | 3 => .array .int
  | _ => .array .int
theorem nm_V : ∀ a, a < 5 → ∀ b, b < 5 → a ≠ b → (T_V a).2.1 ≠ (T_V b).2.1 := by decide +kernel
theorem tyo_V : ∀ k, k < 5 → parseFieldDescriptor (T_V k).2.2.1 = some (ty_V k) := by decide +kernel
theorem i_V : ∀ w ∈ u_ws R_V T_V 5, w ∈ tbW := by decide +kernel
def R_C : String := "CacheLevels"
def T_C : u_T := fun k => match k with
  | 0 => ("CacheLevels", "cores", "I", true)
  | 1 => ("CacheLevels", "keeping", "I", true)
  | 2 => ("CacheLevels", "first", "LCacheLevels$Bank;", true)
  | 3 => ("CacheLevels", "second", "LCacheLevels$Bank;", true)
  | 4 => ("CacheLevels", "versions", "LCacheLevels$Versions;", true)
  | 5 => ("CacheLevels", "quotas", "[I", true)
  | 6 => ("CacheLevels", "tallies", "[I", true)
  | 7 => ("CacheLevels", "passFrom", "I", false)
  | 8 => ("CacheLevels", "passTo", "I", false)
  | _ => ("CacheLevels", "handedOver", "I", false)
def ty_C : Nat → FieldType := fun k => match k with
  | 0 => .int
  | 1 => .int
  | 2 => .object "CacheLevels$Bank"
  | 3 => .object "CacheLevels$Bank"
  | 4 => .object "CacheLevels$Versions"
  | 5 => .array .int
  | 6 => .array .int
  | 7 => .int
  | 8 => .int
  | _ => .int
theorem nm_C : ∀ a, a < 10 → ∀ b, b < 10 → a ≠ b → (T_C a).2.1 ≠ (T_C b).2.1 := by decide +kernel
theorem tyo_C : ∀ k, k < 10 → parseFieldDescriptor (T_C k).2.2.1 = some (ty_C k) := by decide +kernel
theorem i_C : ∀ w ∈ u_ws R_C T_C 10, w ∈ tbW := by decide +kernel
def R_M : String := "CacheLevelsModel"
def T_M : u_T := fun k => match k with
  | 0 => ("CacheLevelsModel", "thrown", "I", false)
  | 1 => ("CacheLevelsModel", "cores", "I", true)
  | 2 => ("CacheLevelsModel", "keep", "I", true)
  | 3 => ("CacheLevelsModel", "firstSets", "I", true)
  | 4 => ("CacheLevelsModel", "secondSets", "I", true)
  | 5 => ("CacheLevelsModel", "size", "[I", true)
  | 6 => ("CacheLevelsModel", "line", "[I", true)
  | 7 => ("CacheLevelsModel", "written", "[Z", true)
  | 8 => ("CacheLevelsModel", "version", "[I", true)
  | 9 => ("CacheLevelsModel", "owner", "[I", true)
  | 10 => ("CacheLevelsModel", "quota", "[I", true)
  | 11 => ("CacheLevelsModel", "from", "I", false)
  | 12 => ("CacheLevelsModel", "to", "I", false)
  | 13 => ("CacheLevelsModel", "known", "I", false)
  | 14 => ("CacheLevelsModel", "knownLine", "[I", true)
  | 15 => ("CacheLevelsModel", "latest", "[I", true)
  | 16 => ("CacheLevelsModel", "inMemory", "[I", true)
  | 17 => ("CacheLevelsModel", "counts", "[I", true)
  | 18 => ("CacheLevelsModel", "backs", "I", false)
  | _ => ("CacheLevelsModel", "handed", "I", false)
def ty_M : Nat → FieldType := fun k => match k with
  | 0 => .int
  | 1 => .int
  | 2 => .int
  | 3 => .int
  | 4 => .int
  | 5 => .array .int
  | 6 => .array .int
  | 7 => .array .boolean
  | 8 => .array .int
  | 9 => .array .int
  | 10 => .array .int
  | 11 => .int
  | 12 => .int
  | 13 => .int
  | 14 => .array .int
  | 15 => .array .int
  | 16 => .array .int
  | 17 => .array .int
  | 18 => .int
  | _ => .int
theorem nm_M : ∀ a, a < 20 → ∀ b, b < 20 → a ≠ b → (T_M a).2.1 ≠ (T_M b).2.1 := by decide +kernel
theorem tyo_M : ∀ k, k < 20 → parseFieldDescriptor (T_M k).2.2.1 = some (ty_M k) := by decide +kernel
theorem i_M : ∀ w ∈ u_ws R_M T_M 20, w ∈ tbW := by decide +kernel
abbrev vwCl : List vw_C := [(R_B, T_B, 7), (R_V, T_V, 5), (R_C, T_C, 10), (R_M, T_M, 20)]
